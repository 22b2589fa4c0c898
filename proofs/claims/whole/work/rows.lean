section
/-- a private method of a class that the tables say can be made, by its rows of tables_1 -/
def lw_okq (q : MethodName × Nat) : Prop := (q.1.cls ≠ "java/lang/invoke/MethodHandle" ∧ q.1.cls ≠ "java/lang/invoke/VarHandle") ∧ Cond.instantiable q.1.cls q.2 ∈ tables_1 ∧ Cond.privateMethod q.1 ∈ tables_1 ∧ Cond.instanceMethod q.1 ∈ tables_1
theorem lw_p0 : lw_okq (⟨"SunRings$Drops", "thrownBack", "(I)I"⟩, 3) := ⟨⟨by decide +kernel, by decide +kernel⟩, List.mem_of_getElem? (i := 65) (by decide +kernel), List.mem_of_getElem? (i := 274) (by decide +kernel), List.mem_of_getElem? (i := 275) (by decide +kernel)⟩
theorem lw_p1 : lw_okq (⟨"SunRings$Ice", "addArcs", "(II)V"⟩, 2) := ⟨⟨by decide +kernel, by decide +kernel⟩, List.mem_of_getElem? (i := 83) (by decide +kernel), List.mem_of_getElem? (i := 372) (by decide +kernel), List.mem_of_getElem? (i := 373) (by decide +kernel)⟩
theorem lw_p2 : lw_okq (⟨"SunRings$Ice", "addSpot", "(III)V"⟩, 2) := ⟨⟨by decide +kernel, by decide +kernel⟩, List.mem_of_getElem? (i := 83) (by decide +kernel), List.mem_of_getElem? (i := 376) (by decide +kernel), List.mem_of_getElem? (i := 377) (by decide +kernel)⟩
theorem lw_p3 : lw_okq (⟨"SunRings$Ice", "addLightsBehind", "(II)V"⟩, 2) := ⟨⟨by decide +kernel, by decide +kernel⟩, List.mem_of_getElem? (i := 83) (by decide +kernel), List.mem_of_getElem? (i := 382) (by decide +kernel), List.mem_of_getElem? (i := 383) (by decide +kernel)⟩
theorem lw_p4 : lw_okq (⟨"SunRings$Drawing", "allMarks", "()I"⟩, 4) := ⟨⟨by decide +kernel, by decide +kernel⟩, List.mem_of_getElem? (i := 116) (by decide +kernel), List.mem_of_getElem? (i := 415) (by decide +kernel), List.mem_of_getElem? (i := 416) (by decide +kernel)⟩
theorem lw_p5 : lw_okq (⟨"SunRings$Drawing", "marksLeft", "(III)I"⟩, 4) := ⟨⟨by decide +kernel, by decide +kernel⟩, List.mem_of_getElem? (i := 116) (by decide +kernel), List.mem_of_getElem? (i := 419) (by decide +kernel), List.mem_of_getElem? (i := 420) (by decide +kernel)⟩
theorem lw_p6 : lw_okq (⟨"SunRings$Drawing", "marksMet", "(III)I"⟩, 4) := ⟨⟨by decide +kernel, by decide +kernel⟩, List.mem_of_getElem? (i := 116) (by decide +kernel), List.mem_of_getElem? (i := 423) (by decide +kernel), List.mem_of_getElem? (i := 424) (by decide +kernel)⟩
theorem lw_p7 : lw_okq (⟨"SunRings$Drawing", "meets", "(II)Z"⟩, 4) := ⟨⟨by decide +kernel, by decide +kernel⟩, List.mem_of_getElem? (i := 116) (by decide +kernel), List.mem_of_getElem? (i := 428) (by decide +kernel), List.mem_of_getElem? (i := 429) (by decide +kernel)⟩
theorem lw_p8 : lw_okq (⟨"SunRings$Drawing", "coverWith", "(III)V"⟩, 4) := ⟨⟨by decide +kernel, by decide +kernel⟩, List.mem_of_getElem? (i := 116) (by decide +kernel), List.mem_of_getElem? (i := 447) (by decide +kernel), List.mem_of_getElem? (i := 448) (by decide +kernel)⟩
theorem lw_p9 : lw_okq (⟨"SunRings$Drawing", "meetsAny", "(I)Z"⟩, 4) := ⟨⟨by decide +kernel, by decide +kernel⟩, List.mem_of_getElem? (i := 116) (by decide +kernel), List.mem_of_getElem? (i := 462) (by decide +kernel), List.mem_of_getElem? (i := 463) (by decide +kernel)⟩
theorem lw_p10 : lw_okq (⟨"SunRings$Cut", "placesMet", "(II)I"⟩, 3) := ⟨⟨by decide +kernel, by decide +kernel⟩, List.mem_of_getElem? (i := 136) (by decide +kernel), List.mem_of_getElem? (i := 490) (by decide +kernel), List.mem_of_getElem? (i := 491) (by decide +kernel)⟩
theorem lw_p11 : lw_okq (⟨"SunRings$Cut", "placesNear", "(I)I"⟩, 3) := ⟨⟨by decide +kernel, by decide +kernel⟩, List.mem_of_getElem? (i := 136) (by decide +kernel), List.mem_of_getElem? (i := 496) (by decide +kernel), List.mem_of_getElem? (i := 497) (by decide +kernel)⟩
theorem lw_p12 : lw_okq (⟨"SunRingsModel", "lay", "(IIIIIIIIII)V"⟩, 29) := ⟨⟨by decide +kernel, by decide +kernel⟩, List.mem_of_getElem? (i := 576) (by decide +kernel), List.mem_of_getElem? (i := 582) (by decide +kernel), List.mem_of_getElem? (i := 583) (by decide +kernel)⟩
theorem lw_p13 : lw_okq (⟨"SunRingsModel", "bent", "(III)I"⟩, 29) := ⟨⟨by decide +kernel, by decide +kernel⟩, List.mem_of_getElem? (i := 576) (by decide +kernel), List.mem_of_getElem? (i := 690) (by decide +kernel), List.mem_of_getElem? (i := 691) (by decide +kernel)⟩
theorem lw_p14 : lw_okq (⟨"SunRingsModel", "least", "(III)I"⟩, 29) := ⟨⟨by decide +kernel, by decide +kernel⟩, List.mem_of_getElem? (i := 576) (by decide +kernel), List.mem_of_getElem? (i := 698) (by decide +kernel), List.mem_of_getElem? (i := 699) (by decide +kernel)⟩
theorem lw_p15 : lw_okq (⟨"SunRingsModel", "turns", "(III)I"⟩, 29) := ⟨⟨by decide +kernel, by decide +kernel⟩, List.mem_of_getElem? (i := 576) (by decide +kernel), List.mem_of_getElem? (i := 707) (by decide +kernel), List.mem_of_getElem? (i := 708) (by decide +kernel)⟩
def lw_privs_1 : List (MethodName × Nat) := [(⟨"SunRings$Drops", "thrownBack", "(I)I"⟩, 3), (⟨"SunRings$Ice", "addArcs", "(II)V"⟩, 2), (⟨"SunRings$Ice", "addSpot", "(III)V"⟩, 2), (⟨"SunRings$Ice", "addLightsBehind", "(II)V"⟩, 2), (⟨"SunRings$Drawing", "allMarks", "()I"⟩, 4), (⟨"SunRings$Drawing", "marksLeft", "(III)I"⟩, 4), (⟨"SunRings$Drawing", "marksMet", "(III)I"⟩, 4), (⟨"SunRings$Drawing", "meets", "(II)Z"⟩, 4), (⟨"SunRings$Drawing", "coverWith", "(III)V"⟩, 4), (⟨"SunRings$Drawing", "meetsAny", "(I)Z"⟩, 4), (⟨"SunRings$Cut", "placesMet", "(II)I"⟩, 3), (⟨"SunRings$Cut", "placesNear", "(I)I"⟩, 3), (⟨"SunRingsModel", "lay", "(IIIIIIIIII)V"⟩, 29), (⟨"SunRingsModel", "bent", "(III)I"⟩, 29), (⟨"SunRingsModel", "least", "(III)I"⟩, 29), (⟨"SunRingsModel", "turns", "(III)I"⟩, 29)]
theorem lw_r1 : ∀ q ∈ lw_privs_1, lw_okq q := List.forall_mem_cons.mpr ⟨lw_p0, List.forall_mem_cons.mpr ⟨lw_p1, List.forall_mem_cons.mpr ⟨lw_p2, List.forall_mem_cons.mpr ⟨lw_p3, List.forall_mem_cons.mpr ⟨lw_p4, List.forall_mem_cons.mpr ⟨lw_p5, List.forall_mem_cons.mpr ⟨lw_p6, List.forall_mem_cons.mpr ⟨lw_p7, List.forall_mem_cons.mpr ⟨lw_p8, List.forall_mem_cons.mpr ⟨lw_p9, List.forall_mem_cons.mpr ⟨lw_p10, List.forall_mem_cons.mpr ⟨lw_p11, List.forall_mem_cons.mpr ⟨lw_p12, List.forall_mem_cons.mpr ⟨lw_p13, List.forall_mem_cons.mpr ⟨lw_p14, List.forall_mem_cons.mpr ⟨lw_p15, fun _ h => absurd h List.not_mem_nil⟩⟩⟩⟩⟩⟩⟩⟩⟩⟩⟩⟩⟩⟩⟩⟩
theorem lw_p16 : lw_okq (⟨"SunRingsModel", "from", "(III)I"⟩, 29) := ⟨⟨by decide +kernel, by decide +kernel⟩, List.mem_of_getElem? (i := 576) (by decide +kernel), List.mem_of_getElem? (i := 711) (by decide +kernel), List.mem_of_getElem? (i := 712) (by decide +kernel)⟩
theorem lw_p17 : lw_okq (⟨"SunRingsModel", "out", "(II)I"⟩, 29) := ⟨⟨by decide +kernel, by decide +kernel⟩, List.mem_of_getElem? (i := 576) (by decide +kernel), List.mem_of_getElem? (i := 715) (by decide +kernel), List.mem_of_getElem? (i := 716) (by decide +kernel)⟩
theorem lw_p18 : lw_okq (⟨"SunRingsModel", "layMap", "(II)V"⟩, 29) := ⟨⟨by decide +kernel, by decide +kernel⟩, List.mem_of_getElem? (i := 576) (by decide +kernel), List.mem_of_getElem? (i := 724) (by decide +kernel), List.mem_of_getElem? (i := 725) (by decide +kernel)⟩
theorem lw_p19 : lw_okq (⟨"SunRingsModel", "bowOf", "()I"⟩, 29) := ⟨⟨by decide +kernel, by decide +kernel⟩, List.mem_of_getElem? (i := 576) (by decide +kernel), List.mem_of_getElem? (i := 733) (by decide +kernel), List.mem_of_getElem? (i := 734) (by decide +kernel)⟩
theorem lw_p20 : lw_okq (⟨"SunRingsModel", "hasWedge", "(II)Z"⟩, 29) := ⟨⟨by decide +kernel, by decide +kernel⟩, List.mem_of_getElem? (i := 576) (by decide +kernel), List.mem_of_getElem? (i := 746) (by decide +kernel), List.mem_of_getElem? (i := 747) (by decide +kernel)⟩
theorem lw_p21 : lw_okq (⟨"SunRingsModel", "turnedBy", "(III)I"⟩, 29) := ⟨⟨by decide +kernel, by decide +kernel⟩, List.mem_of_getElem? (i := 576) (by decide +kernel), List.mem_of_getElem? (i := 758) (by decide +kernel), List.mem_of_getElem? (i := 759) (by decide +kernel)⟩
theorem lw_p22 : lw_okq (⟨"SunRingsModel", "ringOf", "(II)I"⟩, 29) := ⟨⟨by decide +kernel, by decide +kernel⟩, List.mem_of_getElem? (i := 576) (by decide +kernel), List.mem_of_getElem? (i := 766) (by decide +kernel), List.mem_of_getElem? (i := 767) (by decide +kernel)⟩
theorem lw_p23 : lw_okq (⟨"SunRingsModel", "layRings", "()V"⟩, 29) := ⟨⟨by decide +kernel, by decide +kernel⟩, List.mem_of_getElem? (i := 576) (by decide +kernel), List.mem_of_getElem? (i := 774) (by decide +kernel), List.mem_of_getElem? (i := 775) (by decide +kernel)⟩
theorem lw_p24 : lw_okq (⟨"SunRingsModel", "layLights", "(II)V"⟩, 29) := ⟨⟨by decide +kernel, by decide +kernel⟩, List.mem_of_getElem? (i := 576) (by decide +kernel), List.mem_of_getElem? (i := 778) (by decide +kernel), List.mem_of_getElem? (i := 779) (by decide +kernel)⟩
theorem lw_p25 : lw_okq (⟨"SunRingsModel", "putRing", "(III)V"⟩, 29) := ⟨⟨by decide +kernel, by decide +kernel⟩, List.mem_of_getElem? (i := 576) (by decide +kernel), List.mem_of_getElem? (i := 782) (by decide +kernel), List.mem_of_getElem? (i := 783) (by decide +kernel)⟩
theorem lw_p26 : lw_okq (⟨"SunRingsModel", "put", "(IIII)V"⟩, 29) := ⟨⟨by decide +kernel, by decide +kernel⟩, List.mem_of_getElem? (i := 576) (by decide +kernel), List.mem_of_getElem? (i := 786) (by decide +kernel), List.mem_of_getElem? (i := 787) (by decide +kernel)⟩
theorem lw_p27 : lw_okq (⟨"SunRingsModel", "layMet", "(I)V"⟩, 29) := ⟨⟨by decide +kernel, by decide +kernel⟩, List.mem_of_getElem? (i := 576) (by decide +kernel), List.mem_of_getElem? (i := 806) (by decide +kernel), List.mem_of_getElem? (i := 807) (by decide +kernel)⟩
theorem lw_p28 : lw_okq (⟨"SunRingsModel", "meets", "(II)Z"⟩, 29) := ⟨⟨by decide +kernel, by decide +kernel⟩, List.mem_of_getElem? (i := 576) (by decide +kernel), List.mem_of_getElem? (i := 810) (by decide +kernel), List.mem_of_getElem? (i := 811) (by decide +kernel)⟩
theorem lw_p29 : lw_okq (⟨"SunRingsModel", "metBy", "(I)I"⟩, 29) := ⟨⟨by decide +kernel, by decide +kernel⟩, List.mem_of_getElem? (i := 576) (by decide +kernel), List.mem_of_getElem? (i := 814) (by decide +kernel), List.mem_of_getElem? (i := 815) (by decide +kernel)⟩
theorem lw_p30 : lw_okq (⟨"SunRingsModel", "allMarks", "()I"⟩, 29) := ⟨⟨by decide +kernel, by decide +kernel⟩, List.mem_of_getElem? (i := 576) (by decide +kernel), List.mem_of_getElem? (i := 818) (by decide +kernel), List.mem_of_getElem? (i := 819) (by decide +kernel)⟩
theorem lw_p31 : lw_okq (⟨"SunRingsModel", "laySpots", "(I)V"⟩, 29) := ⟨⟨by decide +kernel, by decide +kernel⟩, List.mem_of_getElem? (i := 576) (by decide +kernel), List.mem_of_getElem? (i := 850) (by decide +kernel), List.mem_of_getElem? (i := 851) (by decide +kernel)⟩
def lw_privs_2 : List (MethodName × Nat) := [(⟨"SunRingsModel", "from", "(III)I"⟩, 29), (⟨"SunRingsModel", "out", "(II)I"⟩, 29), (⟨"SunRingsModel", "layMap", "(II)V"⟩, 29), (⟨"SunRingsModel", "bowOf", "()I"⟩, 29), (⟨"SunRingsModel", "hasWedge", "(II)Z"⟩, 29), (⟨"SunRingsModel", "turnedBy", "(III)I"⟩, 29), (⟨"SunRingsModel", "ringOf", "(II)I"⟩, 29), (⟨"SunRingsModel", "layRings", "()V"⟩, 29), (⟨"SunRingsModel", "layLights", "(II)V"⟩, 29), (⟨"SunRingsModel", "putRing", "(III)V"⟩, 29), (⟨"SunRingsModel", "put", "(IIII)V"⟩, 29), (⟨"SunRingsModel", "layMet", "(I)V"⟩, 29), (⟨"SunRingsModel", "meets", "(II)Z"⟩, 29), (⟨"SunRingsModel", "metBy", "(I)I"⟩, 29), (⟨"SunRingsModel", "allMarks", "()I"⟩, 29), (⟨"SunRingsModel", "laySpots", "(I)V"⟩, 29)]
theorem lw_r2 : ∀ q ∈ lw_privs_2, lw_okq q := List.forall_mem_cons.mpr ⟨lw_p16, List.forall_mem_cons.mpr ⟨lw_p17, List.forall_mem_cons.mpr ⟨lw_p18, List.forall_mem_cons.mpr ⟨lw_p19, List.forall_mem_cons.mpr ⟨lw_p20, List.forall_mem_cons.mpr ⟨lw_p21, List.forall_mem_cons.mpr ⟨lw_p22, List.forall_mem_cons.mpr ⟨lw_p23, List.forall_mem_cons.mpr ⟨lw_p24, List.forall_mem_cons.mpr ⟨lw_p25, List.forall_mem_cons.mpr ⟨lw_p26, List.forall_mem_cons.mpr ⟨lw_p27, List.forall_mem_cons.mpr ⟨lw_p28, List.forall_mem_cons.mpr ⟨lw_p29, List.forall_mem_cons.mpr ⟨lw_p30, List.forall_mem_cons.mpr ⟨lw_p31, fun _ h => absurd h List.not_mem_nil⟩⟩⟩⟩⟩⟩⟩⟩⟩⟩⟩⟩⟩⟩⟩⟩
theorem lw_p32 : lw_okq (⟨"SunRingsModel", "spots", "(II)I"⟩, 29) := ⟨⟨by decide +kernel, by decide +kernel⟩, List.mem_of_getElem? (i := 576) (by decide +kernel), List.mem_of_getElem? (i := 854) (by decide +kernel), List.mem_of_getElem? (i := 855) (by decide +kernel)⟩
theorem lw_p33 : lw_okq (⟨"SunRingsModel", "isMade", "(I)Z"⟩, 29) := ⟨⟨by decide +kernel, by decide +kernel⟩, List.mem_of_getElem? (i := 576) (by decide +kernel), List.mem_of_getElem? (i := 858) (by decide +kernel), List.mem_of_getElem? (i := 859) (by decide +kernel)⟩
def lw_privs_3 : List (MethodName × Nat) := [(⟨"SunRingsModel", "spots", "(II)I"⟩, 29), (⟨"SunRingsModel", "isMade", "(I)Z"⟩, 29)]
theorem lw_r3 : ∀ q ∈ lw_privs_3, lw_okq q := List.forall_mem_cons.mpr ⟨lw_p32, List.forall_mem_cons.mpr ⟨lw_p33, fun _ h => absurd h List.not_mem_nil⟩⟩
def lw_privs : List (MethodName × Nat) := lw_privs_1 ++ (lw_privs_2 ++ (lw_privs_3))
def lw_tbl : List Cond := k2_sels lw_privs ++ tables_1
theorem lw_privs_ok : ∀ q ∈ lw_privs, lw_okq q := by
  show ∀ q ∈ lw_privs_1 ++ (lw_privs_2 ++ (lw_privs_3)), lw_okq q
  exact List.forall_mem_append.mpr ⟨lw_r1, List.forall_mem_append.mpr ⟨lw_r2, lw_r3⟩⟩
def RX0 : String := "SunRings$Cut"
def TX0 : u_T := fun k => match k with
  | 0 => ("SunRings$Cut", "ice", "LSunRings$Ice;", true)
  | 1 => ("SunRings$Cut", "places", "[I", true)
  | _ => ("SunRings$Cut", "metBy", "[I", true)
def tyX0 : Nat → FieldType := fun k => match k with
  | 0 => .object "SunRings$Ice"
  | 1 => .array .int
  | _ => .array .int
abbrev wsX00 : List Cond := u_ws RX0 TX0 3
theorem nmX0 : ∀ a, a < 3 → ∀ b, b < 3 → a ≠ b → (TX0 a).2.1 ≠ (TX0 b).2.1 := by decide +kernel
theorem tyX0_ok : ∀ k, k < 3 → parseFieldDescriptor (TX0 k).2.2.1 = some (tyX0 k) := by decide +kernel
abbrev cX0_init : ByteArray := prog_2_method_1_code
def yX0_init : MethodName := ⟨RX0, "<init>", "(LSunRings$Ice;)V"⟩
abbrev cX0_placesTold : ByteArray := prog_2_method_2_code
def yX0_placesTold : MethodName := ⟨RX0, "placesTold", "(I)I"⟩
abbrev cX0_placesMet : ByteArray := prog_2_method_3_code
def yX0_placesMet : MethodName := ⟨RX0, "placesMet", "(II)I"⟩
abbrev cX0_placesNear : ByteArray := prog_2_method_4_code
def yX0_placesNear : MethodName := ⟨RX0, "placesNear", "(I)I"⟩
abbrev cX0_fits : ByteArray := prog_2_method_5_code
def yX0_fits : MethodName := ⟨RX0, "fits", "(III)Z"⟩
abbrev cX0_isMade : ByteArray := prog_2_method_6_code
def yX0_isMade : MethodName := ⟨RX0, "isMade", "(II)Z"⟩
abbrev cX0_firstMaker : ByteArray := prog_2_method_7_code
def yX0_firstMaker : MethodName := ⟨RX0, "firstMaker", "(I)I"⟩
def RX1 : String := "SunRings$Diary"
def TX1 : u_T := fun k => match k with
  | 0 => ("SunRings$Diary", "colds", "[I", true)
  | 1 => ("SunRings$Diary", "clouds", "[I", true)
  | 2 => ("SunRings$Diary", "seen", "[I", true)
  | _ => ("SunRings$Diary", "size", "I", false)
def tyX1 : Nat → FieldType := fun k => match k with
  | 0 => .array .int
  | 1 => .array .int
  | 2 => .array .int
  | _ => .int
abbrev wsX10 : List Cond := u_ws RX1 TX1 4
theorem nmX1 : ∀ a, a < 4 → ∀ b, b < 4 → a ≠ b → (TX1 a).2.1 ≠ (TX1 b).2.1 := by decide +kernel
theorem tyX1_ok : ∀ k, k < 4 → parseFieldDescriptor (TX1 k).2.2.1 = some (tyX1 k) := by decide +kernel
abbrev cX1_init : ByteArray := prog_3_method_1_code
def yX1_init : MethodName := ⟨RX1, "<init>", "()V"⟩
abbrev cX1_addDay : ByteArray := prog_3_method_2_code
def yX1_addDay : MethodName := ⟨RX1, "addDay", "(III)I"⟩
abbrev cX1_daysWith : ByteArray := prog_3_method_3_code
def yX1_daysWith : MethodName := ⟨RX1, "daysWith", "(IIII)I"⟩
abbrev cX1_causesSeen : ByteArray := prog_3_method_4_code
def yX1_causesSeen : MethodName := ⟨RX1, "causesSeen", "()I"⟩
def RX2 : String := "SunRings$Drawing"
def TX2 : u_T := fun k => match k with
  | 0 => ("SunRings$Drawing", "ice", "LSunRings$Ice;", true)
  | 1 => ("SunRings$Drawing", "marks", "[I", true)
  | 2 => ("SunRings$Drawing", "size", "I", false)
  | _ => ("SunRings$Drawing", "covers", "[I", true)
def tyX2 : Nat → FieldType := fun k => match k with
  | 0 => .object "SunRings$Ice"
  | 1 => .array .int
  | 2 => .int
  | _ => .array .int
abbrev wsX20 : List Cond := u_ws RX2 TX2 4
theorem nmX2 : ∀ a, a < 4 → ∀ b, b < 4 → a ≠ b → (TX2 a).2.1 ≠ (TX2 b).2.1 := by decide +kernel
theorem tyX2_ok : ∀ k, k < 4 → parseFieldDescriptor (TX2 k).2.2.1 = some (tyX2 k) := by decide +kernel
abbrev cX2_init : ByteArray := prog_4_method_1_code
def yX2_init : MethodName := ⟨RX2, "<init>", "(LSunRings$Ice;)V"⟩
abbrev cX2_addMark : ByteArray := prog_4_method_2_code
def yX2_addMark : MethodName := ⟨RX2, "addMark", "(IIII)I"⟩
abbrev cX2_allMarks : ByteArray := prog_4_method_3_code
def yX2_allMarks : MethodName := ⟨RX2, "allMarks", "()I"⟩
abbrev cX2_meets : ByteArray := prog_4_method_4_code
def yX2_meets : MethodName := ⟨RX2, "meets", "(II)Z"⟩
abbrev cX2_meetsAny : ByteArray := prog_4_method_5_code
def yX2_meetsAny : MethodName := ⟨RX2, "meetsAny", "(I)Z"⟩
abbrev cX2_marksMet : ByteArray := prog_4_method_6_code
def yX2_marksMet : MethodName := ⟨RX2, "marksMet", "(III)I"⟩
abbrev cX2_marksLeft : ByteArray := prog_4_method_7_code
def yX2_marksLeft : MethodName := ⟨RX2, "marksLeft", "(III)I"⟩
abbrev cX2_isExplained : ByteArray := prog_4_method_8_code
def yX2_isExplained : MethodName := ⟨RX2, "isExplained", "(II)Z"⟩
abbrev cX2_marksNeverMet : ByteArray := prog_4_method_9_code
def yX2_marksNeverMet : MethodName := ⟨RX2, "marksNeverMet", "()I"⟩
abbrev cX2_unseen : ByteArray := prog_4_method_10_code
def yX2_unseen : MethodName := ⟨RX2, "unseen", "(II)I"⟩
abbrev cX2_leastCover : ByteArray := prog_4_method_11_code
def yX2_leastCover : MethodName := ⟨RX2, "leastCover", "(I)I"⟩
abbrev cX2_coverWith : ByteArray := prog_4_method_12_code
def yX2_coverWith : MethodName := ⟨RX2, "coverWith", "(III)V"⟩
def RX3 : String := "SunRings$Drops"
def TX3 : u_T := fun k => match k with
  | 0 => ("SunRings$Drops", "setup", "LSunRings$Setup;", true)
  | 1 => ("SunRings$Drops", "sky", "[J", true)
  | _ => ("SunRings$Drops", "otherSky", "[J", true)
def tyX3 : Nat → FieldType := fun k => match k with
  | 0 => .object "SunRings$Setup"
  | 1 => .array .long
  | _ => .array .long
abbrev wsX30 : List Cond := u_ws RX3 TX3 3
theorem nmX3 : ∀ a, a < 3 → ∀ b, b < 3 → a ≠ b → (TX3 a).2.1 ≠ (TX3 b).2.1 := by decide +kernel
theorem tyX3_ok : ∀ k, k < 3 → parseFieldDescriptor (TX3 k).2.2.1 = some (tyX3 k) := by decide +kernel
abbrev cX3_init : ByteArray := prog_5_method_1_code
def yX3_init : MethodName := ⟨RX3, "<init>", "(LSunRings$Setup;)V"⟩
abbrev cX3_turnOf : ByteArray := prog_5_method_2_code
def yX3_turnOf : MethodName := ⟨RX3, "turnOf", "(III)I"⟩
abbrev cX3_fromSun : ByteArray := prog_5_method_3_code
def yX3_fromSun : MethodName := ⟨RX3, "fromSun", "(III)I"⟩
abbrev cX3_lightIn : ByteArray := prog_5_method_4_code
def yX3_lightIn : MethodName := ⟨RX3, "lightIn", "(I)I"⟩
abbrev cX3_lightOut : ByteArray := prog_5_method_5_code
def yX3_lightOut : MethodName := ⟨RX3, "lightOut", "(II)I"⟩
abbrev cX3_thrownBack : ByteArray := prog_5_method_6_code
def yX3_thrownBack : MethodName := ⟨RX3, "thrownBack", "(I)I"⟩
abbrev cX3_fillSky : ByteArray := prog_5_method_7_code
def yX3_fillSky : MethodName := ⟨RX3, "fillSky", "([JII)V"⟩
abbrev cX3_brightest : ByteArray := prog_5_method_8_code
def yX3_brightest : MethodName := ⟨RX3, "brightest", "([J)I"⟩
abbrev cX3_broad : ByteArray := prog_5_method_9_code
def yX3_broad : MethodName := ⟨RX3, "broad", "([JI)I"⟩
abbrev cX3_widestDark : ByteArray := prog_5_method_10_code
def yX3_widestDark : MethodName := ⟨RX3, "widestDark", "(II)I"⟩
def RX4 : String := "SunRings$Ice"
def TX4 : u_T := fun k => match k with
  | 0 => ("SunRings$Ice", "setup", "LSunRings$Setup;", true)
  | _ => ("SunRings$Ice", "lights", "LSunRings$Lights;", true)
def tyX4 : Nat → FieldType := fun k => match k with
  | 0 => .object "SunRings$Setup"
  | _ => .object "SunRings$Lights"
abbrev wsX40 : List Cond := u_ws RX4 TX4 2
theorem nmX4 : ∀ a, a < 2 → ∀ b, b < 2 → a ≠ b → (TX4 a).2.1 ≠ (TX4 b).2.1 := by decide +kernel
theorem tyX4_ok : ∀ k, k < 2 → parseFieldDescriptor (TX4 k).2.2.1 = some (tyX4 k) := by decide +kernel
abbrev cX4_init : ByteArray := prog_6_method_1_code
def yX4_init : MethodName := ⟨RX4, "<init>", "(LSunRings$Setup;)V"⟩
abbrev cX4_turnOf : ByteArray := prog_6_method_2_code
def yX4_turnOf : MethodName := ⟨RX4, "turnOf", "(III)I"⟩
abbrev cX4_leastTurn : ByteArray := prog_6_method_3_code
def yX4_leastTurn : MethodName := ⟨RX4, "leastTurn", "(II)I"⟩
abbrev cX4_lightUp : ByteArray := prog_6_method_4_code
def yX4_lightUp : MethodName := ⟨RX4, "lightUp", "(II)V"⟩
abbrev cX4_addArcs : ByteArray := prog_6_method_5_code
def yX4_addArcs : MethodName := ⟨RX4, "addArcs", "(II)V"⟩
abbrev cX4_addSpot : ByteArray := prog_6_method_6_code
def yX4_addSpot : MethodName := ⟨RX4, "addSpot", "(III)V"⟩
abbrev cX4_addLightsBehind : ByteArray := prog_6_method_7_code
def yX4_addLightsBehind : MethodName := ⟨RX4, "addLightsBehind", "(II)V"⟩
def RX5 : String := "SunRings$Lights"
def TX5 : u_T := fun k => match k with
  | 0 => ("SunRings$Lights", "rows", "[I", true)
  | _ => ("SunRings$Lights", "size", "I", false)
def tyX5 : Nat → FieldType := fun k => match k with
  | 0 => .array .int
  | _ => .int
abbrev wsX50 : List Cond := u_ws RX5 TX5 2
theorem nmX5 : ∀ a, a < 2 → ∀ b, b < 2 → a ≠ b → (TX5 a).2.1 ≠ (TX5 b).2.1 := by decide +kernel
theorem tyX5_ok : ∀ k, k < 2 → parseFieldDescriptor (TX5 k).2.2.1 = some (tyX5 k) := by decide +kernel
abbrev cX5_init : ByteArray := prog_7_method_1_code
def yX5_init : MethodName := ⟨RX5, "<init>", "()V"⟩
abbrev cX5_add : ByteArray := prog_7_method_2_code
def yX5_add : MethodName := ⟨RX5, "add", "(IIII)V"⟩
abbrev cX5_part : ByteArray := prog_7_method_3_code
def yX5_part : MethodName := ⟨RX5, "part", "(II)I"⟩
abbrev cX5_isNear : ByteArray := prog_7_method_4_code
def yX5_isNear : MethodName := ⟨RX5, "isNear", "(III)Z"⟩
def RX6 : String := "SunRings$Setup"
def TX6 : u_T := fun k => match k with
  | 0 => ("SunRings$Setup", "tables", "[I", true)
  | 1 => ("SunRings$Setup", "rules", "[I", true)
  | 2 => ("SunRings$Setup", "wedges", "[I", true)
  | 3 => ("SunRings$Setup", "wedgeCounts", "[I", true)
  | _ => ("SunRings$Setup", "rings", "[I", true)
def tyX6 : Nat → FieldType := fun k => match k with
  | 0 => .array .int
  | 1 => .array .int
  | 2 => .array .int
  | 3 => .array .int
  | _ => .array .int
abbrev wsX60 : List Cond := u_ws RX6 TX6 5
theorem nmX6 : ∀ a, a < 5 → ∀ b, b < 5 → a ≠ b → (TX6 a).2.1 ≠ (TX6 b).2.1 := by decide +kernel
theorem tyX6_ok : ∀ k, k < 5 → parseFieldDescriptor (TX6 k).2.2.1 = some (tyX6 k) := by decide +kernel
abbrev cX6_init : ByteArray := prog_8_method_1_code
def yX6_init : MethodName := ⟨RX6, "<init>", "()V"⟩
abbrev cX6_copyFrom : ByteArray := prog_8_method_2_code
def yX6_copyFrom : MethodName := ⟨RX6, "copyFrom", "(LSunRings$Setup;)V"⟩
abbrev cX6_changeTable : ByteArray := prog_8_method_3_code
def yX6_changeTable : MethodName := ⟨RX6, "changeTable", "(III)I"⟩
abbrev cX6_bent : ByteArray := prog_8_method_4_code
def yX6_bent : MethodName := ⟨RX6, "bent", "(III)I"⟩
abbrev cX6_unbent : ByteArray := prog_8_method_5_code
def yX6_unbent : MethodName := ⟨RX6, "unbent", "(III)I"⟩
abbrev cX6_hasWedge : ByteArray := prog_8_method_6_code
def yX6_hasWedge : MethodName := ⟨RX6, "hasWedge", "(II)Z"⟩
abbrev cX6_addWedge : ByteArray := prog_8_method_7_code
def yX6_addWedge : MethodName := ⟨RX6, "addWedge", "(II)I"⟩
abbrev cX6_wedgesInAll : ByteArray := prog_8_method_8_code
def yX6_wedgesInAll : MethodName := ⟨RX6, "wedgesInAll", "()I"⟩
def RX7 : String := "SunRings"
def TX7 : u_T := fun k => match k with
  | 0 => ("SunRings", "setup", "LSunRings$Setup;", true)
  | 1 => ("SunRings", "kept", "[LSunRings$Setup;", true)
  | 2 => ("SunRings", "keptSize", "I", false)
  | 3 => ("SunRings", "drops", "LSunRings$Drops;", true)
  | 4 => ("SunRings", "ice", "LSunRings$Ice;", true)
  | 5 => ("SunRings", "drawing", "LSunRings$Drawing;", true)
  | 6 => ("SunRings", "sights", "LSunRings$Cut;", true)
  | _ => ("SunRings", "diary", "LSunRings$Diary;", true)
def tyX7 : Nat → FieldType := fun k => match k with
  | 0 => .object "SunRings$Setup"
  | 1 => .array (.object "SunRings$Setup")
  | 2 => .int
  | 3 => .object "SunRings$Drops"
  | 4 => .object "SunRings$Ice"
  | 5 => .object "SunRings$Drawing"
  | 6 => .object "SunRings$Cut"
  | _ => .object "SunRings$Diary"
abbrev wsX70 : List Cond := u_ws RX7 TX7 8
theorem nmX7 : ∀ a, a < 8 → ∀ b, b < 8 → a ≠ b → (TX7 a).2.1 ≠ (TX7 b).2.1 := by decide +kernel
theorem tyX7_ok : ∀ k, k < 8 → parseFieldDescriptor (TX7 k).2.2.1 = some (tyX7 k) := by decide +kernel
abbrev cX7_init : ByteArray := prog_1_method_1_code
def yX7_init : MethodName := ⟨RX7, "<init>", "()V"⟩
abbrev cX7_table : ByteArray := prog_1_method_2_code
def yX7_table : MethodName := ⟨RX7, "table", "(III)I"⟩
abbrev cX7_rule : ByteArray := prog_1_method_3_code
def yX7_rule : MethodName := ⟨RX7, "rule", "(II)I"⟩
abbrev cX7_inside : ByteArray := prog_1_method_4_code
def yX7_inside : MethodName := ⟨RX7, "inside", "(III)I"⟩
abbrev cX7_outside : ByteArray := prog_1_method_5_code
def yX7_outside : MethodName := ⟨RX7, "outside", "(III)I"⟩
abbrev cX7_ray : ByteArray := prog_1_method_6_code
def yX7_ray : MethodName := ⟨RX7, "ray", "(IIII)I"⟩
abbrev cX7_map : ByteArray := prog_1_method_7_code
def yX7_map : MethodName := ⟨RX7, "map", "(III)J"⟩
abbrev cX7_bow : ByteArray := prog_1_method_8_code
def yX7_bow : MethodName := ⟨RX7, "bow", "(IIII)I"⟩
abbrev cX7_dark : ByteArray := prog_1_method_9_code
def yX7_dark : MethodName := ⟨RX7, "dark", "(II)I"⟩
abbrev cX7_wedge : ByteArray := prog_1_method_10_code
def yX7_wedge : MethodName := ⟨RX7, "wedge", "(II)I"⟩
abbrev cX7_noWedges : ByteArray := prog_1_method_11_code
def yX7_noWedges : MethodName := ⟨RX7, "noWedges", "(I)I"⟩
abbrev cX7_turned : ByteArray := prog_1_method_12_code
def yX7_turned : MethodName := ⟨RX7, "turned", "(III)I"⟩
abbrev cX7_ring : ByteArray := prog_1_method_13_code
def yX7_ring : MethodName := ⟨RX7, "ring", "(II)I"⟩
abbrev cX7_light : ByteArray := prog_1_method_14_code
def yX7_light : MethodName := ⟨RX7, "light", "(IIII)I"⟩
abbrev cX7_mark : ByteArray := prog_1_method_15_code
def yX7_mark : MethodName := ⟨RX7, "mark", "(IIII)I"⟩
abbrev cX7_wipe : ByteArray := prog_1_method_16_code
def yX7_wipe : MethodName := ⟨RX7, "wipe", "()I"⟩
abbrev cX7_explains : ByteArray := prog_1_method_17_code
def yX7_explains : MethodName := ⟨RX7, "explains", "(II)I"⟩
abbrev cX7_fewest : ByteArray := prog_1_method_18_code
def yX7_fewest : MethodName := ⟨RX7, "fewest", "(I)I"⟩
abbrev cX7_owed : ByteArray := prog_1_method_19_code
def yX7_owed : MethodName := ⟨RX7, "owed", "(II)I"⟩
abbrev cX7_never : ByteArray := prog_1_method_20_code
def yX7_never : MethodName := ⟨RX7, "never", "()I"⟩
abbrev cX7_heights : ByteArray := prog_1_method_21_code
def yX7_heights : MethodName := ⟨RX7, "heights", "(II)I"⟩
abbrev cX7_cut : ByteArray := prog_1_method_22_code
def yX7_cut : MethodName := ⟨RX7, "cut", "(II)I"⟩
abbrev cX7_made : ByteArray := prog_1_method_23_code
def yX7_made : MethodName := ⟨RX7, "made", "(II)I"⟩
abbrev cX7_maker : ByteArray := prog_1_method_24_code
def yX7_maker : MethodName := ⟨RX7, "maker", "(I)I"⟩
abbrev cX7_day : ByteArray := prog_1_method_25_code
def yX7_day : MethodName := ⟨RX7, "day", "(III)I"⟩
abbrev cX7_odds : ByteArray := prog_1_method_26_code
def yX7_odds : MethodName := ⟨RX7, "odds", "(IIIII)I"⟩
abbrev cX7_together : ByteArray := prog_1_method_27_code
def yX7_together : MethodName := ⟨RX7, "together", "(II)I"⟩
abbrev cX7_keep : ByteArray := prog_1_method_28_code
def yX7_keep : MethodName := ⟨RX7, "keep", "()I"⟩
abbrev cX7_back : ByteArray := prog_1_method_29_code
def yX7_back : MethodName := ⟨RX7, "back", "()I"⟩
abbrev cX7_count : ByteArray := prog_1_method_30_code
def yX7_count : MethodName := ⟨RX7, "count", "(I)I"⟩
abbrev cX7_within : ByteArray := prog_1_method_31_code
def yX7_within : MethodName := ⟨RX7, "within", "(III)Z"⟩
abbrev cX7_isRight : ByteArray := prog_1_method_32_code
def yX7_isRight : MethodName := ⟨RX7, "isRight", "(I)Z"⟩
abbrev cX7_isColour : ByteArray := prog_1_method_33_code
def yX7_isColour : MethodName := ⟨RX7, "isColour", "(I)Z"⟩
abbrev cX7_isMirrors : ByteArray := prog_1_method_34_code
def yX7_isMirrors : MethodName := ⟨RX7, "isMirrors", "(I)Z"⟩
abbrev cX7_isCause : ByteArray := prog_1_method_35_code
def yX7_isCause : MethodName := ⟨RX7, "isCause", "(I)Z"⟩
abbrev cX7_isSet : ByteArray := prog_1_method_36_code
def yX7_isSet : MethodName := ⟨RX7, "isSet", "(I)Z"⟩
abbrev cX7_isCold : ByteArray := prog_1_method_37_code
def yX7_isCold : MethodName := ⟨RX7, "isCold", "(I)Z"⟩
abbrev cX7_commonDivisor : ByteArray := prog_1_method_38_code
def yX7_commonDivisor : MethodName := ⟨RX7, "commonDivisor", "(II)I"⟩
def RX8 : String := "SunRingsModel"
def TX8 : u_T := fun k => match k with
  | 0 => ("SunRingsModel", "tables", "[I", true)
  | 1 => ("SunRingsModel", "fan", "I", false)
  | 2 => ("SunRingsModel", "squash", "I", false)
  | 3 => ("SunRingsModel", "shine", "I", false)
  | 4 => ("SunRingsModel", "skew", "I", false)
  | 5 => ("SunRingsModel", "sway", "I", false)
  | 6 => ("SunRingsModel", "wedgeMany", "[I", true)
  | 7 => ("SunRingsModel", "wedges", "[I", true)
  | 8 => ("SunRingsModel", "markMany", "I", false)
  | 9 => ("SunRingsModel", "markForm", "[I", true)
  | 10 => ("SunRingsModel", "markSide", "[I", true)
  | 11 => ("SunRingsModel", "markAngle", "[I", true)
  | 12 => ("SunRingsModel", "markDoubt", "[I", true)
  | 13 => ("SunRingsModel", "places", "[I", true)
  | 14 => ("SunRingsModel", "dayMany", "I", false)
  | 15 => ("SunRingsModel", "dayCold", "[I", true)
  | 16 => ("SunRingsModel", "dayCloud", "[I", true)
  | 17 => ("SunRingsModel", "dayCauses", "[I", true)
  | 18 => ("SunRingsModel", "mapped", "[J", true)
  | 19 => ("SunRingsModel", "isLit", "[Z", true)
  | 20 => ("SunRingsModel", "rings", "[I", true)
  | 21 => ("SunRingsModel", "lightMany", "I", false)
  | 22 => ("SunRingsModel", "lightForm", "[I", true)
  | 23 => ("SunRingsModel", "lightSide", "[I", true)
  | 24 => ("SunRingsModel", "lightFrom", "[I", true)
  | 25 => ("SunRingsModel", "lightTo", "[I", true)
  | 26 => ("SunRingsModel", "met", "[I", true)
  | 27 => ("SunRingsModel", "kept", "[I", true)
  | _ => ("SunRingsModel", "keptMany", "I", false)
def tyX8 : Nat → FieldType := fun k => match k with
  | 0 => .array .int
  | 1 => .int
  | 2 => .int
  | 3 => .int
  | 4 => .int
  | 5 => .int
  | 6 => .array .int
  | 7 => .array .int
  | 8 => .int
  | 9 => .array .int
  | 10 => .array .int
  | 11 => .array .int
  | 12 => .array .int
  | 13 => .array .int
  | 14 => .int
  | 15 => .array .int
  | 16 => .array .int
  | 17 => .array .int
  | 18 => .array .long
  | 19 => .array .boolean
  | 20 => .array .int
  | 21 => .int
  | 22 => .array .int
  | 23 => .array .int
  | 24 => .array .int
  | 25 => .array .int
  | 26 => .array .int
  | 27 => .array .int
  | _ => .int
abbrev wsX80 : List Cond := u_ws RX8 TX8 29
theorem nmX8 : ∀ a, a < 29 → ∀ b, b < 29 → a ≠ b → (TX8 a).2.1 ≠ (TX8 b).2.1 := by decide +kernel
theorem tyX8_ok : ∀ k, k < 29 → parseFieldDescriptor (TX8 k).2.2.1 = some (tyX8 k) := by decide +kernel
abbrev cX8_init : ByteArray := prog_10_method_1_code
def yX8_init : MethodName := ⟨RX8, "<init>", "()V"⟩
abbrev cX8_lay : ByteArray := prog_10_method_2_code
def yX8_lay : MethodName := ⟨RX8, "lay", "(IIIIIIIIII)V"⟩
abbrev cX8_in : ByteArray := prog_10_method_3_code
def yX8_in : MethodName := ⟨RX8, "in", "(III)Z"⟩
abbrev cX8_table : ByteArray := prog_10_method_4_code
def yX8_table : MethodName := ⟨RX8, "table", "(III)I"⟩
abbrev cX8_rule : ByteArray := prog_10_method_5_code
def yX8_rule : MethodName := ⟨RX8, "rule", "(II)I"⟩
abbrev cX8_bent : ByteArray := prog_10_method_6_code
def yX8_bent : MethodName := ⟨RX8, "bent", "(III)I"⟩
abbrev cX8_least : ByteArray := prog_10_method_7_code
def yX8_least : MethodName := ⟨RX8, "least", "(III)I"⟩
abbrev cX8_inside : ByteArray := prog_10_method_8_code
def yX8_inside : MethodName := ⟨RX8, "inside", "(III)I"⟩
abbrev cX8_outside : ByteArray := prog_10_method_9_code
def yX8_outside : MethodName := ⟨RX8, "outside", "(III)I"⟩
abbrev cX8_turns : ByteArray := prog_10_method_10_code
def yX8_turns : MethodName := ⟨RX8, "turns", "(III)I"⟩
abbrev cX8_from : ByteArray := prog_10_method_11_code
def yX8_from : MethodName := ⟨RX8, "from", "(III)I"⟩
abbrev cX8_out : ByteArray := prog_10_method_12_code
def yX8_out : MethodName := ⟨RX8, "out", "(II)I"⟩
abbrev cX8_ray : ByteArray := prog_10_method_13_code
def yX8_ray : MethodName := ⟨RX8, "ray", "(IIII)I"⟩
abbrev cX8_layMap : ByteArray := prog_10_method_14_code
def yX8_layMap : MethodName := ⟨RX8, "layMap", "(II)V"⟩
abbrev cX8_bowOf : ByteArray := prog_10_method_15_code
def yX8_bowOf : MethodName := ⟨RX8, "bowOf", "()I"⟩
abbrev cX8_map : ByteArray := prog_10_method_16_code
def yX8_map : MethodName := ⟨RX8, "map", "(III)J"⟩
abbrev cX8_bow : ByteArray := prog_10_method_17_code
def yX8_bow : MethodName := ⟨RX8, "bow", "(IIII)I"⟩
abbrev cX8_dark : ByteArray := prog_10_method_18_code
def yX8_dark : MethodName := ⟨RX8, "dark", "(II)I"⟩
abbrev cX8_wedge : ByteArray := prog_10_method_19_code
def yX8_wedge : MethodName := ⟨RX8, "wedge", "(II)I"⟩
abbrev cX8_hasWedge : ByteArray := prog_10_method_20_code
def yX8_hasWedge : MethodName := ⟨RX8, "hasWedge", "(II)Z"⟩
abbrev cX8_noWedges : ByteArray := prog_10_method_21_code
def yX8_noWedges : MethodName := ⟨RX8, "noWedges", "(I)I"⟩
abbrev cX8_turnedBy : ByteArray := prog_10_method_22_code
def yX8_turnedBy : MethodName := ⟨RX8, "turnedBy", "(III)I"⟩
abbrev cX8_turned : ByteArray := prog_10_method_23_code
def yX8_turned : MethodName := ⟨RX8, "turned", "(III)I"⟩
abbrev cX8_ringOf : ByteArray := prog_10_method_24_code
def yX8_ringOf : MethodName := ⟨RX8, "ringOf", "(II)I"⟩
abbrev cX8_ring : ByteArray := prog_10_method_25_code
def yX8_ring : MethodName := ⟨RX8, "ring", "(II)I"⟩
abbrev cX8_layRings : ByteArray := prog_10_method_26_code
def yX8_layRings : MethodName := ⟨RX8, "layRings", "()V"⟩
abbrev cX8_put : ByteArray := prog_10_method_27_code
def yX8_put : MethodName := ⟨RX8, "put", "(IIII)V"⟩
abbrev cX8_putRing : ByteArray := prog_10_method_28_code
def yX8_putRing : MethodName := ⟨RX8, "putRing", "(III)V"⟩
abbrev cX8_layLights : ByteArray := prog_10_method_29_code
def yX8_layLights : MethodName := ⟨RX8, "layLights", "(II)V"⟩
abbrev cX8_light : ByteArray := prog_10_method_30_code
def yX8_light : MethodName := ⟨RX8, "light", "(IIII)I"⟩
abbrev cX8_mark : ByteArray := prog_10_method_31_code
def yX8_mark : MethodName := ⟨RX8, "mark", "(IIII)I"⟩
abbrev cX8_wipe : ByteArray := prog_10_method_32_code
def yX8_wipe : MethodName := ⟨RX8, "wipe", "()I"⟩
abbrev cX8_meets : ByteArray := prog_10_method_33_code
def yX8_meets : MethodName := ⟨RX8, "meets", "(II)Z"⟩
abbrev cX8_layMet : ByteArray := prog_10_method_34_code
def yX8_layMet : MethodName := ⟨RX8, "layMet", "(I)V"⟩
abbrev cX8_metBy : ByteArray := prog_10_method_35_code
def yX8_metBy : MethodName := ⟨RX8, "metBy", "(I)I"⟩
abbrev cX8_allMarks : ByteArray := prog_10_method_36_code
def yX8_allMarks : MethodName := ⟨RX8, "allMarks", "()I"⟩
abbrev cX8_isAsked : ByteArray := prog_10_method_37_code
def yX8_isAsked : MethodName := ⟨RX8, "isAsked", "(II)Z"⟩
abbrev cX8_explains : ByteArray := prog_10_method_38_code
def yX8_explains : MethodName := ⟨RX8, "explains", "(II)I"⟩
abbrev cX8_bits : ByteArray := prog_10_method_39_code
def yX8_bits : MethodName := ⟨RX8, "bits", "(I)I"⟩
abbrev cX8_fewest : ByteArray := prog_10_method_40_code
def yX8_fewest : MethodName := ⟨RX8, "fewest", "(I)I"⟩
abbrev cX8_owed : ByteArray := prog_10_method_41_code
def yX8_owed : MethodName := ⟨RX8, "owed", "(II)I"⟩
abbrev cX8_never : ByteArray := prog_10_method_42_code
def yX8_never : MethodName := ⟨RX8, "never", "()I"⟩
abbrev cX8_heights : ByteArray := prog_10_method_43_code
def yX8_heights : MethodName := ⟨RX8, "heights", "(II)I"⟩
abbrev cX8_cut : ByteArray := prog_10_method_44_code
def yX8_cut : MethodName := ⟨RX8, "cut", "(II)I"⟩
abbrev cX8_spots : ByteArray := prog_10_method_45_code
def yX8_spots : MethodName := ⟨RX8, "spots", "(II)I"⟩
abbrev cX8_isMade : ByteArray := prog_10_method_46_code
def yX8_isMade : MethodName := ⟨RX8, "isMade", "(I)Z"⟩
abbrev cX8_laySpots : ByteArray := prog_10_method_47_code
def yX8_laySpots : MethodName := ⟨RX8, "laySpots", "(I)V"⟩
abbrev cX8_made : ByteArray := prog_10_method_48_code
def yX8_made : MethodName := ⟨RX8, "made", "(II)I"⟩
abbrev cX8_maker : ByteArray := prog_10_method_49_code
def yX8_maker : MethodName := ⟨RX8, "maker", "(I)I"⟩
abbrev cX8_day : ByteArray := prog_10_method_50_code
def yX8_day : MethodName := ⟨RX8, "day", "(III)I"⟩
abbrev cX8_odds : ByteArray := prog_10_method_51_code
def yX8_odds : MethodName := ⟨RX8, "odds", "(IIIII)I"⟩
abbrev cX8_together : ByteArray := prog_10_method_52_code
def yX8_together : MethodName := ⟨RX8, "together", "(II)I"⟩
abbrev cX8_keep : ByteArray := prog_10_method_53_code
def yX8_keep : MethodName := ⟨RX8, "keep", "()I"⟩
abbrev cX8_back : ByteArray := prog_10_method_54_code
def yX8_back : MethodName := ⟨RX8, "back", "()I"⟩
abbrev cX8_count : ByteArray := prog_10_method_55_code
def yX8_count : MethodName := ⟨RX8, "count", "(I)I"⟩
def RJx8e188 : String := "java/lang/Cloneable"
def RJ6 : String := "java/lang/Integer"
abbrev cJ6_bitCount_0f7a4 : ByteArray := prog_12_method_49_code
def yJ6_bitCount_0f7a4 : MethodName := ⟨RJ6, "bitCount", "(I)I"⟩
def RJ9 : String := "java/lang/Math"
abbrev cJ9_floorMod_7cf53 : ByteArray := prog_13_method_50_code
def yJ9_floorMod_7cf53 : MethodName := ⟨RJ9, "floorMod", "(II)I"⟩
abbrev cJ9_max_7cf53 : ByteArray := prog_13_method_65_code
def yJ9_max_7cf53 : MethodName := ⟨RJ9, "max", "(II)I"⟩
abbrev cJ9_min_7cf53 : ByteArray := prog_13_method_69_code
def yJ9_min_7cf53 : MethodName := ⟨RJ9, "min", "(II)I"⟩
def RJ10 : String := "java/lang/System"
def RJ7 : String := "java/util/Arrays"
abbrev cJ7_fill_d0a16 : ByteArray := prog_15_method_101_code
def yJ7_fill_d0a16 : MethodName := ⟨RJ7, "fill", "([JJ)V"⟩
abbrev cJ7_fill_53178 : ByteArray := prog_15_method_103_code
def yJ7_fill_53178 : MethodName := ⟨RJ7, "fill", "([II)V"⟩
def RL : String := "SunRingsLaw"
abbrev cL_law : ByteArray := code
def yL_law : MethodName := ⟨RL, "law", "([I)Z"⟩
abbrev vwCl : List vw_C := [(RX0, TX0, 3), (RX1, TX1, 4), (RX2, TX2, 4), (RX3, TX3, 3), (RX4, TX4, 2), (RX5, TX5, 2), (RX6, TX6, 5), (RX7, TX7, 8), (RX8, TX8, 29)]
end
section
/-! ===== THE SMALL MACHINE: the cells of the whole system by number; one step of a method's code on them; runs. No heap, no tables: part 03 ties it to the machine ===== -/
/-- what the cells hold: ints (fields and arrays) by cell and place; longs likewise -/
abbrev zH : Type := (Nat → Nat → Int32) × (Nat → Nat → Int64)
def zsi (h : zH) (k j : Nat) (x : Int32) : zH := (fun a b => if a = k ∧ b = j then x else h.1 a b, h.2)
def zsl (h : zH) (k j : Nat) (x : Int64) : zH := (h.1, fun a b => if a = k ∧ b = j then x else h.2 a b)
/-- the shape of a cell: an array (0 int, 1 boolean, 2 long, 3 of Setup: its cells), its length; or an object: its class's number, its fields (a cell, or an int) -/
abbrev zS : Type := (Nat × Nat × List Nat) ⊕ (Nat × List (Option Nat))
def zSetup (k : Nat) : List zS := [.inr (6, [some (k + 1), some (k + 2), some (k + 3), some (k + 4), some (k + 5)]), .inl (0, 30, []), .inl (0, 5, []), .inl (0, 12, []), .inl (0, 4, []), .inl (0, 12, [])]
def zSh : List zS := [
  .inr (7, [some 1, some 7, none, some 26, some 29, some 32, some 35, some 38]),
  .inr (6, [some 2, some 3, some 4, some 5, some 6]), .inl (0, 30, []), .inl (0, 5, []), .inl (0, 12, []), .inl (0, 4, []), .inl (0, 12, []),
  .inl (3, 3, [8, 14, 20]),
  .inr (6, [some 9, some 10, some 11, some 12, some 13]), .inl (0, 30, []), .inl (0, 5, []), .inl (0, 12, []), .inl (0, 4, []), .inl (0, 12, []),
  .inr (6, [some 15, some 16, some 17, some 18, some 19]), .inl (0, 30, []), .inl (0, 5, []), .inl (0, 12, []), .inl (0, 4, []), .inl (0, 12, []),
  .inr (6, [some 21, some 22, some 23, some 24, some 25]), .inl (0, 30, []), .inl (0, 5, []), .inl (0, 12, []), .inl (0, 4, []), .inl (0, 12, []),
  .inr (3, [some 1, some 27, some 28]), .inl (2, 181, []), .inl (2, 181, []),
  .inr (4, [some 1, some 30]), .inr (5, [some 31, none]), .inl (0, 28, []),
  .inr (2, [some 29, some 33, none, some 34]), .inl (0, 48, []), .inl (0, 4096, []),
  .inr (0, [some 29, some 36, some 37]), .inl (0, 12, []), .inl (0, 16, []),
  .inr (1, [some 39, some 40, some 41, none]), .inl (0, 60, []), .inl (0, 60, []), .inl (0, 60, []),
  .inr (8, [some 43, none, none, none, none, none, some 44, some 45, none, some 46, some 47, some 48, some 49, some 50, none, some 51, some 52, some 53, some 54, some 55, some 56, none, some 57, some 58, some 59, some 60, some 61, some 62, none]),
  .inl (0, 30, []), .inl (0, 4, []), .inl (0, 12, []), .inl (0, 12, []), .inl (0, 12, []), .inl (0, 12, []), .inl (0, 12, []), .inl (0, 12, []),
  .inl (0, 60, []), .inl (0, 60, []), .inl (0, 60, []), .inl (2, 181, []), .inl (1, 181, []), .inl (0, 12, []),
  .inl (0, 8, []), .inl (0, 8, []), .inl (0, 8, []), .inl (0, 8, []), .inl (0, 16, []), .inl (0, 153, [])]
abbrev zI : Type := Nat × Instr × Nat
abbrev zRel : Type := List Value → zH → Option Value → zH → Prop
/-- a method: its code; field links (class, field, may be written); static links; constants; long constants; calls (arguments, kind of answer: 0 none, 1 int, 2 long; the receiver's class; what it does); arrays that nobody writes -/
abbrev zM : Type := List zI × List (Nat × Nat × Nat × Bool) × List (Nat × Nat) × List (Nat × Int32) × List (Nat × Int64) × List (Nat × Nat × Nat × Option Nat × zRel) × List (Nat × Nat × (Nat → Int32))
def zlk0 {α : Type} : List (Nat × α) → Nat → Option α
  | [], _ => none
  | (a, b) :: l, i => match Nat.beq a i with
    | true => some b
    | false => zlk0 l i
theorem zlk0_mem {α : Type} : ∀ {l : List (Nat × α)} {i : Nat} {b : α}, zlk0 l i = some b → (i, b) ∈ l
  | [], _, _, h => by simp [zlk0] at h
  | (a, c) :: l, i, b, h => by
    unfold zlk0 at h
    split at h
    next e => cases h; rw [Nat.eq_of_beq_eq_true e]; exact List.mem_cons_self
    next => exact List.mem_cons_of_mem _ (zlk0_mem h)
/-- where a jump leads -/
def zj (cd : List zI) (pc : Nat) (off : Int) : List zI := match (pc : Int) + off with
  | .ofNat t => cd.dropWhile (fun e => !(Nat.beq e.1 t))
  | .negSucc _ => []
def zc (c : ClassFile.Cond) (x y : Int32) : Prop := match c with
  | .eq => x = y
  | .ne => ¬ x = y
  | .lt => x < y
  | .ge => y ≤ x
  | .gt => y < x
  | .le => x ≤ y
def zcs : List Value → Nat
  | [] => 0
  | v :: l => v.category + zcs l
def zsw (cd : List zI) (pc : Nat) (x : Int32) (k : List zI → Prop) : Int → List Int → Prop
  | _, [] => True
  | lo, o :: os => (x.toInt = lo → k (zj cd pc o)) ∧ zsw cd pc x k (lo + 1) os
/-- the receiver is an object of that class -/
def zrcv (o : Option Nat) (as : List Value) : Bool := match o with
  | none => true
  | some ci => match as with
    | .ref a :: _ => match zSh[a]? with
      | some (.inr (ci', _)) => Nat.beq ci ci'
      | _ => false
    | _ => false
def zcall (vt : Bool) (c : Option (Nat × Nat × Option Nat × zRel)) (tl : List zI) (ls : List (Option Value)) (st : List Value) (h : zH) (k : List zI → List (Option Value) → List Value → zH → Prop) : Prop := match c with
  | some (n, kd, o, Rl) => match Nat.ble (zcs (st.drop n)) 8 && (Nat.beq (st.take n).length n && ((o.isSome == vt) && zrcv o (st.take n).reverse)) with
    | true => match kd with
      | 0 => ∃ h' : zH, Rl (st.take n).reverse h none h' ∧ k tl ls (st.drop n) h'
      | 1 => ∃ (v : Int32) (h' : zH), Rl (st.take n).reverse h (some (.int v)) h' ∧ k tl ls (.int v :: st.drop n) h'
      | 2 => ∃ (v : Int64) (h' : zH), Rl (st.take n).reverse h (some (.long v)) h' ∧ k tl ls (.long v :: st.drop n) h'
      | _ => False
    | false => False
  | none => False
/-- no long stands ahead of local i -/
def znl (ls : List (Option Value)) (i : Nat) : Bool := match ls[i - 1]? with
  | some (some v) => Nat.beq v.category 1
  | _ => true
/-- one instruction -/
def zst (M : zM) (post : Option Value → zH → Prop) (pc : Nat) (ins : Instr) (tl : List zI) (ls : List (Option Value)) (st : List Value) (h : zH) (k : List zI → List (Option Value) → List Value → zH → Prop) : Prop := match ins with
  | .iload_n i => match ls[i.val]? with
    | some (some (.int x)) => k tl ls (.int x :: st) h
    | _ => False
  | .iload i => match ls[i]? with
    | some (some (.int x)) => k tl ls (.int x :: st) h
    | _ => False
  | .aload_n i => match ls[i.val]? with
    | some (some (.ref x)) => k tl ls (.ref x :: st) h
    | _ => False
  | .aload i => match ls[i]? with
    | some (some (.ref x)) => k tl ls (.ref x :: st) h
    | _ => False
  | .lload_n i => match ls[i.val]? with
    | some (some (.long x)) => k tl ls (.long x :: st) h
    | _ => False
  | .istore_n i => match st with
    | .int x :: st => match Nat.blt i.val ls.length && znl ls i.val with
      | true => k tl (ls.set i.val (some (.int x))) st h
      | false => False
    | _ => False
  | .istore i => match st with
    | .int x :: st => match Nat.blt i ls.length && znl ls i with
      | true => k tl (ls.set i (some (.int x))) st h
      | false => False
    | _ => False
  | .iinc i n => match ls[i]? with
    | some (some (.int x)) => match znl ls i with
      | true => k tl (ls.set i (some (.int (x + Int32.ofInt n)))) st h
      | false => False
    | _ => False
  | .iconst n => k tl ls (.int (Int32.ofInt n) :: st) h
  | .bipush n => k tl ls (.int (Int8.ofInt n).toInt32 :: st) h
  | .sipush n => k tl ls (.int (Int16.ofInt n).toInt32 :: st) h
  | .lconst n => k tl ls (.long (Int64.ofNat n.val) :: st) h
  | .ldc i => match zlk0 M.2.2.2.1 i with
    | some v => k tl ls (.int v :: st) h
    | none => False
  | .ldc2_w i => match zlk0 M.2.2.2.2.1 i with
    | some v => k tl ls (.long v :: st) h
    | none => False
  | .iadd => match st with
    | .int y :: .int x :: st => k tl ls (.int (x + y) :: st) h
    | _ => False
  | .isub => match st with
    | .int y :: .int x :: st => k tl ls (.int (x - y) :: st) h
    | _ => False
  | .imul => match st with
    | .int y :: .int x :: st => k tl ls (.int (x * y) :: st) h
    | _ => False
  | .idiv => match st with
    | .int y :: .int x :: st => ¬ y = 0 ∧ k tl ls (.int (x / y) :: st) h
    | _ => False
  | .irem => match st with
    | .int y :: .int x :: st => ¬ y = 0 ∧ k tl ls (.int (x - x / y * y) :: st) h
    | _ => False
  | .iand => match st with
    | .int y :: .int x :: st => k tl ls (.int (x &&& y) :: st) h
    | _ => False
  | .ior => match st with
    | .int y :: .int x :: st => k tl ls (.int (x ||| y) :: st) h
    | _ => False
  | .ixor => match st with
    | .int y :: .int x :: st => k tl ls (.int (x ^^^ y) :: st) h
    | _ => False
  | .ishl => match st with
    | .int y :: .int x :: st => k tl ls (.int (x <<< (y &&& 31)) :: st) h
    | _ => False
  | .ishr => match st with
    | .int y :: .int x :: st => k tl ls (.int (x >>> (y &&& 31)) :: st) h
    | _ => False
  | .iushr => match st with
    | .int y :: .int x :: st => k tl ls (.int (x.toUInt32 >>> (y.toUInt32 &&& Int32.toUInt32 31)).toInt32 :: st) h
    | _ => False
  | .ladd => match st with
    | .long y :: .long x :: st => k tl ls (.long (x + y) :: st) h
    | _ => False
  | .lmul => match st with
    | .long y :: .long x :: st => k tl ls (.long (x * y) :: st) h
    | _ => False
  | .i2l => match st with
    | .int x :: st => k tl ls (.long x.toInt64 :: st) h
    | _ => False
  | .lcmp => match st with
    | .long y :: .long x :: st => k tl ls (.int (lg_cmp x y) :: st) h
    | _ => False
  | .dup => match st with
    | .int x :: st => k tl ls (.int x :: .int x :: st) h
    | .ref x :: st => k tl ls (.ref x :: .ref x :: st) h
    | _ => False
  | .dup2 => match st with
    | .int y :: .ref x :: st => k tl ls (.int y :: .ref x :: .int y :: .ref x :: st) h
    | _ => False
  | .ifCond c off => match st with
    | .int x :: st => (zc c x 0 → k (zj M.1 pc off) ls st h) ∧ (¬ zc c x 0 → k tl ls st h)
    | _ => False
  | .if_icmp c off => match st with
    | .int y :: .int x :: st => (zc c x y → k (zj M.1 pc off) ls st h) ∧ (¬ zc c x y → k tl ls st h)
    | _ => False
  | .goto off => k (zj M.1 pc off) ls st h
  | .tableswitch d lo hi offs => match st with
    | .int x :: st => (x.toInt < lo ∨ hi < x.toInt → k (zj M.1 pc d) ls st h) ∧ zsw M.1 pc x (fun q => k q ls st h) lo offs.toList
    | _ => False
  | .ireturn => match st with
    | [.int v] => post (some (.int v)) h
    | _ => False
  | .lreturn => match st with
    | [.long v] => post (some (.long v)) h
    | _ => False
  | .return_ => match st with
    | [] => post none h
    | _ => False
  | .getfield i => match st with
    | .ref a :: st => match zlk0 M.2.1 i with
      | some (ci, j, _) => match zSh[a]? with
        | some (.inr (ci', fs)) => match Nat.beq ci ci' with
          | true => match fs[j]? with
            | some (some r) => k tl ls (.ref r :: st) h
            | some none => k tl ls (.int (h.1 a j) :: st) h
            | none => False
          | false => False
        | _ => False
      | none => False
    | _ => False
  | .putfield i => match st with
    | .int x :: .ref a :: st => match zlk0 M.2.1 i with
      | some (ci, j, true) => match zSh[a]? with
        | some (.inr (ci', fs)) => match Nat.beq ci ci' with
          | true => match fs[j]? with
            | some none => k tl ls st (zsi h a j x)
            | _ => False
          | false => False
        | _ => False
      | _ => False
    | _ => False
  | .getstatic i => match zlk0 M.2.2.1 i with
    | some a => k tl ls (.ref a :: st) h
    | none => False
  | .iaload => match st with
    | .int i :: .ref a :: st => match zSh[a]? with
      | some (.inl (0, n, _)) => vp_in i n ∧ k tl ls (.int (h.1 a i.toNatClampNeg) :: st) h
      | none => match zlk0 M.2.2.2.2.2.2 a with
        | some (n, f) => vp_in i n ∧ k tl ls (.int (f i.toNatClampNeg) :: st) h
        | none => False
      | _ => False
    | _ => False
  | .iastore => match st with
    | .int x :: .int i :: .ref a :: st => match zSh[a]? with
      | some (.inl (0, n, _)) => vp_in i n ∧ k tl ls st (zsi h a i.toNatClampNeg x)
      | _ => False
    | _ => False
  | .baload => match st with
    | .int i :: .ref a :: st => match zSh[a]? with
      | some (.inl (1, n, _)) => vp_in i n ∧ k tl ls (.int (h.1 a i.toNatClampNeg) :: st) h
      | _ => False
    | _ => False
  | .bastore => match st with
    | .int x :: .int i :: .ref a :: st => match zSh[a]? with
      | some (.inl (1, n, _)) => vp_in i n ∧ k tl ls st (zsi h a i.toNatClampNeg (vp_nar .boolean x))
      | _ => False
    | _ => False
  | .laload => match st with
    | .int i :: .ref a :: st => match zSh[a]? with
      | some (.inl (2, n, _)) => vp_in i n ∧ k tl ls (.long (h.2 a i.toNatClampNeg) :: st) h
      | _ => False
    | _ => False
  | .lastore => match st with
    | .long x :: .int i :: .ref a :: st => match zSh[a]? with
      | some (.inl (2, n, _)) => vp_in i n ∧ k tl ls st (zsl h a i.toNatClampNeg x)
      | _ => False
    | _ => False
  | .aaload => match st with
    | .int i :: .ref a :: st => match zSh[a]? with
      | some (.inl (3, n, rs)) => vp_in i n ∧ match rs[i.toNatClampNeg]? with
        | some r => k tl ls (.ref r :: st) h
        | none => False
      | _ => False
    | _ => False
  | .arraylength => match st with
    | .ref a :: st => match zSh[a]? with
      | some (.inl (0, n, _)) => k tl ls (.int (Int32.ofNat n) :: st) h
      | none => match zlk0 M.2.2.2.2.2.2 a with
        | some (n, _) => k tl ls (.int (Int32.ofNat n) :: st) h
        | none => False
      | _ => False
    | _ => False
  | .invokevirtual i => zcall true (zlk0 M.2.2.2.2.2.1 i) tl ls st h k
  | .invokestatic i => zcall false (zlk0 M.2.2.2.2.2.1 i) tl ls st h k
  | _ => False
/-- a run of n instructions at most, to the method's end -/
def zgo (M : zM) (post : Option Value → zH → Prop) : Nat → List zI → List (Option Value) → List Value → zH → Prop
  | 0, _, _, _, _ => False
  | _ + 1, [], _, _, _ => False
  | n + 1, (pc, ins, _) :: tl, ls, st, h => zst M post pc ins tl ls st h (zgo M post n)
def zG (M : zM) (post : Option Value → zH → Prop) (is : List zI) (ls : List (Option Value)) (st : List Value) (h : zH) : Prop := ∃ n, zgo M post n is ls st h
def zarg : List Value → List (Option Value)
  | [] => []
  | .long x :: vs => some (.long x) :: none :: zarg vs
  | v :: vs => some v :: zarg vs
def zini (nL : Nat) (as : List Value) : List (Option Value) := zarg as ++ List.replicate (nL - (zarg as).length) none
def znd : List Value → Bool
  | [] => true
  | .double _ :: _ => false
  | _ :: vs => znd vs
/-- the kind of an answer -/
def zkd (ret : Option FieldType) (r : Option Value) : Prop := match ret with
  | none => r = none
  | some .long => ∃ v, r = some (.long v)
  | some .int => ∃ v, r = some (.int v)
  | some .boolean => r = some (.int 0) ∨ r = some (.int 1)
  | _ => False
/-- what a method does -/
def zR (M : zM) (nL : Nat) (ret : Option FieldType) : zRel := fun as h r h' => (Nat.ble (zarg as).length nL && znd as) = true ∧ zkd ret r ∧ zG M (fun r1 h1 => r1 = r ∧ h1 = h') M.1 (zini nL as) [] h
end
section
/-! ===== THE SMALL MACHINE SPEAKS TRUE: a run of it is a walk of the machine ===== -/
def zv (ad : Nat → Nat) : Value → Value
  | .ref k => .ref (ad k)
  | v => v
theorem zv_cat (ad : Nat → Nat) (v : Value) : (zv ad v).category = v.category := by cases v <;> rfl
def zF (ad : Nat → Nat) (h : zH) (k : Nat) (fs : List (Option Nat)) : List Value := fs.mapIdx (fun j f => match f with
  | some r => .ref (ad r)
  | none => .int (h.1 k j))
def zE (ca : Nat → ClassId) (ad : Nat → Nat) (h : zH) (k : Nat) : zS → va_E
  | .inl (2, n, _) => .inl (ca 2, n, .inr (.inl (h.2 k)))
  | .inl (3, n, rs) => .inl (ca 3, n, .inr (.inr (.inr (.inr (fun i => (rs[i]?).map ad)))))
  | .inl (t, n, _) => .inl (ca t, n, .inl (h.1 k))
  | .inr (ci, fs) => .inr (ci, zF ad h k fs)
def zW (ca : Nat → ClassId) (ad : Nat → Nat) (h : zH) : va_W := zSh.mapIdx (fun k sh => (ad k, zE ca ad h k sh))
def zT (ca : Nat → ClassId) : List (ClassId × FieldType) := [(ca 0, .int), (ca 1, .boolean), (ca 2, .long), (ca 3, .object RX6)]
theorem zW_get {ca : Nat → ClassId} {ad : Nat → Nat} {h : zH} {k : Nat} {sh : zS} (hk : zSh[k]? = some sh) : (zW ca ad h)[k]? = some (ad k, zE ca ad h k sh) := by
  unfold zW
  rw [List.getElem?_mapIdx, hk]
  rfl
theorem zF_congr {ad : Nat → Nat} {h h' : zH} {k : Nat} (h1 : h.1 k = h'.1 k) (fs : List (Option Nat)) : zF ad h k fs = zF ad h' k fs := by
  unfold zF
  rw [h1]
theorem zE_congr {ca : Nat → ClassId} {ad : Nat → Nat} {h h' : zH} {k : Nat} (h1 : h.1 k = h'.1 k) (h2 : h.2 k = h'.2 k) (sh : zS) : zE ca ad h k sh = zE ca ad h' k sh := by
  unfold zE
  split <;> simp only [h1, h2, zF_congr h1]
theorem zW_set {ca : Nat → ClassId} {ad : Nat → Nat} {h h' : zH} {k : Nat} {sh : zS} {e : va_E} (hk : zSh[k]? = some sh) (he : zE ca ad h' k sh = e) (ho : ∀ q, q ≠ k → h.1 q = h'.1 q ∧ h.2 q = h'.2 q) : (zW ca ad h).set k (ad k, e) = zW ca ad h' := by
  apply List.ext_getElem?
  intro i
  by_cases hi : i = k
  · subst hi
    have hl : i < (zW ca ad h).length := (List.getElem?_eq_some_iff.mp (zW_get (ca := ca) (ad := ad) (h := h) hk)).1
    rw [List.getElem?_set_self hl, zW_get hk, he]
  · rw [List.getElem?_set_ne (Ne.symm hi)]
    unfold zW
    rw [List.getElem?_mapIdx, List.getElem?_mapIdx]
    cases zSh[i]? with
    | none => rfl
    | some sh2 =>
      obtain ⟨q1, q2⟩ := ho i hi
      simp only [Option.map_some, zE_congr q1 q2]
theorem zsi_off (h : zH) (k j : Nat) (x : Int32) : ∀ q, q ≠ k → h.1 q = (zsi h k j x).1 q ∧ h.2 q = (zsi h k j x).2 q := by
  intro q hq
  refine ⟨?_, rfl⟩
  funext b
  simp [zsi, hq]
theorem zsl_off (h : zH) (k j : Nat) (x : Int64) : ∀ q, q ≠ k → h.1 q = (zsl h k j x).1 q ∧ h.2 q = (zsl h k j x).2 q := by
  intro q hq
  refine ⟨rfl, ?_⟩
  funext b
  simp [zsl, hq]
theorem zsi_at (h : zH) (k j : Nat) (x : Int32) : (zsi h k j x).1 k = upd (h.1 k) j x := by
  funext b
  simp [zsi, upd]
theorem zsl_at (h : zH) (k j : Nat) (x : Int64) : (zsl h k j x).2 k = vp_updL (h.2 k) j x := by
  funext b
  simp [zsl, vp_updL]
theorem zF_set {ad : Nat → Nat} {h : zH} {k j : Nat} {x : Int32} {fs : List (Option Nat)} (hj : fs[j]? = some none) : (zF ad h k fs).set j (.int x) = zF ad (zsi h k j x) k fs := by
  have hl : j < fs.length := (List.getElem?_eq_some_iff.mp hj).1
  apply List.ext_getElem?
  intro i
  by_cases hi : i = j
  · subst hi
    rw [List.getElem?_set_self (by simp [zF, hl])]
    simp [zF, List.getElem?_mapIdx, hj, zsi]
  · rw [List.getElem?_set_ne (Ne.symm hi)]
    simp only [zF, List.getElem?_mapIdx]
    cases fs[i]? with
    | none => rfl
    | some f => cases f <;> simp [zsi, hi]
def zInv (D : va_G) (ca : Nat → ClassId) (ad : Nat → Nat) (A : Nat → Prop) (H0 : Heap) (h : zH) (H : Heap) (locs : List Loc) : Prop := va_P D vwCl (zW ca ad h) H ∧ va_D A (zW ca ad h) ∧ va_S A H0 H locs
/-! the locals -/
def zl (ad : Nat → Nat) (ls : List (Option Value)) : List (Nat × Value) := ls.zipIdx.filterMap (fun q => q.1.map (fun v => (q.2, zv ad v)))
theorem zl_mem {ad : Nat → Nat} {ls : List (Option Value)} {q : Nat × Value} : q ∈ zl ad ls ↔ ∃ (i : Nat) (v : Value), ls[i]? = some (some v) ∧ q = (i, zv ad v) := by
  unfold zl
  rw [List.mem_filterMap]
  constructor
  · rintro ⟨⟨o, i⟩, hm, ho⟩
    rw [List.mem_zipIdx_iff_getElem?] at hm
    cases o with
    | none => cases ho
    | some v => exact ⟨i, v, hm, (Option.some.inj ho).symm⟩
  · rintro ⟨i, v, hi, rfl⟩
    exact ⟨(some v, i), List.mem_zipIdx_iff_getElem?.mpr hi, rfl⟩
def zLo (ad : Nat → Nat) (nL : Nat) (la : Array Slot) (ls : List (Option Value)) : Prop := lv_has la nL (zl ad ls) ∧ ls.length = nL
theorem zLo_at {ad : Nat → Nat} {nL : Nat} {la : Array Slot} {ls : List (Option Value)} (hl : zLo ad nL la ls) {i : Nat} {v : Value} (hi : ls[i]? = some (some v)) : la[i]? = some (.val (zv ad v)) := hl.1.2.2 (i, zv ad v) (zl_mem.mpr ⟨i, v, hi, rfl⟩)
theorem zLo_set {ad : Nat → Nat} {nL : Nat} {la la' : Array Slot} {ls : List (Option Value)} (hl : zLo ad nL la ls) {i : Nat} {v : Value} (hz : znl ls i = true) (h' : lv_has la' nL ((i, zv ad v) :: (zl ad ls).filter (fun q => !(q.1 == i) && !(q.1 + 1 == i && q.2.category == 2)))) : zLo ad nL la' (ls.set i (some v)) := by
  refine ⟨⟨h'.1, h'.2.1, fun q hq => ?_⟩, by rw [List.length_set]; exact hl.2⟩
  obtain ⟨j, w, hj, rfl⟩ := zl_mem.mp hq
  by_cases hji : j = i
  · subst hji
    have hlt : j < ls.length := by
      have := (List.getElem?_eq_some_iff.mp hj).1
      simpa using this
    rw [List.getElem?_set_self hlt] at hj
    cases hj
    exact h'.2.2 _ List.mem_cons_self
  · rw [List.getElem?_set_ne (Ne.symm hji)] at hj
    refine h'.2.2 _ (List.mem_cons_of_mem _ (List.mem_filter.mpr ⟨zl_mem.mpr ⟨j, w, hj, rfl⟩, ?_⟩))
    by_cases hj1 : j + 1 = i
    · subst hj1
      unfold znl at hz
      rw [Nat.add_sub_cancel, hj] at hz
      have hw : w.category = 1 := Nat.eq_of_beq_eq_true hz
      simp [zv_cat, hw]
    · simp [hji, hj1]
/-! the code -/
def zln : Instr → Nat
  | .iload _ => 2
  | .istore _ => 2
  | .aload _ => 2
  | .bipush _ => 2
  | .ldc _ => 2
  | .sipush _ => 3
  | .ldc2_w _ => 3
  | .iinc _ _ => 3
  | .ifCond _ _ => 3
  | .if_icmp _ _ => 3
  | .goto _ => 3
  | .getfield _ => 3
  | .putfield _ => 3
  | .getstatic _ => 3
  | .invokevirtual _ => 3
  | .invokestatic _ => 3
  | _ => 1
def zlo : Nat → Instr → Nat → Bool
  | _, .tableswitch _ lo hi offs, _ => decide (hi < lo + (offs.size : Int))
  | pc, .ifCond _ o, n => Nat.beq n 3 && decide (0 ≤ (pc : Int) + o)
  | pc, .if_icmp _ o, n => Nat.beq n 3 && decide (0 ≤ (pc : Int) + o)
  | _, i, n => Nat.beq n (zln i)
def zch : List zI → Bool
  | [] => true
  | (pc, i, n) :: tl => zlo pc i n && (match tl with
    | [] => true
    | (pc2, _, _) :: _ => Nat.beq pc2 (pc + n)) && zch tl
theorem zch_suffix : ∀ (pre is : List zI), zch (pre ++ is) = true → zch is = true
  | [], _, h => h
  | (pc, i, n) :: pre, is, h => by
    simp only [List.cons_append, zch, Bool.and_eq_true] at h
    exact zch_suffix pre is h.2
def zpc : List zI → Nat
  | [] => 0
  | (pc, _, _) :: _ => pc
section ZS
variable {p : Program} {l : Launch} {e : Env} {R : Room} {s : State} {m : MethodId} {args : Array Value} {below : List Frame} {meth : Method} {c : Code} {cells slots : Nat} {Q : State → Prop}
/-- a field link: what va_get and va_put need -/
def zFl (s : State) (args : Array Value) (own : String) (q : Nat × Nat × Nat × Bool) : Prop := ∃ (C : String) (T : u_T) (N : Nat) (ty0 : Nat → FieldType), vwCl[q.2.1]? = some (C, T, N) ∧ q.2.2.1 < N ∧ (∀ w ∈ u_ws C T N, w.before args s = true) ∧ (Cond.fieldLink own q.1 (T q.2.2.1).1 (T q.2.2.1).2.1 (T q.2.2.1).2.2.1).before args s = true ∧ (∀ k, k < N → parseFieldDescriptor (T k).2.2.1 = some (ty0 k)) ∧ (∀ a, a < N → ∀ b, b < N → a ≠ b → (T a).2.1 ≠ (T b).2.1) ∧ (q.2.2.2 = true → (T q.2.2.1).2.2.2 = false ∧ ty0 q.2.2.1 = .int)
def zCl (p : Program) (l : Launch) (e : Env) (R : Room) (s : State) (m : MethodId) (args : Array Value) (below : List Frame) (meth : Method) (c : Code) (cells slots : Nat) (Q : State → Prop) (cc : ByteArray) (nL : Nat) (D : va_G) (ca : Nat → ClassId) (ad : Nat → Nat) (A : Nat → Prop) (H0 : Heap) (q : Nat × Nat × Nat × Option Nat × zRel) : Prop :=
  ∀ (as : List Value) (h : zH) (r : Option Value) (h' : zH) (H : Heap) (locs : List Loc) (rest : List Value) (la : Array Slot) (pc : Nat) (ins : Instr), q.2.2.2.2 as h r h' → as.length = q.2.1 → zrcv q.2.2.2.1 as = true → decode cc pc = .ok (ins, 3) → (ins = .invokevirtual q.1 ∧ q.2.2.2.1.isSome = true) ∨ (ins = .invokestatic q.1 ∧ q.2.2.2.1.isSome = false) → zInv D ca ad A H0 h H locs → la.size = nL → (rest.map fun v => v.category).sum ≤ 8 →
    (∀ (H' : Heap) (locs' : List Loc), zInv D ca ad A H0 h' H' locs' → W p l e R s m args below meth c H' locs' cells slots Q (F0 m (pc + 3) la ((r.map (zv ad)).toList ++ rest))) → W p l e R s m args below meth c H locs cells slots Q (F0 m pc la ((as.map (zv ad)).reverse ++ rest))
variable {cc : ByteArray} {own : String} {nL : Nat} {D : va_G} {ca : Nat → ClassId} {ad : Nat → Nat} {A : Nat → Prop} {M : zM} {post : Option Value → zH → Prop}
theorem zcs_sum (ad : Nat → Nat) : ∀ st : List Value, ((st.map (zv ad)).map fun v => v.category).sum = zcs st
  | [] => rfl
  | v :: st => by
    have := zcs_sum ad st
    simp only [List.map_cons, List.sum_cons, zcs, zv_cat] at this ⊢
    rw [this]
theorem zsw_spec {k : List zI → Prop} {cd : List zI} {pc : Nat} {x : Int32} : ∀ (os : List Int) (lo : Int), zsw cd pc x k lo os → ∀ (j : Nat) (o : Int), os[j]? = some o → x.toInt = lo + j → k (zj cd pc o)
  | [], _, _, j, o, h, _ => by simp at h
  | o0 :: os, lo, hs, j, o, h, hx => by
    obtain ⟨h1, h2⟩ := hs
    cases j with
    | zero => simp at h; subst h; exact h1 (by simpa using hx)
    | succ j => exact zsw_spec os (lo + 1) h2 j o (by simpa using h) (by rw [hx]; omega)
set_option maxHeartbeats 4000000 in
set_option maxRecDepth 100000 in
theorem z_step (hx : p.tables.exec = Jvm.exec) (hb : c.code = cc) (hml : c.maxLocals = nL) (hown : s.vm.findClass own = some m.cls) (hK : va_K D vwCl (zT ca) s)
    (hfl : ∀ q ∈ M.2.1, zFl s args own q) (hgs : ∀ q ∈ M.2.2.1, ∀ (H : Heap) (locs : List Loc) (pc : Nat) (la : Array Slot) (rest : List Value), va_S A s.heap H locs → decode cc pc = .ok (.getstatic q.1, 3) → W p l e R s m args below meth c H locs cells slots Q (F0 m (pc + 3) la (.ref (ad q.2) :: rest)) → W p l e R s m args below meth c H locs cells slots Q (F0 m pc la rest))
    (hcn : ∀ q ∈ M.2.2.2.1, (Cond.constant own q.1 q.2).before args s = true) (hcl : ∀ q ∈ M.2.2.2.2.1, (Cond.constantLong own q.1 q.2).before args s = true)
    (hca : ∀ q ∈ M.2.2.2.2.2.1, zCl p l e R s m args below meth c cells slots Q cc nL D ca ad A s.heap q)
    (hex : ∀ q ∈ M.2.2.2.2.2.2, va_T .int (ad q.1) q.2.1 (fun j => .int (q.2.2 j)) A s s.heap)
    (hri : ∀ (h : zH) (v : Int32) (H : Heap) (locs : List Loc) (pc : Nat) (la : Array Slot), zInv D ca ad A s.heap h H locs → post (some (.int v)) h → decode cc pc = .ok (.ireturn, 1) → W p l e R s m args below meth c H locs cells slots Q (F0 m pc la [.int v]))
    (hrl : ∀ (h : zH) (v : Int64) (H : Heap) (locs : List Loc) (pc : Nat) (la : Array Slot), zInv D ca ad A s.heap h H locs → post (some (.long v)) h → decode cc pc = .ok (.lreturn, 1) → W p l e R s m args below meth c H locs cells slots Q (F0 m pc la [.long v]))
    (hrv : ∀ (h : zH) (H : Heap) (locs : List Loc) (pc : Nat) (la : Array Slot), zInv D ca ad A s.heap h H locs → post none h → decode cc pc = .ok (.return_, 1) → W p l e R s m args below meth c H locs cells slots Q (F0 m pc la []))
    {pc len : Nat} {ins : Instr} {tl : List zI} {ls : List (Option Value)} {st : List Value} {h : zH} {k : List zI → List (Option Value) → List Value → zH → Prop}
    (hn : ∀ ls st h, k tl ls st h → ∀ (H : Heap) (locs : List Loc) (la : Array Slot), zLo ad nL la ls → zInv D ca ad A s.heap h H locs → W p l e R s m args below meth c H locs cells slots Q (F0 m (pc + len) la (st.map (zv ad))))
    (hj : ∀ off ls st h, k (zj M.1 pc off) ls st h → ∃ tgt : Nat, (pc : Int) + off = (tgt : Int) ∧ ∀ (H : Heap) (locs : List Loc) (la : Array Slot), zLo ad nL la ls → zInv D ca ad A s.heap h H locs → W p l e R s m args below meth c H locs cells slots Q (F0 m tgt la (st.map (zv ad))))
    (hd : decode cc pc = .ok (ins, len)) (hlen : zlo pc ins len = true) (hs : zst M post pc ins tl ls st h k)
    {H : Heap} {locs : List Loc} {la : Array Slot} (hl : zLo ad nL la ls) (hI : zInv D ca ad A s.heap h H locs) : W p l e R s m args below meth c H locs cells slots Q (F0 m pc la (st.map (zv ad))) := by
  unfold zst at hs
  cases ins
  case iload_n i =>
    cases Nat.eq_of_beq_eq_true hlen
    dsimp only at hs
    split at hs
    · next x hi => exact lv_iload_n hx hb hd rfl (zLo_at hl hi) (hn _ _ _ hs _ _ _ hl hI)
    · exact hs.elim
  case iload i =>
    cases Nat.eq_of_beq_eq_true hlen
    dsimp only at hs
    split at hs
    · next x hi => exact lv_iload hx hb hd (zLo_at hl hi) (hn _ _ _ hs _ _ _ hl hI)
    · exact hs.elim
  case aload_n i =>
    cases Nat.eq_of_beq_eq_true hlen
    dsimp only at hs
    split at hs
    · next x hi => exact lv_aload_n hx hb hd rfl (zLo_at hl hi) (hn _ _ _ hs _ _ _ hl hI)
    · exact hs.elim
  case aload i =>
    cases Nat.eq_of_beq_eq_true hlen
    dsimp only at hs
    split at hs
    · next x hi => exact lv_aload hx hb hd (zLo_at hl hi) (hn _ _ _ hs _ _ _ hl hI)
    · exact hs.elim
  case lload_n i =>
    cases Nat.eq_of_beq_eq_true hlen
    dsimp only at hs
    split at hs
    · next x hi => exact lv_lload_n hx hb hd rfl (zLo_at hl hi) (hn _ _ _ hs _ _ _ hl hI)
    · exact hs.elim
  case istore_n i =>
    cases Nat.eq_of_beq_eq_true hlen
    dsimp only at hs
    split at hs
    · next x st' =>
      split at hs
      · next hi =>
        obtain ⟨hi, hz⟩ := Bool.and_eq_true_iff.mp hi
        have hi : i.val < nL := by
          have := Nat.blt_eq.mp hi
          rw [hl.2] at this; exact this
        exact lv_istore_n hx hb hd rfl hl.1 hi rfl (fun la' h' => hn _ _ _ hs _ _ _ (zLo_set (v := .int x) hl hz h') hI)
      · exact hs.elim
    · exact hs.elim
  case istore i =>
    cases Nat.eq_of_beq_eq_true hlen
    dsimp only at hs
    split at hs
    · next x st' =>
      split at hs
      · next hi =>
        obtain ⟨hi, hz⟩ := Bool.and_eq_true_iff.mp hi
        have hi : i < nL := by
          have := Nat.blt_eq.mp hi
          rw [hl.2] at this; exact this
        exact lv_istore hx hb hd hl.1 hi rfl (fun la' h' => hn _ _ _ hs _ _ _ (zLo_set (v := .int x) hl hz h') hI)
      · exact hs.elim
    · exact hs.elim
  case iinc i n =>
    cases Nat.eq_of_beq_eq_true hlen
    dsimp only at hs
    split at hs
    · next x hi =>
      split at hs
      rotate_left
      · exact hs.elim
      next hz =>
      have hlt : i < nL := by
        have := (List.getElem?_eq_some_iff.mp hi).1
        rw [hl.2] at this; exact this
      obtain ⟨kk, hkk⟩ := List.getElem?_of_mem (zl_mem.mpr ⟨i, _, hi, rfl⟩ : (i, zv ad (.int x)) ∈ zl ad ls)
      exact lv_iinc hx hb hd hl.1 hkk rfl hlt rfl (fun la' h' => hn _ _ _ hs _ _ _ (zLo_set (v := .int (x + Int32.ofInt n)) hl hz h') hI)
    · exact hs.elim
  case iconst n =>
    cases Nat.eq_of_beq_eq_true hlen
    dsimp only at hs
    exact lv_iconst hx hb hd rfl (hn _ _ _ hs _ _ _ hl hI)
  case bipush n =>
    cases Nat.eq_of_beq_eq_true hlen
    dsimp only at hs
    exact lv_bipush hx hb hd rfl (hn _ _ _ hs _ _ _ hl hI)
  case sipush n =>
    cases Nat.eq_of_beq_eq_true hlen
    dsimp only at hs
    exact lv_sipush hx hb hd rfl (hn _ _ _ hs _ _ _ hl hI)
  case lconst n =>
    cases Nat.eq_of_beq_eq_true hlen
    dsimp only at hs
    exact lv_lconst hx hb hd rfl (hn _ _ _ hs _ _ _ hl hI)
  case ldc i =>
    cases Nat.eq_of_beq_eq_true hlen
    dsimp only at hs
    split at hs
    · next v hi => exact lv_ldc hx hb hown (hcn _ (zlk0_mem hi)) hd (hn _ _ _ hs _ _ _ hl hI)
    · exact hs.elim
  case ldc2_w i =>
    cases Nat.eq_of_beq_eq_true hlen
    dsimp only at hs
    split at hs
    · next v hi => exact lv_ldc2 hx hb hown (hcl _ (zlk0_mem hi)) hd (hn _ _ _ hs _ _ _ hl hI)
    · exact hs.elim
  case iadd =>
    cases Nat.eq_of_beq_eq_true hlen
    dsimp only at hs
    split at hs
    · exact lv_iadd hx hb hd (hn _ _ _ hs _ _ _ hl hI)
    · exact hs.elim
  case isub =>
    cases Nat.eq_of_beq_eq_true hlen
    dsimp only at hs
    split at hs
    · exact lv_isub hx hb hd (hn _ _ _ hs _ _ _ hl hI)
    · exact hs.elim
  case imul =>
    cases Nat.eq_of_beq_eq_true hlen
    dsimp only at hs
    split at hs
    · exact lv_imul hx hb hd (hn _ _ _ hs _ _ _ hl hI)
    · exact hs.elim
  case iand =>
    cases Nat.eq_of_beq_eq_true hlen
    dsimp only at hs
    split at hs
    · exact lv_iand hx hb hd (hn _ _ _ hs _ _ _ hl hI)
    · exact hs.elim
  case ior =>
    cases Nat.eq_of_beq_eq_true hlen
    dsimp only at hs
    split at hs
    · exact lv_ior hx hb hd (hn _ _ _ hs _ _ _ hl hI)
    · exact hs.elim
  case ixor =>
    cases Nat.eq_of_beq_eq_true hlen
    dsimp only at hs
    split at hs
    · exact lv_ixor hx hb hd (hn _ _ _ hs _ _ _ hl hI)
    · exact hs.elim
  case ishl =>
    cases Nat.eq_of_beq_eq_true hlen
    dsimp only at hs
    split at hs
    · exact lv_ishl hx hb hd (hn _ _ _ hs _ _ _ hl hI)
    · exact hs.elim
  case ishr =>
    cases Nat.eq_of_beq_eq_true hlen
    dsimp only at hs
    split at hs
    · exact lv_ishr hx hb hd (hn _ _ _ hs _ _ _ hl hI)
    · exact hs.elim
  case ladd =>
    cases Nat.eq_of_beq_eq_true hlen
    dsimp only at hs
    split at hs
    · exact lv_ladd hx hb hd (hn _ _ _ hs _ _ _ hl hI)
    · exact hs.elim
  case lmul =>
    cases Nat.eq_of_beq_eq_true hlen
    dsimp only at hs
    split at hs
    · exact lv_lmul hx hb hd (hn _ _ _ hs _ _ _ hl hI)
    · exact hs.elim
  case iushr =>
    cases Nat.eq_of_beq_eq_true hlen
    dsimp only at hs
    split at hs
    · exact lv_iushr hx hb hd rfl (hn _ _ _ hs _ _ _ hl hI)
    · exact hs.elim
  case i2l =>
    cases Nat.eq_of_beq_eq_true hlen
    dsimp only at hs
    split at hs
    · exact lv_i2l hx hb hd rfl (hn _ _ _ hs _ _ _ hl hI)
    · exact hs.elim
  case lcmp =>
    cases Nat.eq_of_beq_eq_true hlen
    dsimp only at hs
    split at hs
    · exact W.lcmp hx hb hd (hn _ _ _ hs _ _ _ hl hI)
    · exact hs.elim
  case idiv =>
    cases Nat.eq_of_beq_eq_true hlen
    dsimp only at hs
    split at hs
    · exact lv_idiv hx hb hd hs.1 (hn _ _ _ hs.2 _ _ _ hl hI)
    · exact hs.elim
  case irem =>
    cases Nat.eq_of_beq_eq_true hlen
    dsimp only at hs
    split at hs
    · exact lv_irem hx hb hd hs.1 (hn _ _ _ hs.2 _ _ _ hl hI)
    · exact hs.elim
  case dup =>
    cases Nat.eq_of_beq_eq_true hlen
    dsimp only at hs
    split at hs
    · exact lv_dup hx hb hd rfl (hn _ _ _ hs _ _ _ hl hI)
    · exact lv_dup hx hb hd rfl (hn _ _ _ hs _ _ _ hl hI)
    · exact hs.elim
  case dup2 =>
    cases Nat.eq_of_beq_eq_true hlen
    dsimp only at hs
    split at hs
    · exact lv_dup2_11 hx hb hd rfl rfl (hn _ _ _ hs _ _ _ hl hI)
    · exact hs.elim
  case ifCond cnd off =>
    obtain ⟨hl3, ho⟩ := Bool.and_eq_true_iff.mp hlen
    cases Nat.eq_of_beq_eq_true hl3
    obtain ⟨tgt, ht⟩ := Int.eq_ofNat_of_zero_le (of_decide_eq_true ho)
    dsimp only at hs
    split at hs
    · next x st' =>
      obtain ⟨ha, hb2⟩ := hs
      have hj2 : ∀ {P : Prop}, (P → k (zj M.1 pc off) ls st' h) → P → W p l e R s m args below meth c H locs cells slots Q (F0 m tgt la (List.map (zv ad) st')) := fun ha z => by
        obtain ⟨t2, e2, w⟩ := hj _ _ _ _ (ha z)
        have : t2 = tgt := by omega
        subst this
        exact w _ _ _ hl hI
      cases cnd
      · exact lv_if_eq hx hb hd ht (fun z => hj2 ha z) (fun z => hn _ _ _ (hb2 z) _ _ _ hl hI)
      · exact lv_if_ne hx hb hd ht (fun z => hj2 ha z) (fun z => hn _ _ _ (hb2 (fun q => q z)) _ _ _ hl hI)
      · exact lv_if_lt hx hb hd ht (fun z => hj2 ha z) (fun z => hn _ _ _ (hb2 z) _ _ _ hl hI)
      · exact lv_if_ge hx hb hd ht (fun z => hj2 ha z) (fun z => hn _ _ _ (hb2 z) _ _ _ hl hI)
      · exact lv_if_gt hx hb hd ht (fun z => hj2 ha z) (fun z => hn _ _ _ (hb2 z) _ _ _ hl hI)
      · exact lv_if_le hx hb hd ht (fun z => hj2 ha z) (fun z => hn _ _ _ (hb2 z) _ _ _ hl hI)
    · exact hs.elim
  case if_icmp cnd off =>
    obtain ⟨hl3, ho⟩ := Bool.and_eq_true_iff.mp hlen
    cases Nat.eq_of_beq_eq_true hl3
    obtain ⟨tgt, ht⟩ := Int.eq_ofNat_of_zero_le (of_decide_eq_true ho)
    dsimp only at hs
    split at hs
    · next y x st' =>
      obtain ⟨ha, hb2⟩ := hs
      have hj2 : ∀ {P : Prop}, (P → k (zj M.1 pc off) ls st' h) → P → W p l e R s m args below meth c H locs cells slots Q (F0 m tgt la (List.map (zv ad) st')) := fun ha z => by
        obtain ⟨t2, e2, w⟩ := hj _ _ _ _ (ha z)
        have : t2 = tgt := by omega
        subst this
        exact w _ _ _ hl hI
      cases cnd
      · exact lv_icmp_eq hx hb hd ht (fun z => hj2 ha z) (fun z => hn _ _ _ (hb2 z) _ _ _ hl hI)
      · exact lv_icmp_ne hx hb hd ht (fun z => hj2 ha z) (fun z => hn _ _ _ (hb2 (fun q => q z)) _ _ _ hl hI)
      · exact lv_icmp_lt hx hb hd ht (fun z => hj2 ha z) (fun z => hn _ _ _ (hb2 z) _ _ _ hl hI)
      · exact lv_icmp_ge hx hb hd ht (fun z => hj2 ha z) (fun z => hn _ _ _ (hb2 z) _ _ _ hl hI)
      · exact lv_icmp_gt hx hb hd ht (fun z => hj2 ha z) (fun z => hn _ _ _ (hb2 z) _ _ _ hl hI)
      · exact lv_icmp_le hx hb hd ht (fun z => hj2 ha z) (fun z => hn _ _ _ (hb2 z) _ _ _ hl hI)
    · exact hs.elim
  case goto off =>
    cases Nat.eq_of_beq_eq_true hlen
    dsimp only at hs
    obtain ⟨tgt, ht, w⟩ := hj _ _ _ _ hs
    exact lv_goto hx hb hd ht (w _ _ _ hl hI)
  case tableswitch dflt lo hi offs =>
    dsimp only at hs
    split at hs
    · next x st' =>
      obtain ⟨ha, hsw⟩ := hs
      by_cases hr : x.toInt < lo ∨ hi < x.toInt
      · obtain ⟨tgt, ht, w⟩ := hj _ _ _ _ (ha hr)
        exact lv_tableOut hx hb hd hr ht (w _ _ _ hl hI)
      · have h1 : ¬ x.toInt < lo := fun z => hr (Or.inl z)
        have h2 : ¬ hi < x.toInt := fun z => hr (Or.inr z)
        cases ho : offs[(x.toInt - lo).toNat]? with
        | none =>
          have hz : hi < lo + (offs.size : Int) := of_decide_eq_true hlen
          have := Array.getElem?_eq_none_iff.mp ho
          omega
        | some o =>
          obtain ⟨tgt, ht, w⟩ := hj _ _ _ _ (zsw_spec (k := fun q => k q ls st' h) offs.toList lo hsw _ o (by simpa using ho) (by omega))
          exact lv_tableIn hx hb hd h1 h2 ho ht (w _ _ _ hl hI)
    · exact hs.elim
  case ireturn =>
    cases Nat.eq_of_beq_eq_true hlen
    dsimp only at hs
    split at hs
    · exact hri _ _ _ _ _ _ hI hs hd
    · exact hs.elim
  case lreturn =>
    cases Nat.eq_of_beq_eq_true hlen
    dsimp only at hs
    split at hs
    · exact hrl _ _ _ _ _ _ hI hs hd
    · exact hs.elim
  case return_ =>
    cases Nat.eq_of_beq_eq_true hlen
    dsimp only at hs
    split at hs
    · exact hrv _ _ _ _ _ hI hs hd
    · exact hs.elim
  case getfield i =>
    cases Nat.eq_of_beq_eq_true hlen
    dsimp only at hs
    split at hs
    · next a st' =>
      split at hs
      · next ci j w hi =>
        split at hs
        · next ci' fs hsh =>
          split at hs
          · next hci =>
            cases Nat.eq_of_beq_eq_true hci
            obtain ⟨C, T, N, ty0, g1, g2, g3, g4, g5, g6, g7⟩ := hfl _ (zlk0_mem hi)
            have hg := zW_get (ca := ca) (ad := ad) (h := h) hsh
            split at hs
            · next r hf =>
              exact va_get hx hb g3 (fun w h => h) hown hK hI.1 a hg g1 j g2 g4 (fun x h => h) (v := .ref (ad r)) (by simp [zF, hf]) hd (hn _ _ _ hs _ _ _ hl hI)
            · next hf =>
              exact va_get hx hb g3 (fun w h => h) hown hK hI.1 a hg g1 j g2 g4 (fun x h => h) (v := .int (h.1 a j)) (by simp [zF, hf]) hd (hn _ _ _ hs _ _ _ hl hI)
            · exact hs.elim
          · exact hs.elim
        · exact hs.elim
      · exact hs.elim
    · exact hs.elim
  case putfield i =>
    cases Nat.eq_of_beq_eq_true hlen
    dsimp only at hs
    split at hs
    · next x a st' =>
      split at hs
      · next ci j hi =>
        split at hs
        · next ci' fs hsh =>
          split at hs
          · next hci =>
            cases Nat.eq_of_beq_eq_true hci
            obtain ⟨C, T, N, ty0, g1, g2, g3, g4, g5, g6, g7⟩ := hfl _ (zlk0_mem hi)
            obtain ⟨g8, g9⟩ := g7 rfl
            have hg := zW_get (ca := ca) (ad := ad) (h := h) hsh
            split at hs
            · next hf =>
              have hjl : j < fs.length := (List.getElem?_eq_some_iff.mp hf).1
              refine va_put hx hb g3 (fun w h => h) ty0 g5 g6 hown hK hI.1 hI.2.1 hI.2.2 a hg g1 j g2 g4 (fun x h => h) g8 (ty := .int) (v := .int x) (by rw [g5 j g2, g9]) rfl rfl (by simp [zF, hjl]) hd (fun H1 locs1 p1 p2 p3 => ?_)
              have e := zW_set (ca := ca) (ad := ad) (h := h) (h' := zsi h a j x) (e := .inr (ci, (zF ad h a fs).set j (.int x))) hsh (by rw [zF_set hf]; rfl) (zsi_off h a j x)
              rw [e] at p1 p2
              exact hn _ _ _ hs _ _ _ hl ⟨p1, p2, p3⟩
            · exact hs.elim
          · exact hs.elim
        · exact hs.elim
      · exact hs.elim
    · exact hs.elim
  case getstatic i =>
    cases Nat.eq_of_beq_eq_true hlen
    dsimp only at hs
    split at hs
    · next a hi => exact hgs _ (zlk0_mem hi) _ _ _ _ _ hI.2.2 hd (hn _ _ _ hs _ _ _ hl hI)
    · exact hs.elim
  case iaload =>
    cases Nat.eq_of_beq_eq_true hlen
    dsimp only at hs
    split at hs
    · next i a st' =>
      split at hs
      · next n rs hsh => exact va_iald hx hb hK hI.1 a 0 (zW_get (ca := ca) (ad := ad) (h := h) hsh) rfl hs.1 hd (hn _ _ _ hs.2 _ _ _ hl hI)
      · split at hs
        · next n f hi =>
          obtain ⟨cell, q1, q2, q3, q4, q5, q6, q7⟩ := hex _ (zlk0_mem hi)
          have hlt : i.toNatClampNeg < n := Nat.not_le.mp fun q => hs.1 (Or.inr q)
          refine W.iald (v := .int (f i.toNatClampNeg)) hx hb (by rw [hI.2.2.2.1 _ (Array.getElem?_eq_some_iff.mp q1).1 q7]; exact q1) q2 q3 (fun z => hs.1 (z.imp id (fun w => Nat.le_trans q4 w))) (q6 _ hlt) rfl rfl hd (hn _ _ _ hs.2 _ _ _ hl hI)
        · exact hs.elim
      · exact hs.elim
    · exact hs.elim
  case iastore =>
    cases Nat.eq_of_beq_eq_true hlen
    dsimp only at hs
    split at hs
    · next x i a st' =>
      split at hs
      · next n rs hsh =>
        refine va_iast hx hb hK hI.1 hI.2.1 hI.2.2 a 0 (zW_get (ca := ca) (ad := ad) (h := h) hsh) rfl hs.1 hd (fun H1 locs1 p1 p2 p3 => ?_)
        have e := zW_set (ca := ca) (ad := ad) (h := h) (h' := zsi h a i.toNatClampNeg x) (e := .inl (ca 0, n, .inl (upd (h.1 a) i.toNatClampNeg x))) hsh (by rw [← zsi_at]; rfl) (zsi_off _ _ _ _)
        rw [e] at p1 p2
        exact hn _ _ _ hs.2 _ _ _ hl ⟨p1, p2, p3⟩
      · exact hs.elim
    · exact hs.elim
  case bastore =>
    cases Nat.eq_of_beq_eq_true hlen
    dsimp only at hs
    split at hs
    · next x i a st' =>
      split at hs
      · next n rs hsh =>
        refine va_zast hx hb hK hI.1 hI.2.1 hI.2.2 a 1 (zW_get (ca := ca) (ad := ad) (h := h) hsh) rfl hs.1 hd (fun H1 locs1 p1 p2 p3 => ?_)
        have e := zW_set (ca := ca) (ad := ad) (h := h) (h' := zsi h a i.toNatClampNeg (vp_nar .boolean x)) (e := .inl (ca 1, n, .inl (upd (h.1 a) i.toNatClampNeg (vp_nar .boolean x)))) hsh (by rw [← zsi_at]; rfl) (zsi_off _ _ _ _)
        rw [e] at p1 p2
        exact hn _ _ _ hs.2 _ _ _ hl ⟨p1, p2, p3⟩
      · exact hs.elim
    · exact hs.elim
  case lastore =>
    cases Nat.eq_of_beq_eq_true hlen
    dsimp only at hs
    split at hs
    · next x i a st' =>
      split at hs
      · next n rs hsh =>
        refine va_last hx hb hK hI.1 hI.2.1 hI.2.2 a 2 (zW_get (ca := ca) (ad := ad) (h := h) hsh) rfl hs.1 hd (fun H1 locs1 p1 p2 p3 => ?_)
        have e := zW_set (ca := ca) (ad := ad) (h := h) (h' := zsl h a i.toNatClampNeg x) (e := .inl (ca 2, n, .inr (.inl (vp_updL (h.2 a) i.toNatClampNeg x)))) hsh (by rw [← zsl_at]; rfl) (zsl_off _ _ _ _)
        rw [e] at p1 p2
        exact hn _ _ _ hs.2 _ _ _ hl ⟨p1, p2, p3⟩
      · exact hs.elim
    · exact hs.elim
  case baload =>
    cases Nat.eq_of_beq_eq_true hlen
    dsimp only at hs
    split at hs
    · next i a st' =>
      split at hs
      · next n rs hsh => exact va_zald hx hb hK hI.1 a 1 (zW_get (ca := ca) (ad := ad) (h := h) hsh) rfl hs.1 hd (hn _ _ _ hs.2 _ _ _ hl hI)
      · exact hs.elim
    · exact hs.elim
  case laload =>
    cases Nat.eq_of_beq_eq_true hlen
    dsimp only at hs
    split at hs
    · next i a st' =>
      split at hs
      · next n rs hsh => exact va_lald hx hb hK hI.1 a 2 (zW_get (ca := ca) (ad := ad) (h := h) hsh) rfl hs.1 hd (hn _ _ _ hs.2 _ _ _ hl hI)
      · exact hs.elim
    · exact hs.elim
  case aaload =>
    cases Nat.eq_of_beq_eq_true hlen
    dsimp only at hs
    split at hs
    · next i a st' =>
      split at hs
      · next n rs hsh =>
        obtain ⟨hin, hs⟩ := hs
        split at hs
        · next r hr =>
          refine va_aldq hx hb hK hI.1 a 3 (C := RX6) (zW_get (ca := ca) (ad := ad) (h := h) hsh) rfl hin hd ?_
          rw [hr]
          exact hn _ _ _ hs _ _ _ hl hI
        · exact hs.elim
      · exact hs.elim
    · exact hs.elim
  case arraylength =>
    cases Nat.eq_of_beq_eq_true hlen
    dsimp only at hs
    split at hs
    · next a st' =>
      split at hs
      · next n rs hsh => exact va_alen hx hb hK hI.1 a 0 (zW_get (ca := ca) (ad := ad) (h := h) hsh) rfl rfl hd (hn _ _ _ hs _ _ _ hl hI)
      · split at hs
        · next n f hi =>
          obtain ⟨cell, q1, q2, q3, q4, q5, q6, q7⟩ := hex _ (zlk0_mem hi)
          exact W.alen (n := Int32.ofNat n) hx hb (by rw [hI.2.2.2.1 _ (Array.getElem?_eq_some_iff.mp q1).1 q7]; exact q1) q2 q5 rfl rfl hd (hn _ _ _ hs _ _ _ hl hI)
        · exact hs.elim
      · exact hs.elim
    · exact hs.elim
  case invokevirtual i =>
    cases Nat.eq_of_beq_eq_true hlen
    dsimp only at hs
    unfold zcall at hs
    split at hs
    · next n kd o Rl hi =>
      split at hs
      · next hck =>
        obtain ⟨hcs, hck⟩ := Bool.and_eq_true_iff.mp hck
        obtain ⟨hln, hck⟩ := Bool.and_eq_true_iff.mp hck
        obtain ⟨hvt, hrc⟩ := Bool.and_eq_true_iff.mp hck
        have hcs := Nat.le_of_ble_eq_true hcs
        have hln := Nat.eq_of_beq_eq_true hln
        have hvt : o.isSome = true := by cases ho : o.isSome <;> simp_all
        have hcall := hca _ (zlk0_mem hi)
        have est : st.map (zv ad) = ((st.take n).reverse.map (zv ad)).reverse ++ (st.drop n).map (zv ad) := by
          rw [← List.map_reverse, List.reverse_reverse, ← List.map_append, List.take_append_drop]
        rw [est]
        have hsum : (((st.drop n).map (zv ad)).map fun v => v.category).sum ≤ 8 := by rw [zcs_sum]; exact hcs
        have hlen2 : (st.take n).reverse.length = n := by rw [List.length_reverse]; exact hln
        split at hs
        · obtain ⟨h', hR, hk⟩ := hs
          exact hcall _ _ _ _ _ _ _ _ _ _ hR hlen2 hrc hd (Or.inl ⟨rfl, hvt⟩) hI hl.1.1 hsum (fun H' locs' hI' => hn _ _ _ hk _ _ _ hl hI')
        · obtain ⟨v, h', hR, hk⟩ := hs
          exact hcall _ _ _ _ _ _ _ _ _ _ hR hlen2 hrc hd (Or.inl ⟨rfl, hvt⟩) hI hl.1.1 hsum (fun H' locs' hI' => hn _ _ _ hk _ _ _ hl hI')
        · obtain ⟨v, h', hR, hk⟩ := hs
          exact hcall _ _ _ _ _ _ _ _ _ _ hR hlen2 hrc hd (Or.inl ⟨rfl, hvt⟩) hI hl.1.1 hsum (fun H' locs' hI' => hn _ _ _ hk _ _ _ hl hI')
        · exact hs.elim
      · exact hs.elim
    · exact hs.elim
  case invokestatic i =>
    cases Nat.eq_of_beq_eq_true hlen
    dsimp only at hs
    unfold zcall at hs
    split at hs
    · next n kd o Rl hi =>
      split at hs
      · next hck =>
        obtain ⟨hcs, hck⟩ := Bool.and_eq_true_iff.mp hck
        obtain ⟨hln, hck⟩ := Bool.and_eq_true_iff.mp hck
        obtain ⟨hvt, hrc⟩ := Bool.and_eq_true_iff.mp hck
        have hcs := Nat.le_of_ble_eq_true hcs
        have hln := Nat.eq_of_beq_eq_true hln
        have hvt : o.isSome = false := by cases ho : o.isSome <;> simp_all
        have hcall := hca _ (zlk0_mem hi)
        have est : st.map (zv ad) = ((st.take n).reverse.map (zv ad)).reverse ++ (st.drop n).map (zv ad) := by
          rw [← List.map_reverse, List.reverse_reverse, ← List.map_append, List.take_append_drop]
        rw [est]
        have hsum : (((st.drop n).map (zv ad)).map fun v => v.category).sum ≤ 8 := by rw [zcs_sum]; exact hcs
        have hlen2 : (st.take n).reverse.length = n := by rw [List.length_reverse]; exact hln
        split at hs
        · obtain ⟨h', hR, hk⟩ := hs
          exact hcall _ _ _ _ _ _ _ _ _ _ hR hlen2 hrc hd (Or.inr ⟨rfl, hvt⟩) hI hl.1.1 hsum (fun H' locs' hI' => hn _ _ _ hk _ _ _ hl hI')
        · obtain ⟨v, h', hR, hk⟩ := hs
          exact hcall _ _ _ _ _ _ _ _ _ _ hR hlen2 hrc hd (Or.inr ⟨rfl, hvt⟩) hI hl.1.1 hsum (fun H' locs' hI' => hn _ _ _ hk _ _ _ hl hI')
        · obtain ⟨v, h', hR, hk⟩ := hs
          exact hcall _ _ _ _ _ _ _ _ _ _ hR hlen2 hrc hd (Or.inr ⟨rfl, hvt⟩) hI hl.1.1 hsum (fun H' locs' hI' => hn _ _ _ hk _ _ _ hl hI')
        · exact hs.elim
      · exact hs.elim
    · exact hs.elim
  all_goals exact hs.elim
theorem zj_spec {cd : List zI} {pc : Nat} {off : Int} (hne : zj cd pc off ≠ []) : (pc : Int) + off = (zpc (zj cd pc off) : Int) ∧ zj cd pc off <:+ cd := by
  unfold zj at hne ⊢
  split at hne
  · next t ht =>
    refine ⟨?_, List.dropWhile_suffix _⟩
    rw [ht]
    cases hd : cd.dropWhile (fun e => !(Nat.beq e.1 t)) with
    | nil => exact absurd hd hne
    | cons e es =>
      have := List.head?_dropWhile_not (fun e => !(Nat.beq e.1 t)) cd
      rw [hd] at this
      simp only [List.head?_cons] at this
      have h2 : Nat.beq e.1 t = true := by simpa using this
      obtain ⟨a, b, d⟩ := e
      rw [← Nat.eq_of_beq_eq_true h2]
      rfl
  · exact absurd rfl hne
theorem zgo_ne {n : Nat} {is : List zI} {ls : List (Option Value)} {st : List Value} {h : zH} (hg : zgo M post n is ls st h) : is ≠ [] := by
  intro he
  subst he
  cases n <;> exact hg
set_option maxHeartbeats 4000000 in
theorem z_snd (hx : p.tables.exec = Jvm.exec) (hb : c.code = cc) (hml : c.maxLocals = nL) (hown : s.vm.findClass own = some m.cls) (hK : va_K D vwCl (zT ca) s)
    (hfl : ∀ q ∈ M.2.1, zFl s args own q) (hgs : ∀ q ∈ M.2.2.1, ∀ (H : Heap) (locs : List Loc) (pc : Nat) (la : Array Slot) (rest : List Value), va_S A s.heap H locs → decode cc pc = .ok (.getstatic q.1, 3) → W p l e R s m args below meth c H locs cells slots Q (F0 m (pc + 3) la (.ref (ad q.2) :: rest)) → W p l e R s m args below meth c H locs cells slots Q (F0 m pc la rest))
    (hcn : ∀ q ∈ M.2.2.2.1, (Cond.constant own q.1 q.2).before args s = true) (hcl : ∀ q ∈ M.2.2.2.2.1, (Cond.constantLong own q.1 q.2).before args s = true)
    (hca : ∀ q ∈ M.2.2.2.2.2.1, zCl p l e R s m args below meth c cells slots Q cc nL D ca ad A s.heap q)
    (hex : ∀ q ∈ M.2.2.2.2.2.2, va_T .int (ad q.1) q.2.1 (fun j => .int (q.2.2 j)) A s s.heap)
    (hri : ∀ (h : zH) (v : Int32) (H : Heap) (locs : List Loc) (pc : Nat) (la : Array Slot), zInv D ca ad A s.heap h H locs → post (some (.int v)) h → decode cc pc = .ok (.ireturn, 1) → W p l e R s m args below meth c H locs cells slots Q (F0 m pc la [.int v]))
    (hrl : ∀ (h : zH) (v : Int64) (H : Heap) (locs : List Loc) (pc : Nat) (la : Array Slot), zInv D ca ad A s.heap h H locs → post (some (.long v)) h → decode cc pc = .ok (.lreturn, 1) → W p l e R s m args below meth c H locs cells slots Q (F0 m pc la [.long v]))
    (hrv : ∀ (h : zH) (H : Heap) (locs : List Loc) (pc : Nat) (la : Array Slot), zInv D ca ad A s.heap h H locs → post none h → decode cc pc = .ok (.return_, 1) → W p l e R s m args below meth c H locs cells slots Q (F0 m pc la []))
    (hdec : ∀ q ∈ M.1, decode cc q.1 = .ok (q.2.1, q.2.2)) (hch : zch M.1 = true) :
    ∀ (n : Nat) (is : List zI) (ls : List (Option Value)) (st : List Value) (h : zH), is <:+ M.1 → zgo M post n is ls st h → ∀ (H : Heap) (locs : List Loc) (la : Array Slot), zLo ad nL la ls → zInv D ca ad A s.heap h H locs → W p l e R s m args below meth c H locs cells slots Q (F0 m (zpc is) la (st.map (zv ad))) := by
  intro n
  induction n with
  | zero => intro is ls st h _ hg; exact hg.elim
  | succ n ih =>
    intro is ls st h hsf hg H locs la hl hI
    cases is with
    | nil => exact hg.elim
    | cons q tl =>
      obtain ⟨pc, ins, len⟩ := q
      obtain ⟨pre, hpre⟩ := hsf
      have hmem : (pc, ins, len) ∈ M.1 := by rw [← hpre]; exact List.mem_append_right _ List.mem_cons_self
      have hc2 : zch ((pc, ins, len) :: tl) = true := zch_suffix pre _ (by rw [hpre]; exact hch)
      simp only [zch, Bool.and_eq_true] at hc2
      obtain ⟨⟨c1, c2⟩, c3⟩ := hc2
      have htl : tl <:+ M.1 := ⟨pre ++ [(pc, ins, len)], by rw [← hpre]; simp⟩
      refine z_step hx hb hml hown hK hfl hgs hcn hcl hca hex hri hrl hrv (k := zgo M post n) (tl := tl) ?_ ?_ (hdec _ hmem) c1 hg hl hI
      · intro ls st h hg' H locs la hl hI
        have hw := ih tl ls st h htl hg' H locs la hl hI
        cases tl with
        | nil => exact absurd rfl (zgo_ne hg')
        | cons q2 tl2 =>
          obtain ⟨pc2, i2, l2⟩ := q2
          have : pc2 = pc + len := Nat.eq_of_beq_eq_true c2
          rw [← this]
          exact hw
      · intro off ls st h hg'
        obtain ⟨e1, e2⟩ := zj_spec (zgo_ne hg')
        exact ⟨_, e1, fun H locs la hl hI => ih _ ls st h e2 hg' H locs la hl hI⟩
end ZS
end
section
/-! ===== CONTRACTS: what a method does in the small machine, it does in the machine ===== -/
def zTb : List Cond := lw_tbl.filter goodWord
theorem zTb_in {w : Cond} (i : Nat) (h : lw_tbl[i]? = some w) (hg : goodWord w = true) : w ∈ zTb := List.mem_filter.mpr ⟨List.mem_of_getElem? h, hg⟩
/-- many words at once, by their places -/
theorem zTb_all (ws : List Cond) (ps : List Nat) (hp : ws = ps.filterMap (fun i => lw_tbl[i]?)) (h : ws.all goodWord = true) : ∀ w ∈ ws, w ∈ zTb := by
  intro w hw
  have h1 := List.all_eq_true.mp h w hw
  rw [hp] at hw
  obtain ⟨i, -, hi⟩ := List.mem_filterMap.mp hw
  exact zTb_in i hi h1
abbrev zws (y : MethodName) (bytes : ByteArray) (maxL : Nat) (ret : Option FieldType) : List Cond := .code y bytes maxL ret :: zTb
def zA (ad : Nat → Nat) (sz : Nat) : Nat → Prop := fun q => (∃ k, k < zSh.length ∧ q = ad k) ∨ sz ≤ q
def zRL : Nat → Int32 := fun j => [0, -100, 0, 500, 0].getD j 0
def zRM : Nat → Int32 := fun j => [20, 100, 100, 9000, 300].getD j 0
abbrev zNst : Cond := .fieldLinkNest "SunRings$Ice" 64 "SunRings" "RULES_LEAST" "[I" "SunRings"
/-- the tables that nobody writes -/
def zX (ad : Nat → Nat) (A : Nat → Prop) (U : State) (H : Heap) : Prop := va_Z "SunRings" "RULES_LEAST" "[I" (.ref (ad 102)) A U H ∧ va_Z "SunRings" "RULES_MOST" "[I" (.ref (ad 103)) A U H ∧ va_T .int (ad 102) 5 (fun j => .int (zRL j)) A U H ∧ va_T .int (ad 103) 5 (fun j => .int (zRM j)) A U H ∧ va_Nw zNst U
def zPre (D : va_G) (ca : Nat → ClassId) (ad : Nat → Nat) (sz : Nat) (h : zH) (U : State) : Prop := U.heap.size = sz ∧ va_P D vwCl (zW ca ad h) U.heap ∧ va_K D vwCl (zT ca) U ∧ va_D (zA ad sz) (zW ca ad h) ∧ zX ad (zA ad sz) U U.heap
def zPost (D : va_G) (ca : Nat → ClassId) (ad : Nat → Nat) (sz : Nat) (r : Option Value) (h' : zH) : Array Value → State → Outcome → State → Prop := fun _ st oc t => oc = .returned (r.map (zv ad)) ∧ va_P D vwCl (zW ca ad h') t.heap ∧ va_F (zA ad sz) st t
def zMet (l : Launch) (y : MethodName) (bytes : ByteArray) (maxL : Nat) (ret : Option FieldType) (rm : Room) (Rl : zRel) : Prop := ∀ (D : va_G) (ca : Nat → ClassId) (ad : Nat → Nat) (sz : Nat) (as : List Value) (h : zH) (r : Option Value) (h' : zH), Rl as h r h' → Met l y (zws y bytes maxL ret) rm (va_Pc (as.map (zv ad)) (zPre D ca ad sz h)) (zPost D ca ad sz r h') 0 0 (zA ad sz)
theorem zX_same {ad : Nat → Nat} {A : Nat → Prop} {u U : State} (hvm : u.vm = U.vm) {H : Heap} (h : zX ad A u H) : zX ad A U H := by
  obtain ⟨a, b, c, d, e⟩ := h
  have hal : u.vm.Alike U.vm := by rw [hvm]; exact Vm.Alike.refl _
  exact ⟨a.moved hal, b.moved hal, c.moved hal, d.moved hal, e.same rfl hvm⟩
theorem zX_warm {ad : Nat → Nat} {A : Nat → Prop} {s U : State} (hW : s.WarmedH U.vm) {H : Heap} (h : zX ad A s H) : zX ad A U H := by
  obtain ⟨a, b, c, d, e⟩ := h
  exact ⟨a.moved hW.alike, b.moved hW.alike, c.moved hW.alike, d.moved hW.alike, e.warmF hW⟩
theorem zX_kept {ad : Nat → Nat} {A : Nat → Prop} {U : State} {H H1 : Heap} (hq : ∀ a : Nat, a < H.size → ¬ A a → H1[a]? = H[a]?) (h : zX ad A U H) : zX ad A U H1 := by
  obtain ⟨a, b, c, d, e⟩ := h
  exact ⟨a.kept hq, b.kept hq, c.kept hq, d.kept hq, e⟩
theorem zX_narrow {ad : Nat → Nat} {A B : Nat → Prop} {U : State} {H : Heap} (hAB : ∀ q, B q → A q) (h : zX ad A U H) : zX ad B U H := by
  obtain ⟨a, b, c, d, e⟩ := h
  exact ⟨a.narrow hAB, b.narrow hAB, c.narrow hAB, d.narrow hAB, e⟩
theorem zPre_blind (D : va_G) (ca : Nat → ClassId) (ad : Nat → Nat) (sz : Nat) (h : zH) (av : List Value) : FrameBlind (va_Pc av (zPre D ca ad sz h)) := by
  intro a U g mk hv
  obtain ⟨e, h1, h2, h3, h4, h5⟩ := hv
  exact ⟨e, h1, h2, va_K.moved (u := U) (U := U.calling g mk a) (Vm.Alike.refl U.vm) h3, h4, zX_same (u := U) (U := U.calling g mk a) rfl h5⟩
theorem zW_len (ca : Nat → ClassId) (ad : Nat → Nat) (h : zH) : (zW ca ad h).length = zSh.length := by simp [zW]
theorem zW_addr {ca : Nat → ClassId} {ad : Nat → Nat} {h : zH} {k : Nat} {q : Nat × va_E} (hk : (zW ca ad h)[k]? = some q) : k < zSh.length ∧ q.1 = ad k := by
  have hl : k < zSh.length := by
    have := (List.getElem?_eq_some_iff.mp hk).1
    rwa [zW_len] at this
  refine ⟨hl, ?_⟩
  rw [zW_get (List.getElem?_eq_getElem hl)] at hk
  cases hk
  rfl
/-- apart at one time, apart at all times -/
theorem zD_any {A B : Nat → Prop} {ca : Nat → ClassId} {ad : Nat → Nat} {h h' : zH} (hD : va_D A (zW ca ad h)) (hB : ∀ k, k < zSh.length → B (ad k)) : va_D B (zW ca ad h') := by
  refine ⟨fun i j x y hi hj hxy => ?_, fun k q hk => ?_⟩
  · obtain ⟨li, ei⟩ := zW_addr hi
    obtain ⟨lj, ej⟩ := zW_addr hj
    refine hD.1 i j _ _ (zW_get (h := h) (List.getElem?_eq_getElem li)) (zW_get (h := h) (List.getElem?_eq_getElem lj)) ?_
    show ad i = ad j
    rw [← ei, ← ej, hxy]
  · obtain ⟨lk, ek⟩ := zW_addr hk
    rw [ek]; exact hB k lk
section ZC
variable {p : Program} {l : Launch} {e : Env} {R : Room} {s : State} {m : MethodId} {args : Array Value} {below : List Frame} {meth : Method} {c : Code} {cells slots : Nat} {Q : State → Prop}
variable {cc : ByteArray} {own : String} {nL : Nat} {D : va_G} {ca : Nat → ClassId} {ad : Nat → Nat}
theorem z_cont {H : Heap} {locs : List Loc} {pc : Nat} {la : Array Slot} {st0 rest : List Value} {A0 : Nat → Prop} {H0 : Heap} {a : Array Value} {r : Option Value} {h' : zH}
    (hr : va_Run p l e R s m args below meth c H locs cells slots 0 0 (F0 m pc la st0) rest (zPost D ca ad H.size r h' a) (zA ad H.size)) (hS : va_S A0 H0 H locs) (hf : ∀ q, zA ad H.size q → A0 q)
    (kk : ∀ (H1 : Heap) (locs1 : List Loc), va_P D vwCl (zW ca ad h') H1 → va_S A0 H0 H1 locs1 → W p l e R s m args below meth c H1 locs1 cells slots Q (F0 m (pc + 3) la ((r.map (zv ad)).toList ++ rest))) : W p l e R s m args below meth c H locs cells slots Q (F0 m pc la st0) := by
  intro T hT X
  obtain ⟨v, st₀, t, T', L, h0, X', hL, e1, e2, ⟨hv, hP, hz, hk⟩, st⟩ := hr T hT X
  cases hv
  rw [h0] at hz hk
  obtain ⟨t2, a1, b1⟩ := kk T'.heap (locs ++ L) (by rw [e1]; exact hP)
    ⟨Nat.le_trans hS.1 (by rw [e1]; exact hz), fun q h1 h2 => by rw [e1, hk q (Nat.lt_of_lt_of_le h1 hS.1) (fun z => h2 (hf q z))]; exact hS.2.1 q h1 h2, fun q hq => by
      rcases List.mem_append.mp hq with h | h
      · exact hS.2.2 q h
      · exact hf _ (hL q h)⟩ T' rfl X'
  exact ⟨t2, st t2 a1, b1⟩
/-- a call of one of the methods: what must stand in the tables -/
def zCm (l : Launch) (R : Room) (own : String) (q : Nat × Nat × Nat × Option Nat × zRel) : Prop := ∃ (y : MethodName) (bytes : ByteArray) (maxL : Nat) (ret : Option FieldType) (rm : Room), zMet l y bytes maxL ret rm q.2.2.2.2 ∧ rm.cells = 0 ∧ rm.slots = 0 ∧ (rm.frames + 1 ≤ R.frames ∧ 8 + (maxL + 11) + rm.locals ≤ R.locals) ∧ Cond.methodLink own q.1 y ∈ zTb ∧ Cond.code y bytes maxL ret ∈ zTb ∧ Cond.initialized y.cls ∈ zTb ∧ (y.cls ≠ "java/lang/invoke/MethodHandle" ∧ y.cls ≠ "java/lang/invoke/VarHandle") ∧
  match q.2.2.2.1 with
  | some ci => Cond.instanceMethod y ∈ zTb ∧ Cond.selects y.cls y y ∈ zTb ∧ (∃ (T : u_T) (N : Nat), vwCl[ci]? = some (y.cls, T, N)) ∧ (parseMethodDescriptor y.desc).map (fun d => d.parameters.length + 1) = some q.2.1
  | none => Cond.static y ∈ zTb ∧ (parseMethodDescriptor y.desc).map (fun d => d.parameters.length) = some q.2.1
theorem zTb_good {w : Cond} (h : w ∈ zTb) : (w.onTables && w.keeps) = true ∨ ∃ ty, w = .arrayClass ty := good_of_word (List.mem_filter.mp h).2
theorem z_goodIn {Ts : List Cond} (hT : ∀ w ∈ zTb, w ∈ Ts) {y : MethodName} {bytes : ByteArray} {maxL : Nat} {ret : Option FieldType} (hc : Cond.code y bytes maxL ret ∈ zTb) : GoodIn Ts (zws y bytes maxL ret) := by
  intro w hw
  rcases List.mem_cons.mp hw with h | h
  · rw [h]; exact ⟨hT _ hc, zTb_good hc⟩
  · exact ⟨hT _ h, zTb_good h⟩
theorem z_cl {A : Nat → Prop} (hx : p.tables.exec = Jvm.exec) (hb : c.code = cc) (hml : c.maxLocals = nL) (hown : s.vm.findClass own = some m.cls) (hK : va_K D vwCl (zT ca) s) (hts : ∀ w ∈ zTb, w.before args s = true)
    (hX : zX ad A s s.heap) (hA : ∀ q, zA ad s.heap.size q → A q) (hfit : cells ≤ R.cells ∧ slots ≤ R.slots) {q : Nat × Nat × Nat × Option Nat × zRel} (hq : zCm l R own q) : zCl p l e R s m args below meth c cells slots Q cc nL D ca ad A s.heap q := by
  intro as h r h' H locs rest la pc ins hR hlen hrc hd hin hI hsz hsum kk
  obtain ⟨y, bytes, maxL, ret, rm, hM, hrc0, hrs0, hroom, hlk, hcode, hini, hcls, hq⟩ := hq
  have Mt := hM D ca ad H.size as h r h' hR
  have hG : GoodIn zTb (zws y bytes maxL ret) := z_goodIn (fun _ h => h) hcode
  have hAH : ∀ q, zA ad H.size q → A q := fun q hq => hq.elim (fun z => hA q (Or.inl z)) (fun z => hA q (Or.inr (Nat.le_trans hI.2.2.1 z)))
  have hpre : ∀ U : State, U.heap = H → s.WarmedH U.vm → va_Pc (as.map (zv ad)) (zPre D ca ad H.size h) (as.map (zv ad)).toArray U := fun U hU hW =>
    ⟨rfl, by rw [hU], by rw [hU]; exact hI.1, va_K.moved hW.alike hK, zD_any hI.2.1 (fun k hk => Or.inl ⟨k, hk, rfl⟩), by
      rw [hU]
      exact zX_narrow hAH (zX_warm hW (zX_kept hI.2.2.2.1 hX))⟩
  have fin : ∀ {st0 : List Value} {a : Array Value}, va_Run p l e R s m args below meth c H locs cells slots 0 0 (F0 m pc la st0) rest (zPost D ca ad H.size r h' a) (zA ad H.size) → W p l e R s m args below meth c H locs cells slots Q (F0 m pc la st0) := fun hr =>
    z_cont hr hI.2.2 hAH (fun H1 locs1 p1 p2 => kk H1 locs1 ⟨p1, zD_any hI.2.1 (fun k hk => hAH _ (Or.inl ⟨k, hk, rfl⟩)), p2⟩)
  cases ho : q.2.2.2.1 with
  | none =>
    rw [ho] at hq hin
    obtain ⟨hst, hds⟩ := hq
    rcases hin with ⟨-, hf⟩ | ⟨hins, -⟩
    · cases hf
    rw [hins] at hd
    refine fin (va_runS (As := as.map (zv ad)) (n := q.2.1) ⟨hx, hb, hml, hown, hts⟩ Mt ⟨callB_of q.2.1 hts hG rfl hrc0 hrs0 (hts _ hini) (hts _ hlk) ⟨hcls.1, hcls.2, hds⟩ hroom, hts _ hst⟩ ⟨zPre_blind D ca ad H.size h _, hpre⟩ rfl (by rw [List.length_map]; exact hlen) hsz rfl (lv_room hsum) hd ⟨hfit.1, hfit.2⟩)
  | some ci =>
    rw [ho] at hq hin hrc
    obtain ⟨him, hse, ⟨T, N, hcl⟩, hds⟩ := hq
    rcases hin with ⟨hins, -⟩ | ⟨-, hf⟩
    rotate_left
    · cases hf
    rw [hins] at hd
    unfold zrcv at hrc
    dsimp only at hrc
    split at hrc
    rotate_left
    · cases hrc
    next a as' =>
    split at hrc
    rotate_left
    · cases hrc
    next ci' fs hsh =>
    cases Nat.eq_of_beq_eq_true hrc
    have hds2 : (parseMethodDescriptor y.desc).map (fun d => d.parameters.length) = some as'.length := by
      cases hpm : parseMethodDescriptor y.desc with
      | none => rw [hpm] at hds; cases hds
      | some d =>
        rw [hpm] at hds
        have h1 : d.parameters.length + 1 = q.2.1 := Option.some.inj hds
        simp only [List.length_cons] at hlen
        simp only [Option.map_some, Option.some.injEq]
        omega
    have hst : (List.map (zv ad) (Value.ref a :: as')).reverse ++ rest = (as'.map (zv ad)).reverse ++ Value.ref (ad a) :: rest := by simp [zv]
    rw [hst]
    refine fin (va_runV (C := y.cls) (As := as'.map (zv ad)) (b := ad a) (n := as'.length) ⟨hx, hb, hml, hown, hts⟩ Mt ⟨callB_of as'.length hts hG rfl hrc0 hrs0 (hts _ hini) (hts _ hlk) ⟨hcls.1, hcls.2, hds2⟩ hroom, hts _ him, hts _ hse⟩ ⟨zPre_blind D ca ad H.size h _, va_recv hK hI.1 hcl (zW_get hsh), hpre⟩ rfl (by rw [List.length_map]) hsz rfl (lv_room hsum) hd ⟨hfit.1, hfit.2⟩)
end ZC
/-! a method out of its code -/
def zFT (own : String) (q : Nat × Nat × Nat × Bool) : Prop := ∃ (C : String) (T : u_T) (N : Nat) (ty0 : Nat → FieldType), vwCl[q.2.1]? = some (C, T, N) ∧ q.2.2.1 < N ∧ (∀ w ∈ u_ws C T N, w ∈ zTb) ∧ Cond.fieldLink own q.1 (T q.2.2.1).1 (T q.2.2.1).2.1 (T q.2.2.1).2.2.1 ∈ zTb ∧ (∀ k, k < N → parseFieldDescriptor (T k).2.2.1 = some (ty0 k)) ∧ (∀ a, a < N → ∀ b, b < N → a ≠ b → (T a).2.1 ≠ (T b).2.1) ∧ (q.2.2.2 = true → (T q.2.2.1).2.2.2 = false ∧ ty0 q.2.2.1 = .int)
def zGT (own : String) (q : Nat × Nat) : Prop := (q.2 = 102 ∧ Cond.fieldLink own q.1 "SunRings" "RULES_LEAST" "[I" ∈ zTb) ∨ (q.2 = 103 ∧ Cond.fieldLink own q.1 "SunRings" "RULES_MOST" "[I" ∈ zTb) ∨ (q = (64, 102) ∧ own = "SunRings$Ice")
def zExs : List (Nat × Nat × (Nat → Int32)) := [(102, 5, zRL), (103, 5, zRM)]
theorem znd_spec : ∀ {as : List Value}, znd as = true → ∀ v ∈ as, ∀ d, v ≠ .double d
  | [], _, v, hv, _ => by cases hv
  | w :: vs, h, v, hv, d => by
    have h2 : znd vs = true ∧ ∀ d, w ≠ .double d := by
      cases w <;> first | exact ⟨h, fun d q => by cases q⟩ | cases h
    rcases List.mem_cons.mp hv with e | e
    · rw [e]; exact h2.2 d
    · exact znd_spec h2.1 v e d
theorem zarg_len (ad : Nat → Nat) : ∀ as : List Value, (∀ v ∈ as, ∀ d, v ≠ .double d) → (lg_sl (as.map (zv ad))).length = (zarg as).length
  | [], _ => rfl
  | v :: vs, hd => by
    have ih := zarg_len ad vs (fun w hw => hd w (List.mem_cons_of_mem _ hw))
    unfold lg_sl at ih ⊢
    rw [List.map_cons, List.flatMap_cons, List.length_append, ih]
    cases v with
    | double d => exact absurd rfl (hd _ List.mem_cons_self d)
    | _ => simp [zarg, zv, Value.category] <;> omega
theorem zarg_at (ad : Nat → Nat) : ∀ (as : List Value) (i0 : Nat), (∀ v ∈ as, ∀ d, v ≠ .double d) → ∀ (i : Nat) (v : Value), (zarg as)[i]? = some (some v) → (i0 + i, zv ad v) ∈ lv_args i0 (as.map (zv ad))
  | [], _, _, i, v, h => by simp [zarg] at h
  | w :: vs, i0, hd, i, v, h => by
    have hd2 : ∀ v ∈ vs, ∀ d, v ≠ .double d := fun w hw => hd w (List.mem_cons_of_mem _ hw)
    by_cases hw : ∃ x, w = .long x
    · obtain ⟨x, rfl⟩ := hw
      simp only [zarg] at h
      simp only [List.map_cons, lv_args]
      match i, h with
      | 0, h => simp at h; subst h; simp [zv]
      | 1, h => simp at h
      | j + 2, h =>
        have ih := zarg_at ad vs (i0 + 2) hd2 j v (by simpa using h)
        refine List.mem_cons_of_mem _ ?_
        have e : i0 + (j + 2) = i0 + 2 + j := by omega
        rw [e]
        simpa [zv, Value.category] using ih
    · have e : zarg (w :: vs) = some w :: zarg vs := by
        cases w with
        | long x => exact absurd ⟨x, rfl⟩ hw
        | _ => rfl
      have hc : (zv ad w).category = 1 := by
        cases w with
        | long x => exact absurd ⟨x, rfl⟩ hw
        | double d => exact absurd rfl (hd _ List.mem_cons_self d)
        | _ => rfl
      rw [e] at h
      simp only [List.map_cons, lv_args]
      match i, h with
      | 0, h => simp at h; subst h; simp
      | j + 1, h =>
        have ih := zarg_at ad vs (i0 + 1) hd2 j v (by simpa using h)
        refine List.mem_cons_of_mem _ ?_
        have e : i0 + (j + 1) = i0 + 1 + j := by omega
        rw [e]
        simpa [hc] using ih
set_option maxHeartbeats 4000000 in
theorem z_met {l : Launch} {y : MethodName} {bytes : ByteArray} {maxL : Nat} {ret : Option FieldType} {rm : Room} {M : zM} (hy : plainFor y = true)
    (hdec : ∀ q ∈ M.1, decode bytes q.1 = .ok (q.2.1, q.2.2)) (hch : zch M.1 = true) (h0 : zpc M.1 = 0) (hfl : ∀ q ∈ M.2.1, zFT y.cls q) (hgs : ∀ q ∈ M.2.2.1, zGT y.cls q) (hcn : ∀ q ∈ M.2.2.2.1, Cond.constant y.cls q.1 q.2 ∈ zTb) (hcl : ∀ q ∈ M.2.2.2.2.1, Cond.constantLong y.cls q.1 q.2 ∈ zTb)
    (hca : ∀ q ∈ M.2.2.2.2.2.1, zCm l rm y.cls q) (hex : M.2.2.2.2.2.2 = zExs ∨ M.2.2.2.2.2.2 = []) : zMet l y bytes maxL ret rm (zR M maxL ret) := by
  intro D ca ad sz as h r h' hR
  obtain ⟨hck, hkd, n, hgo⟩ := hR
  obtain ⟨hble, hnd0⟩ := Bool.and_eq_true_iff.mp hck
  have hnd := znd_spec hnd0
  refine va_MetF (cc := bytes) (maxL := maxL) (ret := ret) hy rfl ?_
  intro p e s m args below meth c s₁ B hml hv
  obtain ⟨rfl, hsz, hP, hK, hD, hX⟩ := hv
  subst hsz
  have hx := B.exec
  have hb := B.bytes
  have hr := B.returns
  have hlocks := B.notSynchronized
  have hts0 := atoms_spec (ws := zws y bytes maxL ret) B.pre
  have hts : ∀ w ∈ zTb, w.before (as.map (zv ad)).toArray s = true := fun w hw => hts0 w (List.mem_cons_of_mem _ hw)
  have hown : s.vm.findClass y.cls = some m.cls := findClass_of_methodNamed B.named
  have hlen : (lg_sl (as.map (zv ad))).length ≤ maxL := by rw [zarg_len ad as hnd]; exact Nat.le_of_ble_eq_true hble
  have hl := lv_entry (as.map (zv ad)) hlen
  rw [lg_entry_eq]
  generalize (lg_sl (as.map (zv ad)) ++ List.replicate (maxL - (lg_sl (as.map (zv ad))).length) Slot.unset).toArray = la at hl ⊢
  have hlo : zLo ad maxL la (zini maxL as) := by
    refine ⟨⟨hl.1, hl.2.1, fun q hq => ?_⟩, ?_⟩
    · obtain ⟨i, v, hi, rfl⟩ := zl_mem.mp hq
      unfold zini at hi
      by_cases hil : i < (zarg as).length
      · rw [List.getElem?_append_left hil] at hi
        have := zarg_at ad as 0 hnd i v hi
        rw [Nat.zero_add] at this
        exact hl.2.2 _ this
      · rw [List.getElem?_append_right (by omega)] at hi
        have := List.eq_of_mem_replicate (List.mem_of_getElem? hi)
        cases this
    · have := Nat.le_of_ble_eq_true hble
      simp only [zini, List.length_append, List.length_replicate]
      omega
  have hI : zInv D ca ad (zA ad s.heap.size) s.heap h s.heap [] := ⟨hP, hD, va_S.rf⟩
  have key := z_snd (p := p) (l := l) (e := e) (R := rm) (s := s) (m := m) (args := (as.map (zv ad)).toArray) (below := below) (meth := meth) (c := c) (cells := 0) (slots := 0) (Q := MQ below (zPost D ca ad s.heap.size r h') (as.map (zv ad)).toArray s 0 0 (zA ad s.heap.size)) (cc := bytes) (own := y.cls) (nL := maxL) (D := D) (ca := ca) (ad := ad) (A := zA ad s.heap.size) (M := M) (post := fun r1 h1 => r1 = r ∧ h1 = h')
    hx hb hml hown hK ?_ ?_ ?_ ?_ ?_ ?_ ?_ ?_ ?_ hdec hch n M.1 _ _ _ (List.suffix_refl _) hgo s.heap [] la hlo hI
  · rw [h0] at key
    exact key
  · intro q hq
    obtain ⟨C, T, N, ty0, g1, g2, g3, g4, g5, g6, g7⟩ := hfl q hq
    exact ⟨C, T, N, ty0, g1, g2, fun w hw => hts w (g3 w hw), hts _ g4, g5, g6, g7⟩
  · intro q hq H locs pc la rest hS hd kk
    obtain ⟨z1, z2, -, -, z5⟩ := hX
    rcases hgs q hq with ⟨g1, g2⟩ | ⟨g1, g2⟩ | ⟨g1, g2⟩
    · rw [g1] at kk
      exact va_gets hx hb z1 hS hown (hts _ g2) (fun x h => h) hd kk
    · rw [g1] at kk
      exact va_gets hx hb z2 hS hown (hts _ g2) (fun x h => h) hd kk
    · rw [g1] at kk hd
      exact va_getsN hx hb z1 hS (by rw [← g2]; exact hown) (va_Nw.use rfl z5) (fun x h => h) hd kk
  · intro q hq; exact hts _ (hcn q hq)
  · intro q hq; exact hts _ (hcl q hq)
  · intro q hq
    exact z_cl hx hb hml hown hK hts hX (fun q h => h) ⟨Nat.zero_le _, Nat.zero_le _⟩ (hca q hq)
  · intro q hq
    obtain ⟨-, -, z3, z4, -⟩ := hX
    rcases hex with he | he
    · rw [he] at hq
      simp only [zExs, List.mem_cons, List.not_mem_nil, or_false] at hq
      rcases hq with rfl | rfl
      · exact z3
      · exact z4
    · rw [he] at hq; cases hq
  · intro h1 v H locs pc la hI hpost hd
    obtain ⟨rfl, rfl⟩ := hpost
    have hret : ∃ ty, ret = some ty ∧ narrow ty (.int v) = .int v := by
      unfold zkd at hkd
      split at hkd
      · cases hkd
      · obtain ⟨_, q⟩ := hkd; cases q
      · exact ⟨_, rfl, rfl⟩
      · refine ⟨_, rfl, ?_⟩
        rcases hkd with q | q <;> (cases q; decide)
      · exact hkd.elim
    obtain ⟨ty, rfl, hn⟩ := hret
    exact W.zret hx hb hr hn (fun t ht hW => ⟨rfl, by rw [ht]; exact hI.1, hI.2.2.F ht⟩) (fun q hq => hI.2.2.2.2 q hq) hd
  · intro h1 v H locs pc la hI hpost hd
    obtain ⟨rfl, rfl⟩ := hpost
    have hret : ret = some .long := by
      unfold zkd at hkd
      split at hkd
      · cases hkd
      · rfl
      · obtain ⟨_, q⟩ := hkd; cases q
      · rcases hkd with q | q <;> cases q
      · exact hkd.elim
    subst hret
    exact W.lret hx hb hr (fun t ht hW => ⟨rfl, by rw [ht]; exact hI.1, hI.2.2.F ht⟩) (fun q hq => hI.2.2.2.2 q hq) hd
  · intro h1 H locs pc la hI hpost hd
    obtain ⟨rfl, rfl⟩ := hpost
    have hret : ret = none := by
      unfold zkd at hkd
      split at hkd
      · rfl
      · obtain ⟨_, q⟩ := hkd; cases q
      · obtain ⟨_, q⟩ := hkd; cases q
      · rcases hkd with q | q <;> cases q
      · exact hkd.elim
    subst hret
    exact W.vret hx hb hr (fun t ht hW => ⟨rfl, by rw [ht]; exact hI.1, hI.2.2.F ht⟩) (fun q hq => hI.2.2.2.2 q hq) hd
end
