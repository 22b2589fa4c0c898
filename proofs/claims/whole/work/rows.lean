section
/-- a private method of a class that the tables say can be made, by its rows of tables_1 -/
def lw_okq (q : MethodName × Nat) : Prop := (q.1.cls ≠ "java/lang/invoke/MethodHandle" ∧ q.1.cls ≠ "java/lang/invoke/VarHandle") ∧ Cond.instantiable q.1.cls q.2 ∈ tables_1 ∧ Cond.privateMethod q.1 ∈ tables_1 ∧ Cond.instanceMethod q.1 ∈ tables_1
theorem lw_p0 : lw_okq (⟨"SunRings$Drops", "thrownBack", "(I)I"⟩, 3) := ⟨⟨by decide +kernel, by decide +kernel⟩, List.mem_of_getElem? (i := 65) (by decide +kernel), List.mem_of_getElem? (i := 274) (by decide +kernel), List.mem_of_getElem? (i := 275) (by decide +kernel)⟩
theorem lw_p1 : lw_okq (⟨"SunRings$Ice", "addArcs", "(II)V"⟩, 2) := ⟨⟨by decide +kernel, by decide +kernel⟩, List.mem_of_getElem? (i := 83) (by decide +kernel), List.mem_of_getElem? (i := 372) (by decide +kernel), List.mem_of_getElem? (i := 373) (by decide +kernel)⟩
theorem lw_p2 : lw_okq (⟨"SunRings$Ice", "addSpot", "(III)V"⟩, 2) := ⟨⟨by decide +kernel, by decide +kernel⟩, List.mem_of_getElem? (i := 83) (by decide +kernel), List.mem_of_getElem? (i := 376) (by decide +kernel), List.mem_of_getElem? (i := 377) (by decide +kernel)⟩
theorem lw_p3 : lw_okq (⟨"SunRings$Ice", "addLightsBehind", "(II)V"⟩, 2) := ⟨⟨by decide +kernel, by decide +kernel⟩, List.mem_of_getElem? (i := 83) (by decide +kernel), List.mem_of_getElem? (i := 382) (by decide +kernel), List.mem_of_getElem? (i := 383) (by decide +kernel)⟩
theorem lw_p4 : lw_okq (⟨"SunRings$Drawing", "allMarks", "()I"⟩, 4) := ⟨⟨by decide +kernel, by decide +kernel⟩, List.mem_of_getElem? (i := 116) (by decide +kernel), List.mem_of_getElem? (i := 415) (by decide +kernel), List.mem_of_getElem? (i := 416) (by decide +kernel)⟩
theorem lw_p5 : lw_okq (⟨"SunRings$Drawing", "marksLeft", "(III)I"⟩, 4) := ⟨⟨by decide +kernel, by decide +kernel⟩, List.mem_of_getElem? (i := 116) (by decide +kernel), List.mem_of_getElem? (i := 419) (by decide +kernel), List.mem_of_getElem? (i := 420) (by decide +kernel)⟩
theorem lw_p6 : lw_okq (⟨"SunRings$Drawing", "marksMet", "(III)I"⟩, 4) := ⟨⟨by decide +kernel, by decide +kernel⟩, List.mem_of_getElem? (i := 116) (by decide +kernel), List.mem_of_getElem? (i := 423) (by decide +kernel), List.mem_of_getElem? (i := 424) (by decide +kernel)⟩
theorem lw_p7 : lw_okq (⟨"SunRings$Drawing", "meets", "(II)Z"⟩, 4) := ⟨⟨by decide +kernel, by decide +kernel⟩, List.mem_of_getElem? (i := 116) (by decide +kernel), List.mem_of_getElem? (i := 428) (by decide +kernel), List.mem_of_getElem? (i := 429) (by decide +kernel)⟩
theorem lw_p8 : lw_okq (⟨"SunRings$Drawing", "coverWith", "(III)V"⟩, 4) := ⟨⟨by decide +kernel, by decide +kernel⟩, List.mem_of_getElem? (i := 116) (by decide +kernel), List.mem_of_getElem? (i := 447) (by decide +kernel), List.mem_of_getElem? (i := 448) (by decide +kernel)⟩
theorem lw_p9 : lw_okq (⟨"SunRings$Drawing", "meetsAny", "(I)Z"⟩, 4) := ⟨⟨by decide +kernel, by decide +kernel⟩, List.mem_of_getElem? (i := 116) (by decide +kernel), List.mem_of_getElem? (i := 462) (by decide +kernel), List.mem_of_getElem? (i := 463) (by decide +kernel)⟩
theorem lw_p10 : lw_okq (⟨"SunRings$Cut", "placesMet", "(II)I"⟩, 3) := ⟨⟨by decide +kernel, by decide +kernel⟩, List.mem_of_getElem? (i := 136) (by decide +kernel), List.mem_of_getElem? (i := 490) (by decide +kernel), List.mem_of_getElem? (i := 491) (by decide +kernel)⟩
theorem lw_p11 : lw_okq (⟨"SunRings$Cut", "placesNear", "(I)I"⟩, 3) := ⟨⟨by decide +kernel, by decide +kernel⟩, List.mem_of_getElem? (i := 136) (by decide +kernel), List.mem_of_getElem? (i := 496) (by decide +kernel), List.mem_of_getElem? (i := 497) (by decide +kernel)⟩
theorem lw_p12 : lw_okq (⟨"SunRingsModel", "lay", "(IIIIIIIIII)V"⟩, 29) := ⟨⟨by decide +kernel, by decide +kernel⟩, List.mem_of_getElem? (i := 576) (by decide +kernel), List.mem_of_getElem? (i := 582) (by decide +kernel), List.mem_of_getElem? (i := 583) (by decide +kernel)⟩
theorem lw_p13 : lw_okq (⟨"SunRingsModel", "bent", "(III)I"⟩, 29) := ⟨⟨by decide +kernel, by decide +kernel⟩, List.mem_of_getElem? (i := 576) (by decide +kernel), List.mem_of_getElem? (i := 690) (by decide +kernel), List.mem_of_getElem? (i := 691) (by decide +kernel)⟩
theorem lw_p14 : lw_okq (⟨"SunRingsModel", "least", "(III)I"⟩, 29) := ⟨⟨by decide +kernel, by decide +kernel⟩, List.mem_of_getElem? (i := 576) (by decide +kernel), List.mem_of_getElem? (i := 698) (by decide +kernel), List.mem_of_getElem? (i := 699) (by decide +kernel)⟩
theorem lw_p15 : lw_okq (⟨"SunRingsModel", "turns", "(III)I"⟩, 29) := ⟨⟨by decide +kernel, by decide +kernel⟩, List.mem_of_getElem? (i := 576) (by decide +kernel), List.mem_of_getElem? (i := 707) (by decide +kernel), List.mem_of_getElem? (i := 708) (by decide +kernel)⟩
def lw_privs_1 : List (MethodName × Nat) := [(⟨"SunRings$Drops", "thrownBack", "(I)I"⟩, 3), (⟨"SunRings$Ice", "addArcs", "(II)V"⟩, 2), (⟨"SunRings$Ice", "addSpot", "(III)V"⟩, 2), (⟨"SunRings$Ice", "addLightsBehind", "(II)V"⟩, 2), (⟨"SunRings$Drawing", "allMarks", "()I"⟩, 4), (⟨"SunRings$Drawing", "marksLeft", "(III)I"⟩, 4), (⟨"SunRings$Drawing", "marksMet", "(III)I"⟩, 4), (⟨"SunRings$Drawing", "meets", "(II)Z"⟩, 4), (⟨"SunRings$Drawing", "coverWith", "(III)V"⟩, 4), (⟨"SunRings$Drawing", "meetsAny", "(I)Z"⟩, 4), (⟨"SunRings$Cut", "placesMet", "(II)I"⟩, 3), (⟨"SunRings$Cut", "placesNear", "(I)I"⟩, 3), (⟨"SunRingsModel", "lay", "(IIIIIIIIII)V"⟩, 29), (⟨"SunRingsModel", "bent", "(III)I"⟩, 29), (⟨"SunRingsModel", "least", "(III)I"⟩, 29), (⟨"SunRingsModel", "turns", "(III)I"⟩, 29)]
theorem lw_r1 : ∀ q ∈ lw_privs_1, lw_okq q := List.forall_mem_cons.mpr ⟨lw_p0, List.forall_mem_cons.mpr ⟨lw_p1, List.forall_mem_cons.mpr ⟨lw_p2, List.forall_mem_cons.mpr ⟨lw_p3, List.forall_mem_cons.mpr ⟨lw_p4, List.forall_mem_cons.mpr ⟨lw_p5, List.forall_mem_cons.mpr ⟨lw_p6, List.forall_mem_cons.mpr ⟨lw_p7, List.forall_mem_cons.mpr ⟨lw_p8, List.forall_mem_cons.mpr ⟨lw_p9, List.forall_mem_cons.mpr ⟨lw_p10, List.forall_mem_cons.mpr ⟨lw_p11, List.forall_mem_cons.mpr ⟨lw_p12, List.forall_mem_cons.mpr ⟨lw_p13, List.forall_mem_cons.mpr ⟨lw_p14, List.forall_mem_cons.mpr ⟨lw_p15, fun _ h => absurd h List.not_mem_nil⟩⟩⟩⟩⟩⟩⟩⟩⟩⟩⟩⟩⟩⟩⟩⟩
theorem lw_p16 : lw_okq (⟨"SunRingsModel", "from", "(III)I"⟩, 29) := ⟨⟨by decide +kernel, by decide +kernel⟩, List.mem_of_getElem? (i := 576) (by decide +kernel), List.mem_of_getElem? (i := 711) (by decide +kernel), List.mem_of_getElem? (i := 712) (by decide +kernel)⟩
theorem lw_p17 : lw_okq (⟨"SunRingsModel", "out", "(II)I"⟩, 29) := ⟨⟨by decide +kernel, by decide +kernel⟩, List.mem_of_getElem? (i := 576) (by decide +kernel), List.mem_of_getElem? (i := 715) (by decide +kernel), List.mem_of_getElem? (i := 716) (by decide +kernel)⟩
theorem lw_p18 : lw_okq (⟨"SunRingsModel", "layMap", "(II)V"⟩, 29) := ⟨⟨by decide +kernel, by decide +kernel⟩, List.mem_of_getElem? (i := 576) (by decide +kernel), List.mem_of_getElem? (i := 724) (by decide +kernel), List.mem_of_getElem? (i := 725) (by decide +kernel)⟩
theorem lw_p19 : lw_okq (⟨"SunRingsModel", "bowOf", "()I"⟩, 29) := ⟨⟨by decide +kernel, by decide +kernel⟩, List.mem_of_getElem? (i := 576) (by decide +kernel), List.mem_of_getElem? (i := 733) (by decide +kernel), List.mem_of_getElem? (i := 734) (by decide +kernel)⟩
theorem lw_p20 : lw_okq (⟨"SunRingsModel", "hasWedge", "(II)Z"⟩, 29) := ⟨⟨by decide +kernel, by decide +kernel⟩, List.mem_of_getElem? (i := 576) (by decide +kernel), List.mem_of_getElem? (i := 746) (by decide +kernel), List.mem_of_getElem? (i := 747) (by decide +kernel)⟩
theorem lw_p21 : lw_okq (⟨"SunRingsModel", "turnedBy", "(III)I"⟩, 29) := ⟨⟨by decide +kernel, by decide +kernel⟩, List.mem_of_getElem? (i := 576) (by decide +kernel), List.mem_of_getElem? (i := 758) (by decide +kernel), List.mem_of_getElem? (i := 759) (by decide +kernel)⟩
theorem lw_p22 : lw_okq (⟨"SunRingsModel", "ringOf", "(II)I"⟩, 29) := ⟨⟨by decide +kernel, by decide +kernel⟩, List.mem_of_getElem? (i := 576) (by decide +kernel), List.mem_of_getElem? (i := 766) (by decide +kernel), List.mem_of_getElem? (i := 767) (by decide +kernel)⟩
theorem lw_p23 : lw_okq (⟨"SunRingsModel", "layRings", "()V"⟩, 29) := ⟨⟨by decide +kernel, by decide +kernel⟩, List.mem_of_getElem? (i := 576) (by decide +kernel), List.mem_of_getElem? (i := 774) (by decide +kernel), List.mem_of_getElem? (i := 775) (by decide +kernel)⟩
theorem lw_p24 : lw_okq (⟨"SunRingsModel", "layLights", "(II)V"⟩, 29) := ⟨⟨by decide +kernel, by decide +kernel⟩, List.mem_of_getElem? (i := 576) (by decide +kernel), List.mem_of_getElem? (i := 778) (by decide +kernel), List.mem_of_getElem? (i := 779) (by decide +kernel)⟩
theorem lw_p25 : lw_okq (⟨"SunRingsModel", "putRing", "(III)V"⟩, 29) := ⟨⟨by decide +kernel, by decide +kernel⟩, List.mem_of_getElem? (i := 576) (by decide +kernel), List.mem_of_getElem? (i := 782) (by decide +kernel), List.mem_of_getElem? (i := 783) (by decide +kernel)⟩
theorem lw_p26 : lw_okq (⟨"SunRingsModel", "put", "(IIII)V"⟩, 29) := ⟨⟨by decide +kernel, by decide +kernel⟩, List.mem_of_getElem? (i := 576) (by decide +kernel), List.mem_of_getElem? (i := 786) (by decide +kernel), List.mem_of_getElem? (i := 787) (by decide +kernel)⟩
theorem lw_p27 : lw_okq (⟨"SunRingsModel", "layMet", "(I)V"⟩, 29) := ⟨⟨by decide +kernel, by decide +kernel⟩, List.mem_of_getElem? (i := 576) (by decide +kernel), List.mem_of_getElem? (i := 806) (by decide +kernel), List.mem_of_getElem? (i := 807) (by decide +kernel)⟩
theorem lw_p28 : lw_okq (⟨"SunRingsModel", "meets", "(II)Z"⟩, 29) := ⟨⟨by decide +kernel, by decide +kernel⟩, List.mem_of_getElem? (i := 576) (by decide +kernel), List.mem_of_getElem? (i := 810) (by decide +kernel), List.mem_of_getElem? (i := 811) (by decide +kernel)⟩
theorem lw_p29 : lw_okq (⟨"SunRingsModel", "metBy", "(I)I"⟩, 29) := ⟨⟨by decide +kernel, by decide +kernel⟩, List.mem_of_getElem? (i := 576) (by decide +kernel), List.mem_of_getElem? (i := 814) (by decide +kernel), List.mem_of_getElem? (i := 815) (by decide +kernel)⟩
theorem lw_p30 : lw_okq (⟨"SunRingsModel", "allMarks", "()I"⟩, 29) := ⟨⟨by decide +kernel, by decide +kernel⟩, List.mem_of_getElem? (i := 576) (by decide +kernel), List.mem_of_getElem? (i := 818) (by decide +kernel), List.mem_of_getElem? (i := 819) (by decide +kernel)⟩
theorem lw_p31 : lw_okq (⟨"SunRingsModel", "laySpots", "(I)V"⟩, 29) := ⟨⟨by decide +kernel, by decide +kernel⟩, List.mem_of_getElem? (i := 576) (by decide +kernel), List.mem_of_getElem? (i := 850) (by decide +kernel), List.mem_of_getElem? (i := 851) (by decide +kernel)⟩
def lw_privs_2 : List (MethodName × Nat) := [(⟨"SunRingsModel", "from", "(III)I"⟩, 29), (⟨"SunRingsModel", "out", "(II)I"⟩, 29), (⟨"SunRingsModel", "layMap", "(II)V"⟩, 29), (⟨"SunRingsModel", "bowOf", "()I"⟩, 29), (⟨"SunRingsModel", "hasWedge", "(II)Z"⟩, 29), (⟨"SunRingsModel", "turnedBy", "(III)I"⟩, 29), (⟨"SunRingsModel", "ringOf", "(II)I"⟩, 29), (⟨"SunRingsModel", "layRings", "()V"⟩, 29), (⟨"SunRingsModel", "layLights", "(II)V"⟩, 29), (⟨"SunRingsModel", "putRing", "(III)V"⟩, 29), (⟨"SunRingsModel", "put", "(IIII)V"⟩, 29), (⟨"SunRingsModel", "layMet", "(I)V"⟩, 29), (⟨"SunRingsModel", "meets", "(II)Z"⟩, 29), (⟨"SunRingsModel", "metBy", "(I)I"⟩, 29), (⟨"SunRingsModel", "allMarks", "()I"⟩, 29), (⟨"SunRingsModel", "laySpots", "(I)V"⟩, 29)]
theorem lw_r2 : ∀ q ∈ lw_privs_2, lw_okq q := List.forall_mem_cons.mpr ⟨lw_p16, List.forall_mem_cons.mpr ⟨lw_p17, List.forall_mem_cons.mpr ⟨lw_p18, List.forall_mem_cons.mpr ⟨lw_p19, List.forall_mem_cons.mpr ⟨lw_p20, List.forall_mem_cons.mpr ⟨lw_p21, List.forall_mem_cons.mpr ⟨lw_p22, List.forall_mem_cons.mpr ⟨lw_p23, List.forall_mem_cons.mpr ⟨lw_p24, List.forall_mem_cons.mpr ⟨lw_p25, List.forall_mem_cons.mpr ⟨lw_p26, List.forall_mem_cons.mpr ⟨lw_p27, List.forall_mem_cons.mpr ⟨lw_p28, List.forall_mem_cons.mpr ⟨lw_p29, List.forall_mem_cons.mpr ⟨lw_p30, List.forall_mem_cons.mpr ⟨lw_p31, fun _ h => absurd h List.not_mem_nil⟩⟩⟩⟩⟩⟩⟩⟩⟩⟩⟩⟩⟩⟩⟩⟩
theorem lw_p32 : lw_okq (⟨"SunRingsModel", "spots", "(II)I"⟩, 29) := ⟨⟨by decide +kernel, by decide +kernel⟩, List.mem_of_getElem? (i := 576) (by decide +kernel), List.mem_of_getElem? (i := 854) (by decide +kernel), List.mem_of_getElem? (i := 855) (by decide +kernel)⟩
theorem lw_p33 : lw_okq (⟨"SunRingsModel", "isMade", "(I)Z"⟩, 29) := ⟨⟨by decide +kernel, by decide +kernel⟩, List.mem_of_getElem? (i := 576) (by decide +kernel), List.mem_of_getElem? (i := 858) (by decide +kernel), List.mem_of_getElem? (i := 859) (by decide +kernel)⟩
def lw_privs_3 : List (MethodName × Nat) := [(⟨"SunRingsModel", "spots", "(II)I"⟩, 29), (⟨"SunRingsModel", "isMade", "(I)Z"⟩, 29)]
theorem lw_r3 : ∀ q ∈ lw_privs_3, lw_okq q := List.forall_mem_cons.mpr ⟨lw_p32, List.forall_mem_cons.mpr ⟨lw_p33, fun _ h => absurd h List.not_mem_nil⟩⟩
def lw_privs : List (MethodName × Nat) := lw_privs_1 ++ (lw_privs_2 ++ (lw_privs_3))
def lw_tbl : List Cond := k2_sels lw_privs ++ tables_1
theorem lw_privs_ok : ∀ q ∈ lw_privs, lw_okq q := by
  show ∀ q ∈ lw_privs_1 ++ (lw_privs_2 ++ (lw_privs_3)), lw_okq q
  exact List.forall_mem_append.mpr ⟨lw_r1, List.forall_mem_append.mpr ⟨lw_r2, lw_r3⟩⟩
def RX0 : String := "SunRings$Cut"
def TX0 : u_T := fun k => match k with
  | 0 => ("SunRings$Cut", "ice", "LSunRings$Ice;", true)
  | 1 => ("SunRings$Cut", "places", "[I", true)
  | _ => ("SunRings$Cut", "metBy", "[I", true)
def tyX0 : Nat → FieldType := fun k => match k with
  | 0 => .object "SunRings$Ice"
  | 1 => .array .int
  | _ => .array .int
abbrev wsX00 : List Cond := u_ws RX0 TX0 3
theorem nmX0 : ∀ a, a < 3 → ∀ b, b < 3 → a ≠ b → (TX0 a).2.1 ≠ (TX0 b).2.1 := by decide +kernel
theorem tyX0_ok : ∀ k, k < 3 → parseFieldDescriptor (TX0 k).2.2.1 = some (tyX0 k) := by decide +kernel
abbrev cX0_init : ByteArray := prog_2_method_1_code
def yX0_init : MethodName := ⟨RX0, "<init>", "(LSunRings$Ice;)V"⟩
abbrev cX0_placesTold : ByteArray := prog_2_method_2_code
def yX0_placesTold : MethodName := ⟨RX0, "placesTold", "(I)I"⟩
abbrev cX0_placesMet : ByteArray := prog_2_method_3_code
def yX0_placesMet : MethodName := ⟨RX0, "placesMet", "(II)I"⟩
abbrev cX0_placesNear : ByteArray := prog_2_method_4_code
def yX0_placesNear : MethodName := ⟨RX0, "placesNear", "(I)I"⟩
abbrev cX0_fits : ByteArray := prog_2_method_5_code
def yX0_fits : MethodName := ⟨RX0, "fits", "(III)Z"⟩
abbrev cX0_isMade : ByteArray := prog_2_method_6_code
def yX0_isMade : MethodName := ⟨RX0, "isMade", "(II)Z"⟩
abbrev cX0_firstMaker : ByteArray := prog_2_method_7_code
def yX0_firstMaker : MethodName := ⟨RX0, "firstMaker", "(I)I"⟩
def RX1 : String := "SunRings$Diary"
def TX1 : u_T := fun k => match k with
  | 0 => ("SunRings$Diary", "colds", "[I", true)
  | 1 => ("SunRings$Diary", "clouds", "[I", true)
  | 2 => ("SunRings$Diary", "seen", "[I", true)
  | _ => ("SunRings$Diary", "size", "I", false)
def tyX1 : Nat → FieldType := fun k => match k with
  | 0 => .array .int
  | 1 => .array .int
  | 2 => .array .int
  | _ => .int
abbrev wsX10 : List Cond := u_ws RX1 TX1 4
theorem nmX1 : ∀ a, a < 4 → ∀ b, b < 4 → a ≠ b → (TX1 a).2.1 ≠ (TX1 b).2.1 := by decide +kernel
theorem tyX1_ok : ∀ k, k < 4 → parseFieldDescriptor (TX1 k).2.2.1 = some (tyX1 k) := by decide +kernel
abbrev cX1_init : ByteArray := prog_3_method_1_code
def yX1_init : MethodName := ⟨RX1, "<init>", "()V"⟩
abbrev cX1_addDay : ByteArray := prog_3_method_2_code
def yX1_addDay : MethodName := ⟨RX1, "addDay", "(III)I"⟩
abbrev cX1_daysWith : ByteArray := prog_3_method_3_code
def yX1_daysWith : MethodName := ⟨RX1, "daysWith", "(IIII)I"⟩
abbrev cX1_causesSeen : ByteArray := prog_3_method_4_code
def yX1_causesSeen : MethodName := ⟨RX1, "causesSeen", "()I"⟩
def RX2 : String := "SunRings$Drawing"
def TX2 : u_T := fun k => match k with
  | 0 => ("SunRings$Drawing", "ice", "LSunRings$Ice;", true)
  | 1 => ("SunRings$Drawing", "marks", "[I", true)
  | 2 => ("SunRings$Drawing", "size", "I", false)
  | _ => ("SunRings$Drawing", "covers", "[I", true)
def tyX2 : Nat → FieldType := fun k => match k with
  | 0 => .object "SunRings$Ice"
  | 1 => .array .int
  | 2 => .int
  | _ => .array .int
abbrev wsX20 : List Cond := u_ws RX2 TX2 4
theorem nmX2 : ∀ a, a < 4 → ∀ b, b < 4 → a ≠ b → (TX2 a).2.1 ≠ (TX2 b).2.1 := by decide +kernel
theorem tyX2_ok : ∀ k, k < 4 → parseFieldDescriptor (TX2 k).2.2.1 = some (tyX2 k) := by decide +kernel
abbrev cX2_init : ByteArray := prog_4_method_1_code
def yX2_init : MethodName := ⟨RX2, "<init>", "(LSunRings$Ice;)V"⟩
abbrev cX2_addMark : ByteArray := prog_4_method_2_code
def yX2_addMark : MethodName := ⟨RX2, "addMark", "(IIII)I"⟩
abbrev cX2_allMarks : ByteArray := prog_4_method_3_code
def yX2_allMarks : MethodName := ⟨RX2, "allMarks", "()I"⟩
abbrev cX2_meets : ByteArray := prog_4_method_4_code
def yX2_meets : MethodName := ⟨RX2, "meets", "(II)Z"⟩
abbrev cX2_meetsAny : ByteArray := prog_4_method_5_code
def yX2_meetsAny : MethodName := ⟨RX2, "meetsAny", "(I)Z"⟩
abbrev cX2_marksMet : ByteArray := prog_4_method_6_code
def yX2_marksMet : MethodName := ⟨RX2, "marksMet", "(III)I"⟩
abbrev cX2_marksLeft : ByteArray := prog_4_method_7_code
def yX2_marksLeft : MethodName := ⟨RX2, "marksLeft", "(III)I"⟩
abbrev cX2_isExplained : ByteArray := prog_4_method_8_code
def yX2_isExplained : MethodName := ⟨RX2, "isExplained", "(II)Z"⟩
abbrev cX2_marksNeverMet : ByteArray := prog_4_method_9_code
def yX2_marksNeverMet : MethodName := ⟨RX2, "marksNeverMet", "()I"⟩
abbrev cX2_unseen : ByteArray := prog_4_method_10_code
def yX2_unseen : MethodName := ⟨RX2, "unseen", "(II)I"⟩
abbrev cX2_leastCover : ByteArray := prog_4_method_11_code
def yX2_leastCover : MethodName := ⟨RX2, "leastCover", "(I)I"⟩
abbrev cX2_coverWith : ByteArray := prog_4_method_12_code
def yX2_coverWith : MethodName := ⟨RX2, "coverWith", "(III)V"⟩
def RX3 : String := "SunRings$Drops"
def TX3 : u_T := fun k => match k with
  | 0 => ("SunRings$Drops", "setup", "LSunRings$Setup;", true)
  | 1 => ("SunRings$Drops", "sky", "[J", true)
  | _ => ("SunRings$Drops", "otherSky", "[J", true)
def tyX3 : Nat → FieldType := fun k => match k with
  | 0 => .object "SunRings$Setup"
  | 1 => .array .long
  | _ => .array .long
abbrev wsX30 : List Cond := u_ws RX3 TX3 3
theorem nmX3 : ∀ a, a < 3 → ∀ b, b < 3 → a ≠ b → (TX3 a).2.1 ≠ (TX3 b).2.1 := by decide +kernel
theorem tyX3_ok : ∀ k, k < 3 → parseFieldDescriptor (TX3 k).2.2.1 = some (tyX3 k) := by decide +kernel
abbrev cX3_init : ByteArray := prog_5_method_1_code
def yX3_init : MethodName := ⟨RX3, "<init>", "(LSunRings$Setup;)V"⟩
abbrev cX3_turnOf : ByteArray := prog_5_method_2_code
def yX3_turnOf : MethodName := ⟨RX3, "turnOf", "(III)I"⟩
abbrev cX3_fromSun : ByteArray := prog_5_method_3_code
def yX3_fromSun : MethodName := ⟨RX3, "fromSun", "(III)I"⟩
abbrev cX3_lightIn : ByteArray := prog_5_method_4_code
def yX3_lightIn : MethodName := ⟨RX3, "lightIn", "(I)I"⟩
abbrev cX3_lightOut : ByteArray := prog_5_method_5_code
def yX3_lightOut : MethodName := ⟨RX3, "lightOut", "(II)I"⟩
abbrev cX3_thrownBack : ByteArray := prog_5_method_6_code
def yX3_thrownBack : MethodName := ⟨RX3, "thrownBack", "(I)I"⟩
abbrev cX3_fillSky : ByteArray := prog_5_method_7_code
def yX3_fillSky : MethodName := ⟨RX3, "fillSky", "([JII)V"⟩
abbrev cX3_brightest : ByteArray := prog_5_method_8_code
def yX3_brightest : MethodName := ⟨RX3, "brightest", "([J)I"⟩
abbrev cX3_broad : ByteArray := prog_5_method_9_code
def yX3_broad : MethodName := ⟨RX3, "broad", "([JI)I"⟩
abbrev cX3_widestDark : ByteArray := prog_5_method_10_code
def yX3_widestDark : MethodName := ⟨RX3, "widestDark", "(II)I"⟩
def RX4 : String := "SunRings$Ice"
def TX4 : u_T := fun k => match k with
  | 0 => ("SunRings$Ice", "setup", "LSunRings$Setup;", true)
  | _ => ("SunRings$Ice", "lights", "LSunRings$Lights;", true)
def tyX4 : Nat → FieldType := fun k => match k with
  | 0 => .object "SunRings$Setup"
  | _ => .object "SunRings$Lights"
abbrev wsX40 : List Cond := u_ws RX4 TX4 2
theorem nmX4 : ∀ a, a < 2 → ∀ b, b < 2 → a ≠ b → (TX4 a).2.1 ≠ (TX4 b).2.1 := by decide +kernel
theorem tyX4_ok : ∀ k, k < 2 → parseFieldDescriptor (TX4 k).2.2.1 = some (tyX4 k) := by decide +kernel
abbrev cX4_init : ByteArray := prog_6_method_1_code
def yX4_init : MethodName := ⟨RX4, "<init>", "(LSunRings$Setup;)V"⟩
abbrev cX4_turnOf : ByteArray := prog_6_method_2_code
def yX4_turnOf : MethodName := ⟨RX4, "turnOf", "(III)I"⟩
abbrev cX4_leastTurn : ByteArray := prog_6_method_3_code
def yX4_leastTurn : MethodName := ⟨RX4, "leastTurn", "(II)I"⟩
abbrev cX4_lightUp : ByteArray := prog_6_method_4_code
def yX4_lightUp : MethodName := ⟨RX4, "lightUp", "(II)V"⟩
abbrev cX4_addArcs : ByteArray := prog_6_method_5_code
def yX4_addArcs : MethodName := ⟨RX4, "addArcs", "(II)V"⟩
abbrev cX4_addSpot : ByteArray := prog_6_method_6_code
def yX4_addSpot : MethodName := ⟨RX4, "addSpot", "(III)V"⟩
abbrev cX4_addLightsBehind : ByteArray := prog_6_method_7_code
def yX4_addLightsBehind : MethodName := ⟨RX4, "addLightsBehind", "(II)V"⟩
def RX5 : String := "SunRings$Lights"
def TX5 : u_T := fun k => match k with
  | 0 => ("SunRings$Lights", "rows", "[I", true)
  | _ => ("SunRings$Lights", "size", "I", false)
def tyX5 : Nat → FieldType := fun k => match k with
  | 0 => .array .int
  | _ => .int
abbrev wsX50 : List Cond := u_ws RX5 TX5 2
theorem nmX5 : ∀ a, a < 2 → ∀ b, b < 2 → a ≠ b → (TX5 a).2.1 ≠ (TX5 b).2.1 := by decide +kernel
theorem tyX5_ok : ∀ k, k < 2 → parseFieldDescriptor (TX5 k).2.2.1 = some (tyX5 k) := by decide +kernel
abbrev cX5_init : ByteArray := prog_7_method_1_code
def yX5_init : MethodName := ⟨RX5, "<init>", "()V"⟩
abbrev cX5_add : ByteArray := prog_7_method_2_code
def yX5_add : MethodName := ⟨RX5, "add", "(IIII)V"⟩
abbrev cX5_part : ByteArray := prog_7_method_3_code
def yX5_part : MethodName := ⟨RX5, "part", "(II)I"⟩
abbrev cX5_isNear : ByteArray := prog_7_method_4_code
def yX5_isNear : MethodName := ⟨RX5, "isNear", "(III)Z"⟩
def RX6 : String := "SunRings$Setup"
def TX6 : u_T := fun k => match k with
  | 0 => ("SunRings$Setup", "tables", "[I", true)
  | 1 => ("SunRings$Setup", "rules", "[I", true)
  | 2 => ("SunRings$Setup", "wedges", "[I", true)
  | 3 => ("SunRings$Setup", "wedgeCounts", "[I", true)
  | _ => ("SunRings$Setup", "rings", "[I", true)
def tyX6 : Nat → FieldType := fun k => match k with
  | 0 => .array .int
  | 1 => .array .int
  | 2 => .array .int
  | 3 => .array .int
  | _ => .array .int
abbrev wsX60 : List Cond := u_ws RX6 TX6 5
theorem nmX6 : ∀ a, a < 5 → ∀ b, b < 5 → a ≠ b → (TX6 a).2.1 ≠ (TX6 b).2.1 := by decide +kernel
theorem tyX6_ok : ∀ k, k < 5 → parseFieldDescriptor (TX6 k).2.2.1 = some (tyX6 k) := by decide +kernel
abbrev cX6_init : ByteArray := prog_8_method_1_code
def yX6_init : MethodName := ⟨RX6, "<init>", "()V"⟩
abbrev cX6_copyFrom : ByteArray := prog_8_method_2_code
def yX6_copyFrom : MethodName := ⟨RX6, "copyFrom", "(LSunRings$Setup;)V"⟩
abbrev cX6_changeTable : ByteArray := prog_8_method_3_code
def yX6_changeTable : MethodName := ⟨RX6, "changeTable", "(III)I"⟩
abbrev cX6_bent : ByteArray := prog_8_method_4_code
def yX6_bent : MethodName := ⟨RX6, "bent", "(III)I"⟩
abbrev cX6_unbent : ByteArray := prog_8_method_5_code
def yX6_unbent : MethodName := ⟨RX6, "unbent", "(III)I"⟩
abbrev cX6_hasWedge : ByteArray := prog_8_method_6_code
def yX6_hasWedge : MethodName := ⟨RX6, "hasWedge", "(II)Z"⟩
abbrev cX6_addWedge : ByteArray := prog_8_method_7_code
def yX6_addWedge : MethodName := ⟨RX6, "addWedge", "(II)I"⟩
abbrev cX6_wedgesInAll : ByteArray := prog_8_method_8_code
def yX6_wedgesInAll : MethodName := ⟨RX6, "wedgesInAll", "()I"⟩
def RX7 : String := "SunRings"
def TX7 : u_T := fun k => match k with
  | 0 => ("SunRings", "setup", "LSunRings$Setup;", true)
  | 1 => ("SunRings", "kept", "[LSunRings$Setup;", true)
  | 2 => ("SunRings", "keptSize", "I", false)
  | 3 => ("SunRings", "drops", "LSunRings$Drops;", true)
  | 4 => ("SunRings", "ice", "LSunRings$Ice;", true)
  | 5 => ("SunRings", "drawing", "LSunRings$Drawing;", true)
  | 6 => ("SunRings", "sights", "LSunRings$Cut;", true)
  | _ => ("SunRings", "diary", "LSunRings$Diary;", true)
def tyX7 : Nat → FieldType := fun k => match k with
  | 0 => .object "SunRings$Setup"
  | 1 => .array (.object "SunRings$Setup")
  | 2 => .int
  | 3 => .object "SunRings$Drops"
  | 4 => .object "SunRings$Ice"
  | 5 => .object "SunRings$Drawing"
  | 6 => .object "SunRings$Cut"
  | _ => .object "SunRings$Diary"
abbrev wsX70 : List Cond := u_ws RX7 TX7 8
theorem nmX7 : ∀ a, a < 8 → ∀ b, b < 8 → a ≠ b → (TX7 a).2.1 ≠ (TX7 b).2.1 := by decide +kernel
theorem tyX7_ok : ∀ k, k < 8 → parseFieldDescriptor (TX7 k).2.2.1 = some (tyX7 k) := by decide +kernel
abbrev cX7_init : ByteArray := prog_1_method_1_code
def yX7_init : MethodName := ⟨RX7, "<init>", "()V"⟩
abbrev cX7_table : ByteArray := prog_1_method_2_code
def yX7_table : MethodName := ⟨RX7, "table", "(III)I"⟩
abbrev cX7_rule : ByteArray := prog_1_method_3_code
def yX7_rule : MethodName := ⟨RX7, "rule", "(II)I"⟩
abbrev cX7_inside : ByteArray := prog_1_method_4_code
def yX7_inside : MethodName := ⟨RX7, "inside", "(III)I"⟩
abbrev cX7_outside : ByteArray := prog_1_method_5_code
def yX7_outside : MethodName := ⟨RX7, "outside", "(III)I"⟩
abbrev cX7_ray : ByteArray := prog_1_method_6_code
def yX7_ray : MethodName := ⟨RX7, "ray", "(IIII)I"⟩
abbrev cX7_map : ByteArray := prog_1_method_7_code
def yX7_map : MethodName := ⟨RX7, "map", "(III)J"⟩
abbrev cX7_bow : ByteArray := prog_1_method_8_code
def yX7_bow : MethodName := ⟨RX7, "bow", "(IIII)I"⟩
abbrev cX7_dark : ByteArray := prog_1_method_9_code
def yX7_dark : MethodName := ⟨RX7, "dark", "(II)I"⟩
abbrev cX7_wedge : ByteArray := prog_1_method_10_code
def yX7_wedge : MethodName := ⟨RX7, "wedge", "(II)I"⟩
abbrev cX7_noWedges : ByteArray := prog_1_method_11_code
def yX7_noWedges : MethodName := ⟨RX7, "noWedges", "(I)I"⟩
abbrev cX7_turned : ByteArray := prog_1_method_12_code
def yX7_turned : MethodName := ⟨RX7, "turned", "(III)I"⟩
abbrev cX7_ring : ByteArray := prog_1_method_13_code
def yX7_ring : MethodName := ⟨RX7, "ring", "(II)I"⟩
abbrev cX7_light : ByteArray := prog_1_method_14_code
def yX7_light : MethodName := ⟨RX7, "light", "(IIII)I"⟩
abbrev cX7_mark : ByteArray := prog_1_method_15_code
def yX7_mark : MethodName := ⟨RX7, "mark", "(IIII)I"⟩
abbrev cX7_wipe : ByteArray := prog_1_method_16_code
def yX7_wipe : MethodName := ⟨RX7, "wipe", "()I"⟩
abbrev cX7_explains : ByteArray := prog_1_method_17_code
def yX7_explains : MethodName := ⟨RX7, "explains", "(II)I"⟩
abbrev cX7_fewest : ByteArray := prog_1_method_18_code
def yX7_fewest : MethodName := ⟨RX7, "fewest", "(I)I"⟩
abbrev cX7_owed : ByteArray := prog_1_method_19_code
def yX7_owed : MethodName := ⟨RX7, "owed", "(II)I"⟩
abbrev cX7_never : ByteArray := prog_1_method_20_code
def yX7_never : MethodName := ⟨RX7, "never", "()I"⟩
abbrev cX7_heights : ByteArray := prog_1_method_21_code
def yX7_heights : MethodName := ⟨RX7, "heights", "(II)I"⟩
abbrev cX7_cut : ByteArray := prog_1_method_22_code
def yX7_cut : MethodName := ⟨RX7, "cut", "(II)I"⟩
abbrev cX7_made : ByteArray := prog_1_method_23_code
def yX7_made : MethodName := ⟨RX7, "made", "(II)I"⟩
abbrev cX7_maker : ByteArray := prog_1_method_24_code
def yX7_maker : MethodName := ⟨RX7, "maker", "(I)I"⟩
abbrev cX7_day : ByteArray := prog_1_method_25_code
def yX7_day : MethodName := ⟨RX7, "day", "(III)I"⟩
abbrev cX7_odds : ByteArray := prog_1_method_26_code
def yX7_odds : MethodName := ⟨RX7, "odds", "(IIIII)I"⟩
abbrev cX7_together : ByteArray := prog_1_method_27_code
def yX7_together : MethodName := ⟨RX7, "together", "(II)I"⟩
abbrev cX7_keep : ByteArray := prog_1_method_28_code
def yX7_keep : MethodName := ⟨RX7, "keep", "()I"⟩
abbrev cX7_back : ByteArray := prog_1_method_29_code
def yX7_back : MethodName := ⟨RX7, "back", "()I"⟩
abbrev cX7_count : ByteArray := prog_1_method_30_code
def yX7_count : MethodName := ⟨RX7, "count", "(I)I"⟩
abbrev cX7_within : ByteArray := prog_1_method_31_code
def yX7_within : MethodName := ⟨RX7, "within", "(III)Z"⟩
abbrev cX7_isRight : ByteArray := prog_1_method_32_code
def yX7_isRight : MethodName := ⟨RX7, "isRight", "(I)Z"⟩
abbrev cX7_isColour : ByteArray := prog_1_method_33_code
def yX7_isColour : MethodName := ⟨RX7, "isColour", "(I)Z"⟩
abbrev cX7_isMirrors : ByteArray := prog_1_method_34_code
def yX7_isMirrors : MethodName := ⟨RX7, "isMirrors", "(I)Z"⟩
abbrev cX7_isCause : ByteArray := prog_1_method_35_code
def yX7_isCause : MethodName := ⟨RX7, "isCause", "(I)Z"⟩
abbrev cX7_isSet : ByteArray := prog_1_method_36_code
def yX7_isSet : MethodName := ⟨RX7, "isSet", "(I)Z"⟩
abbrev cX7_isCold : ByteArray := prog_1_method_37_code
def yX7_isCold : MethodName := ⟨RX7, "isCold", "(I)Z"⟩
abbrev cX7_commonDivisor : ByteArray := prog_1_method_38_code
def yX7_commonDivisor : MethodName := ⟨RX7, "commonDivisor", "(II)I"⟩
def RX8 : String := "SunRingsModel"
def TX8 : u_T := fun k => match k with
  | 0 => ("SunRingsModel", "tables", "[I", true)
  | 1 => ("SunRingsModel", "fan", "I", false)
  | 2 => ("SunRingsModel", "squash", "I", false)
  | 3 => ("SunRingsModel", "shine", "I", false)
  | 4 => ("SunRingsModel", "skew", "I", false)
  | 5 => ("SunRingsModel", "sway", "I", false)
  | 6 => ("SunRingsModel", "wedgeMany", "[I", true)
  | 7 => ("SunRingsModel", "wedges", "[I", true)
  | 8 => ("SunRingsModel", "markMany", "I", false)
  | 9 => ("SunRingsModel", "markForm", "[I", true)
  | 10 => ("SunRingsModel", "markSide", "[I", true)
  | 11 => ("SunRingsModel", "markAngle", "[I", true)
  | 12 => ("SunRingsModel", "markDoubt", "[I", true)
  | 13 => ("SunRingsModel", "places", "[I", true)
  | 14 => ("SunRingsModel", "dayMany", "I", false)
  | 15 => ("SunRingsModel", "dayCold", "[I", true)
  | 16 => ("SunRingsModel", "dayCloud", "[I", true)
  | 17 => ("SunRingsModel", "dayCauses", "[I", true)
  | 18 => ("SunRingsModel", "mapped", "[J", true)
  | 19 => ("SunRingsModel", "isLit", "[Z", true)
  | 20 => ("SunRingsModel", "rings", "[I", true)
  | 21 => ("SunRingsModel", "lightMany", "I", false)
  | 22 => ("SunRingsModel", "lightForm", "[I", true)
  | 23 => ("SunRingsModel", "lightSide", "[I", true)
  | 24 => ("SunRingsModel", "lightFrom", "[I", true)
  | 25 => ("SunRingsModel", "lightTo", "[I", true)
  | 26 => ("SunRingsModel", "met", "[I", true)
  | 27 => ("SunRingsModel", "kept", "[I", true)
  | _ => ("SunRingsModel", "keptMany", "I", false)
def tyX8 : Nat → FieldType := fun k => match k with
  | 0 => .array .int
  | 1 => .int
  | 2 => .int
  | 3 => .int
  | 4 => .int
  | 5 => .int
  | 6 => .array .int
  | 7 => .array .int
  | 8 => .int
  | 9 => .array .int
  | 10 => .array .int
  | 11 => .array .int
  | 12 => .array .int
  | 13 => .array .int
  | 14 => .int
  | 15 => .array .int
  | 16 => .array .int
  | 17 => .array .int
  | 18 => .array .long
  | 19 => .array .boolean
  | 20 => .array .int
  | 21 => .int
  | 22 => .array .int
  | 23 => .array .int
  | 24 => .array .int
  | 25 => .array .int
  | 26 => .array .int
  | 27 => .array .int
  | _ => .int
abbrev wsX80 : List Cond := u_ws RX8 TX8 29
theorem nmX8 : ∀ a, a < 29 → ∀ b, b < 29 → a ≠ b → (TX8 a).2.1 ≠ (TX8 b).2.1 := by decide +kernel
theorem tyX8_ok : ∀ k, k < 29 → parseFieldDescriptor (TX8 k).2.2.1 = some (tyX8 k) := by decide +kernel
abbrev cX8_init : ByteArray := prog_10_method_1_code
def yX8_init : MethodName := ⟨RX8, "<init>", "()V"⟩
abbrev cX8_lay : ByteArray := prog_10_method_2_code
def yX8_lay : MethodName := ⟨RX8, "lay", "(IIIIIIIIII)V"⟩
abbrev cX8_in : ByteArray := prog_10_method_3_code
def yX8_in : MethodName := ⟨RX8, "in", "(III)Z"⟩
abbrev cX8_table : ByteArray := prog_10_method_4_code
def yX8_table : MethodName := ⟨RX8, "table", "(III)I"⟩
abbrev cX8_rule : ByteArray := prog_10_method_5_code
def yX8_rule : MethodName := ⟨RX8, "rule", "(II)I"⟩
abbrev cX8_bent : ByteArray := prog_10_method_6_code
def yX8_bent : MethodName := ⟨RX8, "bent", "(III)I"⟩
abbrev cX8_least : ByteArray := prog_10_method_7_code
def yX8_least : MethodName := ⟨RX8, "least", "(III)I"⟩
abbrev cX8_inside : ByteArray := prog_10_method_8_code
def yX8_inside : MethodName := ⟨RX8, "inside", "(III)I"⟩
abbrev cX8_outside : ByteArray := prog_10_method_9_code
def yX8_outside : MethodName := ⟨RX8, "outside", "(III)I"⟩
abbrev cX8_turns : ByteArray := prog_10_method_10_code
def yX8_turns : MethodName := ⟨RX8, "turns", "(III)I"⟩
abbrev cX8_from : ByteArray := prog_10_method_11_code
def yX8_from : MethodName := ⟨RX8, "from", "(III)I"⟩
abbrev cX8_out : ByteArray := prog_10_method_12_code
def yX8_out : MethodName := ⟨RX8, "out", "(II)I"⟩
abbrev cX8_ray : ByteArray := prog_10_method_13_code
def yX8_ray : MethodName := ⟨RX8, "ray", "(IIII)I"⟩
abbrev cX8_layMap : ByteArray := prog_10_method_14_code
def yX8_layMap : MethodName := ⟨RX8, "layMap", "(II)V"⟩
abbrev cX8_bowOf : ByteArray := prog_10_method_15_code
def yX8_bowOf : MethodName := ⟨RX8, "bowOf", "()I"⟩
abbrev cX8_map : ByteArray := prog_10_method_16_code
def yX8_map : MethodName := ⟨RX8, "map", "(III)J"⟩
abbrev cX8_bow : ByteArray := prog_10_method_17_code
def yX8_bow : MethodName := ⟨RX8, "bow", "(IIII)I"⟩
abbrev cX8_dark : ByteArray := prog_10_method_18_code
def yX8_dark : MethodName := ⟨RX8, "dark", "(II)I"⟩
abbrev cX8_wedge : ByteArray := prog_10_method_19_code
def yX8_wedge : MethodName := ⟨RX8, "wedge", "(II)I"⟩
abbrev cX8_hasWedge : ByteArray := prog_10_method_20_code
def yX8_hasWedge : MethodName := ⟨RX8, "hasWedge", "(II)Z"⟩
abbrev cX8_noWedges : ByteArray := prog_10_method_21_code
def yX8_noWedges : MethodName := ⟨RX8, "noWedges", "(I)I"⟩
abbrev cX8_turnedBy : ByteArray := prog_10_method_22_code
def yX8_turnedBy : MethodName := ⟨RX8, "turnedBy", "(III)I"⟩
abbrev cX8_turned : ByteArray := prog_10_method_23_code
def yX8_turned : MethodName := ⟨RX8, "turned", "(III)I"⟩
abbrev cX8_ringOf : ByteArray := prog_10_method_24_code
def yX8_ringOf : MethodName := ⟨RX8, "ringOf", "(II)I"⟩
abbrev cX8_ring : ByteArray := prog_10_method_25_code
def yX8_ring : MethodName := ⟨RX8, "ring", "(II)I"⟩
abbrev cX8_layRings : ByteArray := prog_10_method_26_code
def yX8_layRings : MethodName := ⟨RX8, "layRings", "()V"⟩
abbrev cX8_put : ByteArray := prog_10_method_27_code
def yX8_put : MethodName := ⟨RX8, "put", "(IIII)V"⟩
abbrev cX8_putRing : ByteArray := prog_10_method_28_code
def yX8_putRing : MethodName := ⟨RX8, "putRing", "(III)V"⟩
abbrev cX8_layLights : ByteArray := prog_10_method_29_code
def yX8_layLights : MethodName := ⟨RX8, "layLights", "(II)V"⟩
abbrev cX8_light : ByteArray := prog_10_method_30_code
def yX8_light : MethodName := ⟨RX8, "light", "(IIII)I"⟩
abbrev cX8_mark : ByteArray := prog_10_method_31_code
def yX8_mark : MethodName := ⟨RX8, "mark", "(IIII)I"⟩
abbrev cX8_wipe : ByteArray := prog_10_method_32_code
def yX8_wipe : MethodName := ⟨RX8, "wipe", "()I"⟩
abbrev cX8_meets : ByteArray := prog_10_method_33_code
def yX8_meets : MethodName := ⟨RX8, "meets", "(II)Z"⟩
abbrev cX8_layMet : ByteArray := prog_10_method_34_code
def yX8_layMet : MethodName := ⟨RX8, "layMet", "(I)V"⟩
abbrev cX8_metBy : ByteArray := prog_10_method_35_code
def yX8_metBy : MethodName := ⟨RX8, "metBy", "(I)I"⟩
abbrev cX8_allMarks : ByteArray := prog_10_method_36_code
def yX8_allMarks : MethodName := ⟨RX8, "allMarks", "()I"⟩
abbrev cX8_isAsked : ByteArray := prog_10_method_37_code
def yX8_isAsked : MethodName := ⟨RX8, "isAsked", "(II)Z"⟩
abbrev cX8_explains : ByteArray := prog_10_method_38_code
def yX8_explains : MethodName := ⟨RX8, "explains", "(II)I"⟩
abbrev cX8_bits : ByteArray := prog_10_method_39_code
def yX8_bits : MethodName := ⟨RX8, "bits", "(I)I"⟩
abbrev cX8_fewest : ByteArray := prog_10_method_40_code
def yX8_fewest : MethodName := ⟨RX8, "fewest", "(I)I"⟩
abbrev cX8_owed : ByteArray := prog_10_method_41_code
def yX8_owed : MethodName := ⟨RX8, "owed", "(II)I"⟩
abbrev cX8_never : ByteArray := prog_10_method_42_code
def yX8_never : MethodName := ⟨RX8, "never", "()I"⟩
abbrev cX8_heights : ByteArray := prog_10_method_43_code
def yX8_heights : MethodName := ⟨RX8, "heights", "(II)I"⟩
abbrev cX8_cut : ByteArray := prog_10_method_44_code
def yX8_cut : MethodName := ⟨RX8, "cut", "(II)I"⟩
abbrev cX8_spots : ByteArray := prog_10_method_45_code
def yX8_spots : MethodName := ⟨RX8, "spots", "(II)I"⟩
abbrev cX8_isMade : ByteArray := prog_10_method_46_code
def yX8_isMade : MethodName := ⟨RX8, "isMade", "(I)Z"⟩
abbrev cX8_laySpots : ByteArray := prog_10_method_47_code
def yX8_laySpots : MethodName := ⟨RX8, "laySpots", "(I)V"⟩
abbrev cX8_made : ByteArray := prog_10_method_48_code
def yX8_made : MethodName := ⟨RX8, "made", "(II)I"⟩
abbrev cX8_maker : ByteArray := prog_10_method_49_code
def yX8_maker : MethodName := ⟨RX8, "maker", "(I)I"⟩
abbrev cX8_day : ByteArray := prog_10_method_50_code
def yX8_day : MethodName := ⟨RX8, "day", "(III)I"⟩
abbrev cX8_odds : ByteArray := prog_10_method_51_code
def yX8_odds : MethodName := ⟨RX8, "odds", "(IIIII)I"⟩
abbrev cX8_together : ByteArray := prog_10_method_52_code
def yX8_together : MethodName := ⟨RX8, "together", "(II)I"⟩
abbrev cX8_keep : ByteArray := prog_10_method_53_code
def yX8_keep : MethodName := ⟨RX8, "keep", "()I"⟩
abbrev cX8_back : ByteArray := prog_10_method_54_code
def yX8_back : MethodName := ⟨RX8, "back", "()I"⟩
abbrev cX8_count : ByteArray := prog_10_method_55_code
def yX8_count : MethodName := ⟨RX8, "count", "(I)I"⟩
def RJx8e188 : String := "java/lang/Cloneable"
def RJ6 : String := "java/lang/Integer"
abbrev cJ6_bitCount_0f7a4 : ByteArray := prog_12_method_49_code
def yJ6_bitCount_0f7a4 : MethodName := ⟨RJ6, "bitCount", "(I)I"⟩
def RJ9 : String := "java/lang/Math"
abbrev cJ9_floorMod_7cf53 : ByteArray := prog_13_method_50_code
def yJ9_floorMod_7cf53 : MethodName := ⟨RJ9, "floorMod", "(II)I"⟩
abbrev cJ9_max_7cf53 : ByteArray := prog_13_method_65_code
def yJ9_max_7cf53 : MethodName := ⟨RJ9, "max", "(II)I"⟩
abbrev cJ9_min_7cf53 : ByteArray := prog_13_method_69_code
def yJ9_min_7cf53 : MethodName := ⟨RJ9, "min", "(II)I"⟩
def RJ10 : String := "java/lang/System"
def RJ7 : String := "java/util/Arrays"
abbrev cJ7_fill_d0a16 : ByteArray := prog_15_method_101_code
def yJ7_fill_d0a16 : MethodName := ⟨RJ7, "fill", "([JJ)V"⟩
abbrev cJ7_fill_53178 : ByteArray := prog_15_method_103_code
def yJ7_fill_53178 : MethodName := ⟨RJ7, "fill", "([II)V"⟩
def RL : String := "SunRingsLaw"
abbrev cL_law : ByteArray := code
def yL_law : MethodName := ⟨RL, "law", "([I)Z"⟩
abbrev vwCl : List vw_C := [(RX0, TX0, 3), (RX1, TX1, 4), (RX2, TX2, 4), (RX3, TX3, 3), (RX4, TX4, 2), (RX5, TX5, 2), (RX6, TX6, 5), (RX7, TX7, 8), (RX8, TX8, 29)]
end
section
/-! ===== THE SMALL MACHINE: the cells of the whole system by number; one step of a method's code on them; runs. No heap, no tables: part 03 ties it to the machine ===== -/
/-- what the cells hold: ints (fields and arrays) by cell and place; longs likewise -/
abbrev zH : Type := (Nat → Nat → Int32) × (Nat → Nat → Int64)
def zsi (h : zH) (k j : Nat) (x : Int32) : zH := (fun a b => if a = k ∧ b = j then x else h.1 a b, h.2)
def zsl (h : zH) (k j : Nat) (x : Int64) : zH := (h.1, fun a b => if a = k ∧ b = j then x else h.2 a b)
/-- the shape of a cell: an array (0 int, 1 boolean, 2 long, 3 of Setup: its cells), its length; or an object: its class's number, its fields (a cell, or an int) -/
abbrev zS : Type := (Nat × Nat × List Nat) ⊕ (Nat × List (Option Nat))
def zSetup (k : Nat) : List zS := [.inr (6, [some (k + 1), some (k + 2), some (k + 3), some (k + 4), some (k + 5)]), .inl (0, 30, []), .inl (0, 5, []), .inl (0, 12, []), .inl (0, 4, []), .inl (0, 12, [])]
def zSh : List zS := [
  .inr (7, [some 1, some 7, none, some 26, some 29, some 32, some 35, some 38]),
  .inr (6, [some 2, some 3, some 4, some 5, some 6]), .inl (0, 30, []), .inl (0, 5, []), .inl (0, 12, []), .inl (0, 4, []), .inl (0, 12, []),
  .inl (3, 3, [8, 14, 20]),
  .inr (6, [some 9, some 10, some 11, some 12, some 13]), .inl (0, 30, []), .inl (0, 5, []), .inl (0, 12, []), .inl (0, 4, []), .inl (0, 12, []),
  .inr (6, [some 15, some 16, some 17, some 18, some 19]), .inl (0, 30, []), .inl (0, 5, []), .inl (0, 12, []), .inl (0, 4, []), .inl (0, 12, []),
  .inr (6, [some 21, some 22, some 23, some 24, some 25]), .inl (0, 30, []), .inl (0, 5, []), .inl (0, 12, []), .inl (0, 4, []), .inl (0, 12, []),
  .inr (3, [some 1, some 27, some 28]), .inl (2, 181, []), .inl (2, 181, []),
  .inr (4, [some 1, some 30]), .inr (5, [some 31, none]), .inl (0, 28, []),
  .inr (2, [some 29, some 33, none, some 34]), .inl (0, 48, []), .inl (0, 4096, []),
  .inr (0, [some 29, some 36, some 37]), .inl (0, 12, []), .inl (0, 16, []),
  .inr (1, [some 39, some 40, some 41, none]), .inl (0, 60, []), .inl (0, 60, []), .inl (0, 60, []),
  .inr (8, [some 43, none, none, none, none, none, some 44, some 45, none, some 46, some 47, some 48, some 49, some 50, none, some 51, some 52, some 53, some 54, some 55, some 56, none, some 57, some 58, some 59, some 60, some 61, some 62, none]),
  .inl (0, 30, []), .inl (0, 4, []), .inl (0, 12, []), .inl (0, 12, []), .inl (0, 12, []), .inl (0, 12, []), .inl (0, 12, []), .inl (0, 12, []),
  .inl (0, 60, []), .inl (0, 60, []), .inl (0, 60, []), .inl (2, 181, []), .inl (1, 181, []), .inl (0, 12, []),
  .inl (0, 8, []), .inl (0, 8, []), .inl (0, 8, []), .inl (0, 8, []), .inl (0, 16, []), .inl (0, 153, [])]
abbrev zI : Type := Nat × Instr × Nat
abbrev zRel : Type := List Value → zH → Option Value → zH → Prop
/-- a method: its code; field links (class, field, may be written); static links; constants; long constants; calls (arguments, kind of answer: 0 none, 1 int, 2 long; the receiver's class; what it does); arrays that nobody writes -/
abbrev zM : Type := List zI × List (Nat × Nat × Nat × Bool) × List (Nat × Nat) × List (Nat × Int32) × List (Nat × Int64) × List (Nat × Nat × Nat × Option Nat × zRel) × List (Nat × Nat × (Nat → Int32))
def zlk0 {α : Type} : List (Nat × α) → Nat → Option α
  | [], _ => none
  | (a, b) :: l, i => match Nat.beq a i with
    | true => some b
    | false => zlk0 l i
theorem zlk0_mem {α : Type} : ∀ {l : List (Nat × α)} {i : Nat} {b : α}, zlk0 l i = some b → (i, b) ∈ l
  | [], _, _, h => by simp [zlk0] at h
  | (a, c) :: l, i, b, h => by
    unfold zlk0 at h
    split at h
    next e => cases h; rw [Nat.eq_of_beq_eq_true e]; exact List.mem_cons_self
    next => exact List.mem_cons_of_mem _ (zlk0_mem h)
/-- where a jump leads -/
def zj (cd : List zI) (pc : Nat) (off : Int) : List zI := match (pc : Int) + off with
  | .ofNat t => cd.dropWhile (fun e => !(Nat.beq e.1 t))
  | .negSucc _ => []
def zc (c : ClassFile.Cond) (x y : Int32) : Prop := match c with
  | .eq => x = y
  | .ne => ¬ x = y
  | .lt => x < y
  | .ge => y ≤ x
  | .gt => y < x
  | .le => x ≤ y
def zcs : List Value → Nat
  | [] => 0
  | v :: l => v.category + zcs l
def zsw (cd : List zI) (pc : Nat) (x : Int32) (k : List zI → Prop) : Int → List Int → Prop
  | _, [] => True
  | lo, o :: os => (x.toInt = lo → k (zj cd pc o)) ∧ zsw cd pc x k (lo + 1) os
/-- the receiver is an object of that class -/
def zrcv (o : Option Nat) (as : List Value) : Bool := match o with
  | none => true
  | some ci => match as with
    | .ref a :: _ => match zSh[a]? with
      | some (.inr (ci', _)) => Nat.beq ci ci'
      | _ => false
    | _ => false
def zcall (vt : Bool) (c : Option (Nat × Nat × Option Nat × zRel)) (tl : List zI) (ls : List (Option Value)) (st : List Value) (h : zH) (k : List zI → List (Option Value) → List Value → zH → Prop) : Prop := match c with
  | some (n, kd, o, Rl) => match Nat.ble (zcs (st.drop n)) 8 && (Nat.beq (st.take n).length n && ((o.isSome == vt) && zrcv o (st.take n).reverse)) with
    | true => match kd with
      | 0 => ∃ h' : zH, Rl (st.take n).reverse h none h' ∧ k tl ls (st.drop n) h'
      | 1 => ∃ (v : Int32) (h' : zH), Rl (st.take n).reverse h (some (.int v)) h' ∧ k tl ls (.int v :: st.drop n) h'
      | 2 => ∃ (v : Int64) (h' : zH), Rl (st.take n).reverse h (some (.long v)) h' ∧ k tl ls (.long v :: st.drop n) h'
      | _ => False
    | false => False
  | none => False
/-- no long stands ahead of local i -/
def znl (ls : List (Option Value)) (i : Nat) : Bool := match ls[i - 1]? with
  | some (some v) => Nat.beq v.category 1
  | _ => true
/-- one instruction -/
def zst (M : zM) (post : Option Value → zH → Prop) (pc : Nat) (ins : Instr) (tl : List zI) (ls : List (Option Value)) (st : List Value) (h : zH) (k : List zI → List (Option Value) → List Value → zH → Prop) : Prop := match ins with
  | .iload_n i => match ls[i.val]? with
    | some (some (.int x)) => k tl ls (.int x :: st) h
    | _ => False
  | .iload i => match ls[i]? with
    | some (some (.int x)) => k tl ls (.int x :: st) h
    | _ => False
  | .aload_n i => match ls[i.val]? with
    | some (some (.ref x)) => k tl ls (.ref x :: st) h
    | _ => False
  | .aload i => match ls[i]? with
    | some (some (.ref x)) => k tl ls (.ref x :: st) h
    | _ => False
  | .lload_n i => match ls[i.val]? with
    | some (some (.long x)) => k tl ls (.long x :: st) h
    | _ => False
  | .istore_n i => match st with
    | .int x :: st => match Nat.blt i.val ls.length && znl ls i.val with
      | true => k tl (ls.set i.val (some (.int x))) st h
      | false => False
    | _ => False
  | .istore i => match st with
    | .int x :: st => match Nat.blt i ls.length && znl ls i with
      | true => k tl (ls.set i (some (.int x))) st h
      | false => False
    | _ => False
  | .iinc i n => match ls[i]? with
    | some (some (.int x)) => match znl ls i with
      | true => k tl (ls.set i (some (.int (x + Int32.ofInt n)))) st h
      | false => False
    | _ => False
  | .iconst n => k tl ls (.int (Int32.ofInt n) :: st) h
  | .bipush n => k tl ls (.int (Int8.ofInt n).toInt32 :: st) h
  | .sipush n => k tl ls (.int (Int16.ofInt n).toInt32 :: st) h
  | .lconst n => k tl ls (.long (Int64.ofNat n.val) :: st) h
  | .ldc i => match zlk0 M.2.2.2.1 i with
    | some v => k tl ls (.int v :: st) h
    | none => False
  | .ldc_w i => match zlk0 M.2.2.2.1 i with
    | some v => k tl ls (.int v :: st) h
    | none => False
  | .ldc2_w i => match zlk0 M.2.2.2.2.1 i with
    | some v => k tl ls (.long v :: st) h
    | none => False
  | .iadd => match st with
    | .int y :: .int x :: st => k tl ls (.int (x + y) :: st) h
    | _ => False
  | .isub => match st with
    | .int y :: .int x :: st => k tl ls (.int (x - y) :: st) h
    | _ => False
  | .imul => match st with
    | .int y :: .int x :: st => k tl ls (.int (x * y) :: st) h
    | _ => False
  | .idiv => match st with
    | .int y :: .int x :: st => ¬ y = 0 ∧ k tl ls (.int (x / y) :: st) h
    | _ => False
  | .irem => match st with
    | .int y :: .int x :: st => ¬ y = 0 ∧ k tl ls (.int (x - x / y * y) :: st) h
    | _ => False
  | .iand => match st with
    | .int y :: .int x :: st => k tl ls (.int (x &&& y) :: st) h
    | _ => False
  | .ior => match st with
    | .int y :: .int x :: st => k tl ls (.int (x ||| y) :: st) h
    | _ => False
  | .ixor => match st with
    | .int y :: .int x :: st => k tl ls (.int (x ^^^ y) :: st) h
    | _ => False
  | .ishl => match st with
    | .int y :: .int x :: st => k tl ls (.int (x <<< (y &&& 31)) :: st) h
    | _ => False
  | .ishr => match st with
    | .int y :: .int x :: st => k tl ls (.int (x >>> (y &&& 31)) :: st) h
    | _ => False
  | .iushr => match st with
    | .int y :: .int x :: st => k tl ls (.int (x.toUInt32 >>> (y.toUInt32 &&& Int32.toUInt32 31)).toInt32 :: st) h
    | _ => False
  | .ladd => match st with
    | .long y :: .long x :: st => k tl ls (.long (x + y) :: st) h
    | _ => False
  | .lmul => match st with
    | .long y :: .long x :: st => k tl ls (.long (x * y) :: st) h
    | _ => False
  | .i2l => match st with
    | .int x :: st => k tl ls (.long x.toInt64 :: st) h
    | _ => False
  | .lcmp => match st with
    | .long y :: .long x :: st => k tl ls (.int (lg_cmp x y) :: st) h
    | _ => False
  | .dup => match st with
    | .int x :: st => k tl ls (.int x :: .int x :: st) h
    | .ref x :: st => k tl ls (.ref x :: .ref x :: st) h
    | _ => False
  | .dup2 => match st with
    | .int y :: .ref x :: st => k tl ls (.int y :: .ref x :: .int y :: .ref x :: st) h
    | _ => False
  | .ifCond c off => match st with
    | .int x :: st => (zc c x 0 → k (zj M.1 pc off) ls st h) ∧ (¬ zc c x 0 → k tl ls st h)
    | _ => False
  | .if_icmp c off => match st with
    | .int y :: .int x :: st => (zc c x y → k (zj M.1 pc off) ls st h) ∧ (¬ zc c x y → k tl ls st h)
    | _ => False
  | .goto off => k (zj M.1 pc off) ls st h
  | .tableswitch d lo hi offs => match st with
    | .int x :: st => (x.toInt < lo ∨ hi < x.toInt → k (zj M.1 pc d) ls st h) ∧ zsw M.1 pc x (fun q => k q ls st h) lo offs.toList
    | _ => False
  | .ireturn => match st with
    | [.int v] => post (some (.int v)) h
    | _ => False
  | .lreturn => match st with
    | [.long v] => post (some (.long v)) h
    | _ => False
  | .return_ => match st with
    | [] => post none h
    | _ => False
  | .getfield i => match st with
    | .ref a :: st => match zlk0 M.2.1 i with
      | some (ci, j, _) => match zSh[a]? with
        | some (.inr (ci', fs)) => match Nat.beq ci ci' with
          | true => match fs[j]? with
            | some (some r) => k tl ls (.ref r :: st) h
            | some none => k tl ls (.int (h.1 a j) :: st) h
            | none => False
          | false => False
        | _ => False
      | none => False
    | _ => False
  | .putfield i => match st with
    | .int x :: .ref a :: st => match zlk0 M.2.1 i with
      | some (ci, j, true) => match zSh[a]? with
        | some (.inr (ci', fs)) => match Nat.beq ci ci' with
          | true => match fs[j]? with
            | some none => k tl ls st (zsi h a j x)
            | _ => False
          | false => False
        | _ => False
      | _ => False
    | _ => False
  | .getstatic i => match zlk0 M.2.2.1 i with
    | some a => k tl ls (.ref a :: st) h
    | none => False
  | .iaload => match st with
    | .int i :: .ref a :: st => match zSh[a]? with
      | some (.inl (0, n, _)) => vp_in i n ∧ k tl ls (.int (h.1 a i.toNatClampNeg) :: st) h
      | none => match zlk0 M.2.2.2.2.2.2 a with
        | some (n, f) => vp_in i n ∧ k tl ls (.int (f i.toNatClampNeg) :: st) h
        | none => False
      | _ => False
    | _ => False
  | .iastore => match st with
    | .int x :: .int i :: .ref a :: st => match zSh[a]? with
      | some (.inl (0, n, _)) => vp_in i n ∧ k tl ls st (zsi h a i.toNatClampNeg x)
      | _ => False
    | _ => False
  | .baload => match st with
    | .int i :: .ref a :: st => match zSh[a]? with
      | some (.inl (1, n, _)) => vp_in i n ∧ k tl ls (.int (h.1 a i.toNatClampNeg) :: st) h
      | _ => False
    | _ => False
  | .bastore => match st with
    | .int x :: .int i :: .ref a :: st => match zSh[a]? with
      | some (.inl (1, n, _)) => vp_in i n ∧ k tl ls st (zsi h a i.toNatClampNeg (vp_nar .boolean x))
      | _ => False
    | _ => False
  | .laload => match st with
    | .int i :: .ref a :: st => match zSh[a]? with
      | some (.inl (2, n, _)) => vp_in i n ∧ k tl ls (.long (h.2 a i.toNatClampNeg) :: st) h
      | _ => False
    | _ => False
  | .lastore => match st with
    | .long x :: .int i :: .ref a :: st => match zSh[a]? with
      | some (.inl (2, n, _)) => vp_in i n ∧ k tl ls st (zsl h a i.toNatClampNeg x)
      | _ => False
    | _ => False
  | .aaload => match st with
    | .int i :: .ref a :: st => match zSh[a]? with
      | some (.inl (3, n, rs)) => vp_in i n ∧ match rs[i.toNatClampNeg]? with
        | some r => k tl ls (.ref r :: st) h
        | none => False
      | _ => False
    | _ => False
  | .arraylength => match st with
    | .ref a :: st => match zSh[a]? with
      | some (.inl (0, n, _)) => k tl ls (.int (Int32.ofNat n) :: st) h
      | some (.inl (2, n, _)) => k tl ls (.int (Int32.ofNat n) :: st) h
      | none => match zlk0 M.2.2.2.2.2.2 a with
        | some (n, _) => k tl ls (.int (Int32.ofNat n) :: st) h
        | none => False
      | _ => False
    | _ => False
  | .invokevirtual i => zcall true (zlk0 M.2.2.2.2.2.1 i) tl ls st h k
  | .invokestatic i => zcall false (zlk0 M.2.2.2.2.2.1 i) tl ls st h k
  | _ => False
def zstL (M : zM) (post : Option Value → zH → Prop) (is : List zI) (ls : List (Option Value)) (st : List Value) (h : zH) (k : List zI → List (Option Value) → List Value → zH → Prop) : Prop := match is with
  | [] => False
  | (pc, ins, _) :: tl => zst M post pc ins tl ls st h k
/-- from here the method comes to its end, with post: the least that holds wherever one step leads to where it holds -/
def zG (M : zM) (post : Option Value → zH → Prop) (is : List zI) (ls : List (Option Value)) (st : List Value) (h : zH) : Prop := ∀ P : List zI → List (Option Value) → List Value → zH → Prop, (∀ is ls st h, zstL M post is ls st h P → P is ls st h) → P is ls st h
def zarg : List Value → List (Option Value)
  | [] => []
  | .long x :: vs => some (.long x) :: none :: zarg vs
  | v :: vs => some v :: zarg vs
def zini (nL : Nat) (as : List Value) : List (Option Value) := zarg as ++ List.replicate (nL - (zarg as).length) none
def znd : List Value → Bool
  | [] => true
  | .double _ :: _ => false
  | _ :: vs => znd vs
/-- the kind of an answer -/
def zkd (ret : Option FieldType) (r : Option Value) : Prop := match ret with
  | none => r = none
  | some .long => ∃ v, r = some (.long v)
  | some .int => ∃ v, r = some (.int v)
  | some .boolean => r = some (.int 0) ∨ r = some (.int 1)
  | _ => False
/-- what a method does -/
def zR (M : zM) (nL : Nat) (ret : Option FieldType) : zRel := fun as h r h' => (Nat.ble (zarg as).length nL && znd as) = true ∧ zkd ret r ∧ zG M (fun r1 h1 => r1 = r ∧ h1 = h') M.1 (zini nL as) [] h
/-- System.arraycopy between int arrays -/
def zcpy (h : zH) (a0 sp a1 dp n : Nat) : zH := (fun a b => if a = a1 then va_cpy (h.1 a0) (h.1 a1) sp dp n b else h.1 a b, h.2)
def zAC : zRel := fun as h r h' => ∃ (a0 a1 n0 n1 : Nat) (sp dp n : Int32), as = [.ref a0, .int sp, .ref a1, .int dp, .int n] ∧ zSh[a0]? = some (.inl (0, n0, [])) ∧ zSh[a1]? = some (.inl (0, n1, [])) ∧ ¬ sp < 0 ∧ ¬ dp < 0 ∧ ¬ n < 0 ∧ sp.toNatClampNeg + n.toNatClampNeg ≤ n0 ∧ dp.toNatClampNeg + n.toNatClampNeg ≤ n1 ∧ r = none ∧ h' = zcpy h a0 sp.toNatClampNeg a1 dp.toNatClampNeg n.toNatClampNeg
theorem zsw_mono {cd : List zI} {pc : Nat} {x : Int32} {k k' : List zI → Prop} (hk : ∀ q, k q → k' q) : ∀ (os : List Int) (lo : Int), zsw cd pc x k lo os → zsw cd pc x k' lo os
  | [], _, _ => trivial
  | _ :: os, lo, hs => ⟨fun z => hk _ (hs.1 z), zsw_mono hk os (lo + 1) hs.2⟩
theorem zcall_mono {vt : Bool} {c : Option (Nat × Nat × Option Nat × zRel)} {tl : List zI} {ls : List (Option Value)} {st : List Value} {h : zH} {k k' : List zI → List (Option Value) → List Value → zH → Prop} (hk : ∀ is ls st h, k is ls st h → k' is ls st h) : zcall vt c tl ls st h k → zcall vt c tl ls st h k' := by
  unfold zcall
  repeat' split
  all_goals first
    | exact fun hs => hs
    | exact fun ⟨h', a, b⟩ => ⟨h', a, hk _ _ _ _ b⟩
    | exact fun ⟨v, h', a, b⟩ => ⟨v, h', a, hk _ _ _ _ b⟩
set_option maxHeartbeats 4000000 in
theorem zst_mono {M : zM} {post : Option Value → zH → Prop} {pc : Nat} {ins : Instr} {tl : List zI} {ls : List (Option Value)} {st : List Value} {h : zH} {k k' : List zI → List (Option Value) → List Value → zH → Prop} (hk : ∀ is ls st h, k is ls st h → k' is ls st h) : zst M post pc ins tl ls st h k → zst M post pc ins tl ls st h k' := by
  unfold zst
  repeat' split
  all_goals first
    | exact fun hs => hs
    | exact fun hs => hk _ _ _ _ hs
    | exact fun hs => ⟨hs.1, hk _ _ _ _ hs.2⟩
    | exact fun hs => ⟨fun z => hk _ _ _ _ (hs.1 z), fun z => hk _ _ _ _ (hs.2 z)⟩
    | exact fun hs => ⟨fun z => hk _ _ _ _ (hs.1 z), zsw_mono (fun q => hk q _ _ _) _ _ hs.2⟩
    | exact zcall_mono hk
theorem zstL_mono {M : zM} {post : Option Value → zH → Prop} {is : List zI} {ls : List (Option Value)} {st : List Value} {h : zH} {k k' : List zI → List (Option Value) → List Value → zH → Prop} (hk : ∀ is ls st h, k is ls st h → k' is ls st h) : zstL M post is ls st h k → zstL M post is ls st h k' := by
  unfold zstL
  split
  · exact id
  · exact zst_mono hk
/-- one step -/
theorem zG_step {M : zM} {post : Option Value → zH → Prop} {is : List zI} {ls : List (Option Value)} {st : List Value} {h : zH} (hs : zstL M post is ls st h (zG M post)) : zG M post is ls st h := fun P hP => hP is ls st h (zstL_mono (fun _ _ _ _ g => g P hP) hs)
/-- fewer locals known -/
def zle (ls ls' : List (Option Value)) : Prop := ls.length = ls'.length ∧ (∀ (i : Nat) (v : Value), ls[i]? = some (some v) → ls'[i]? = some (some v)) ∧ ∀ (i : Nat) (v : Value), ls'[i]? = some (some v) → ls[i]? = some (some v) ∨ v.category = 1
theorem zle_set {ls ls' : List (Option Value)} (hl : zle ls ls') (i : Nat) (v : Value) : zle (ls.set i (some v)) (ls'.set i (some v)) := by
  obtain ⟨h1, h2, h3⟩ := hl
  refine ⟨by simp [h1], fun j w hj => ?_, fun j w hj => ?_⟩
  · by_cases hji : i = j
    · subst hji
      have hlt : i < ls.length := by have := (List.getElem?_eq_some_iff.mp hj).1; simpa using this
      rw [List.getElem?_set_self hlt] at hj
      rw [List.getElem?_set_self (by omega)]
      exact hj
    · rw [List.getElem?_set_ne hji] at hj ⊢
      exact h2 j w hj
  · by_cases hji : i = j
    · subst hji
      have hlt : i < ls'.length := by have := (List.getElem?_eq_some_iff.mp hj).1; simpa using this
      rw [List.getElem?_set_self hlt] at hj
      rw [List.getElem?_set_self (by omega)]
      exact Or.inl hj
    · rw [List.getElem?_set_ne hji] at hj ⊢
      exact h3 j w hj
theorem zle_znl {ls ls' : List (Option Value)} (hl : zle ls ls') {i : Nat} (h : znl ls i = true) : znl ls' i = true := by
  unfold znl at h ⊢
  split
  · next v hv =>
    rcases hl.2.2 _ _ hv with h1 | h1
    · rw [h1] at h; exact h
    · rw [h1]; rfl
  · rfl
theorem zle_blt {ls ls' : List (Option Value)} (hl : zle ls ls') {i : Nat} (h : (Nat.blt i ls.length && znl ls i) = true) : (Nat.blt i ls'.length && znl ls' i) = true := by
  obtain ⟨a, b⟩ := Bool.and_eq_true_iff.mp h
  rw [← hl.1, a, zle_znl hl b]; rfl
theorem zcall_le {vt : Bool} {c : Option (Nat × Nat × Option Nat × zRel)} {tl : List zI} {ls ls' : List (Option Value)} {st : List Value} {h : zH} {k k' : List zI → List (Option Value) → List Value → zH → Prop} (hk : ∀ is st h, k is ls st h → k' is ls' st h) : zcall vt c tl ls st h k → zcall vt c tl ls' st h k' := by
  unfold zcall
  repeat' split
  all_goals first
    | exact fun hs => hs
    | exact fun ⟨h', a, b⟩ => ⟨h', a, hk _ _ _ b⟩
    | exact fun ⟨v, h', a, b⟩ => ⟨v, h', a, hk _ _ _ b⟩
set_option maxHeartbeats 4000000 in
theorem zst_le {M : zM} {post : Option Value → zH → Prop} {pc : Nat} {ins : Instr} {tl : List zI} {ls ls' : List (Option Value)} {st : List Value} {h : zH} {k k' : List zI → List (Option Value) → List Value → zH → Prop} (hl : zle ls ls') (hk : ∀ is la lb st h, zle la lb → k is la st h → k' is lb st h) : zst M post pc ins tl ls st h k → zst M post pc ins tl ls' st h k' := by
  have hk2 : ∀ is st h, k is ls st h → k' is ls' st h := fun is st h q => hk is ls ls' st h hl q
  unfold zst
  cases ins
  case iload_n i => dsimp only; intro hs; split at hs; · next x hi => rw [hl.2.1 _ _ hi]; exact hk2 _ _ _ hs
                    · exact hs.elim
  case iload i => dsimp only; intro hs; split at hs; · next x hi => rw [hl.2.1 _ _ hi]; exact hk2 _ _ _ hs
                  · exact hs.elim
  case aload_n i => dsimp only; intro hs; split at hs; · next x hi => rw [hl.2.1 _ _ hi]; exact hk2 _ _ _ hs
                    · exact hs.elim
  case aload i => dsimp only; intro hs; split at hs; · next x hi => rw [hl.2.1 _ _ hi]; exact hk2 _ _ _ hs
                  · exact hs.elim
  case lload_n i => dsimp only; intro hs; split at hs; · next x hi => rw [hl.2.1 _ _ hi]; exact hk2 _ _ _ hs
                    · exact hs.elim
  case istore_n i => dsimp only; intro hs; split at hs; · split at hs
                                                          · next hb => rw [zle_blt hl hb]; exact hk _ _ _ _ _ (zle_set hl _ _) hs
                                                          · exact hs.elim
                     · exact hs.elim
  case istore i => dsimp only; intro hs; split at hs; · split at hs
                                                        · next hb => rw [zle_blt hl hb]; exact hk _ _ _ _ _ (zle_set hl _ _) hs
                                                        · exact hs.elim
                   · exact hs.elim
  case iinc i n => dsimp only; intro hs; split at hs; · next x hi =>
                                                        split at hs
                                                        · next hb => rw [hl.2.1 _ _ hi]; dsimp only; rw [zle_znl hl hb]; exact hk _ _ _ _ _ (zle_set hl _ _) hs
                                                        · exact hs.elim
                   · exact hs.elim
  all_goals dsimp only
  all_goals repeat' split
  all_goals first
    | exact fun hs => hs
    | exact fun hs => hk2 _ _ _ hs
    | exact fun hs => ⟨hs.1, hk2 _ _ _ hs.2⟩
    | exact fun hs => ⟨fun z => hk2 _ _ _ (hs.1 z), fun z => hk2 _ _ _ (hs.2 z)⟩
    | exact fun hs => ⟨fun z => hk2 _ _ _ (hs.1 z), zsw_mono (fun q => hk2 q _ _) _ _ hs.2⟩
    | exact zcall_le hk2
theorem zG_le {M : zM} {post : Option Value → zH → Prop} {is : List zI} {ls ls' : List (Option Value)} {st : List Value} {h : zH} (hl : zle ls ls') (hg : zG M post is ls st h) : zG M post is ls' st h := by
  refine hg (fun is ls st h => ∀ ls', zle ls ls' → zG M post is ls' st h) ?_ ls' hl
  intro is ls st h hs ls' hl
  refine zG_step ?_
  cases is with
  | nil => exact hs.elim
  | cons q tl =>
    obtain ⟨pc, ins, len⟩ := q
    exact zst_le (k := fun is ls st h => ∀ ls', zle ls ls' → zG M post is ls' st h) (k' := zG M post) hl (fun is la lb st h hl q => q lb hl) hs
def zdr : Option Value → Option Value
  | some (.int _) => none
  | some (.ref _) => none
  | o => o
def zmask : List Bool → List (Option Value) → List (Option Value)
  | false :: m, x :: ls => zdr x :: zmask m ls
  | true :: m, x :: ls => x :: zmask m ls
  | _, ls => ls
theorem zmask_le : ∀ (m : List Bool) (ls : List (Option Value)), zle (zmask m ls) ls
  | [], ls => ⟨rfl, fun _ _ h => h, fun _ _ h => Or.inl h⟩
  | true :: _, [] => ⟨rfl, fun _ _ h => h, fun _ _ h => Or.inl h⟩
  | false :: _, [] => ⟨rfl, fun _ _ h => h, fun _ _ h => Or.inl h⟩
  | true :: m, x :: ls => by
    obtain ⟨h1, h2, h3⟩ := zmask_le m ls
    refine ⟨by simp [zmask, h1], fun i v h => ?_, fun i v h => ?_⟩
    · cases i with
      | zero => exact h
      | succ i => exact h2 i v h
    · cases i with
      | zero => exact Or.inl h
      | succ i => exact h3 i v h
  | false :: m, x :: ls => by
    obtain ⟨h1, h2, h3⟩ := zmask_le m ls
    refine ⟨by simp [zmask, h1], fun i v h => ?_, fun i v h => ?_⟩
    · cases i with
      | zero =>
        simp only [zmask, List.getElem?_cons_zero, Option.some.injEq] at h ⊢
        cases x with
        | none => cases h
        | some w => cases w <;> first | exact h | cases h
      | succ i => exact h2 i v h
    · cases i with
      | zero =>
        simp only [zmask, List.getElem?_cons_zero, Option.some.injEq] at h ⊢
        subst h
        cases v <;> first | exact Or.inl rfl | exact Or.inr rfl
      | succ i => exact h3 i v h
/-- many steps, up to the places of cuts; what is known of the locals there -/
def zcut (cuts : List (Nat × List Bool)) : List zI → Option (List Bool)
  | [] => none
  | (pc, _, _) :: _ => zlk0 cuts pc
def zsg (M : zM) (post : Option Value → zH → Prop) (cuts : List (Nat × List Bool)) : Nat → List zI → List (Option Value) → List Value → zH → Prop
  | 0, is, ls, st, h => zG M post is ls st h
  | n + 1, is, ls, st, h => zstL M post is ls st h (fun is ls st h => match zcut cuts is with
    | some m => zG M post is (zmask m ls) st h
    | none => zsg M post cuts n is ls st h)
theorem zsg_sound {M : zM} {post : Option Value → zH → Prop} {cuts : List (Nat × List Bool)} : ∀ (n : Nat) {is : List zI} {ls : List (Option Value)} {st : List Value} {h : zH}, zsg M post cuts n is ls st h → zG M post is ls st h
  | 0, _, _, _, _, hs => hs
  | n + 1, _, _, _, _, hs => zG_step (zstL_mono (fun is ls st h q => by
    split at q
    · exact zG_le (zmask_le _ _) q
    · exact zsg_sound n q) hs)
/-- what stands at a place of the code -/
def zat (M : zM) (pc : Nat) : List zI := M.1.dropWhile (fun e => !(Nat.beq e.1 pc))
end
section
/-! ===== THE SMALL MACHINE SPEAKS TRUE: a run of it is a walk of the machine ===== -/
def zv (ad : Nat → Nat) : Value → Value
  | .ref k => .ref (ad k)
  | v => v
theorem zv_cat (ad : Nat → Nat) (v : Value) : (zv ad v).category = v.category := by cases v <;> rfl
def zF (ad : Nat → Nat) (h : zH) (k : Nat) (fs : List (Option Nat)) : List Value := fs.mapIdx (fun j f => match f with
  | some r => .ref (ad r)
  | none => .int (h.1 k j))
def zE (ca : Nat → ClassId) (ad : Nat → Nat) (h : zH) (k : Nat) : zS → va_E
  | .inl (2, n, _) => .inl (ca 2, n, .inr (.inl (h.2 k)))
  | .inl (3, n, rs) => .inl (ca 3, n, .inr (.inr (.inr (.inr (fun i => (rs[i]?).map ad)))))
  | .inl (t, n, _) => .inl (ca t, n, .inl (h.1 k))
  | .inr (ci, fs) => .inr (ci, zF ad h k fs)
def zW (ca : Nat → ClassId) (ad : Nat → Nat) (h : zH) : va_W := zSh.mapIdx (fun k sh => (ad k, zE ca ad h k sh))
def zT (ca : Nat → ClassId) : List (ClassId × FieldType) := [(ca 0, .int), (ca 1, .boolean), (ca 2, .long), (ca 3, .object RX6)]
theorem zW_get {ca : Nat → ClassId} {ad : Nat → Nat} {h : zH} {k : Nat} {sh : zS} (hk : zSh[k]? = some sh) : (zW ca ad h)[k]? = some (ad k, zE ca ad h k sh) := by
  unfold zW
  rw [List.getElem?_mapIdx, hk]
  rfl
theorem zF_congr {ad : Nat → Nat} {h h' : zH} {k : Nat} (h1 : h.1 k = h'.1 k) (fs : List (Option Nat)) : zF ad h k fs = zF ad h' k fs := by
  unfold zF
  rw [h1]
theorem zE_congr {ca : Nat → ClassId} {ad : Nat → Nat} {h h' : zH} {k : Nat} (h1 : h.1 k = h'.1 k) (h2 : h.2 k = h'.2 k) (sh : zS) : zE ca ad h k sh = zE ca ad h' k sh := by
  unfold zE
  split <;> simp only [h1, h2, zF_congr h1]
theorem zW_set {ca : Nat → ClassId} {ad : Nat → Nat} {h h' : zH} {k : Nat} {sh : zS} {e : va_E} (hk : zSh[k]? = some sh) (he : zE ca ad h' k sh = e) (ho : ∀ q, q ≠ k → h.1 q = h'.1 q ∧ h.2 q = h'.2 q) : (zW ca ad h).set k (ad k, e) = zW ca ad h' := by
  apply List.ext_getElem?
  intro i
  by_cases hi : i = k
  · subst hi
    have hl : i < (zW ca ad h).length := (List.getElem?_eq_some_iff.mp (zW_get (ca := ca) (ad := ad) (h := h) hk)).1
    rw [List.getElem?_set_self hl, zW_get hk, he]
  · rw [List.getElem?_set_ne (Ne.symm hi)]
    unfold zW
    rw [List.getElem?_mapIdx, List.getElem?_mapIdx]
    cases zSh[i]? with
    | none => rfl
    | some sh2 =>
      obtain ⟨q1, q2⟩ := ho i hi
      simp only [Option.map_some, zE_congr q1 q2]
theorem zsi_off (h : zH) (k j : Nat) (x : Int32) : ∀ q, q ≠ k → h.1 q = (zsi h k j x).1 q ∧ h.2 q = (zsi h k j x).2 q := by
  intro q hq
  refine ⟨?_, rfl⟩
  funext b
  simp [zsi, hq]
theorem zsl_off (h : zH) (k j : Nat) (x : Int64) : ∀ q, q ≠ k → h.1 q = (zsl h k j x).1 q ∧ h.2 q = (zsl h k j x).2 q := by
  intro q hq
  refine ⟨rfl, ?_⟩
  funext b
  simp [zsl, hq]
theorem zsi_at (h : zH) (k j : Nat) (x : Int32) : (zsi h k j x).1 k = upd (h.1 k) j x := by
  funext b
  simp [zsi, upd]
theorem zsl_at (h : zH) (k j : Nat) (x : Int64) : (zsl h k j x).2 k = vp_updL (h.2 k) j x := by
  funext b
  simp [zsl, vp_updL]
theorem zF_set {ad : Nat → Nat} {h : zH} {k j : Nat} {x : Int32} {fs : List (Option Nat)} (hj : fs[j]? = some none) : (zF ad h k fs).set j (.int x) = zF ad (zsi h k j x) k fs := by
  have hl : j < fs.length := (List.getElem?_eq_some_iff.mp hj).1
  apply List.ext_getElem?
  intro i
  by_cases hi : i = j
  · subst hi
    rw [List.getElem?_set_self (by simp [zF, hl])]
    simp [zF, List.getElem?_mapIdx, hj, zsi]
  · rw [List.getElem?_set_ne (Ne.symm hi)]
    simp only [zF, List.getElem?_mapIdx]
    cases fs[i]? with
    | none => rfl
    | some f => cases f <;> simp [zsi, hi]
def zInv (D : va_G) (ca : Nat → ClassId) (ad : Nat → Nat) (A : Nat → Prop) (H0 : Heap) (h : zH) (H : Heap) (locs : List Loc) : Prop := va_P D vwCl (zW ca ad h) H ∧ va_D A (zW ca ad h) ∧ va_S A H0 H locs
/-! the locals -/
def zl (ad : Nat → Nat) (ls : List (Option Value)) : List (Nat × Value) := ls.zipIdx.filterMap (fun q => q.1.map (fun v => (q.2, zv ad v)))
theorem zl_mem {ad : Nat → Nat} {ls : List (Option Value)} {q : Nat × Value} : q ∈ zl ad ls ↔ ∃ (i : Nat) (v : Value), ls[i]? = some (some v) ∧ q = (i, zv ad v) := by
  unfold zl
  rw [List.mem_filterMap]
  constructor
  · rintro ⟨⟨o, i⟩, hm, ho⟩
    rw [List.mem_zipIdx_iff_getElem?] at hm
    cases o with
    | none => cases ho
    | some v => exact ⟨i, v, hm, (Option.some.inj ho).symm⟩
  · rintro ⟨i, v, hi, rfl⟩
    exact ⟨(some v, i), List.mem_zipIdx_iff_getElem?.mpr hi, rfl⟩
def zLo (ad : Nat → Nat) (nL : Nat) (la : Array Slot) (ls : List (Option Value)) : Prop := lv_has la nL (zl ad ls) ∧ ls.length = nL
theorem zLo_at {ad : Nat → Nat} {nL : Nat} {la : Array Slot} {ls : List (Option Value)} (hl : zLo ad nL la ls) {i : Nat} {v : Value} (hi : ls[i]? = some (some v)) : la[i]? = some (.val (zv ad v)) := hl.1.2.2 (i, zv ad v) (zl_mem.mpr ⟨i, v, hi, rfl⟩)
theorem zLo_set {ad : Nat → Nat} {nL : Nat} {la la' : Array Slot} {ls : List (Option Value)} (hl : zLo ad nL la ls) {i : Nat} {v : Value} (hz : znl ls i = true) (h' : lv_has la' nL ((i, zv ad v) :: (zl ad ls).filter (fun q => !(q.1 == i) && !(q.1 + 1 == i && q.2.category == 2)))) : zLo ad nL la' (ls.set i (some v)) := by
  refine ⟨⟨h'.1, h'.2.1, fun q hq => ?_⟩, by rw [List.length_set]; exact hl.2⟩
  obtain ⟨j, w, hj, rfl⟩ := zl_mem.mp hq
  by_cases hji : j = i
  · subst hji
    have hlt : j < ls.length := by
      have := (List.getElem?_eq_some_iff.mp hj).1
      simpa using this
    rw [List.getElem?_set_self hlt] at hj
    cases hj
    exact h'.2.2 _ List.mem_cons_self
  · rw [List.getElem?_set_ne (Ne.symm hji)] at hj
    refine h'.2.2 _ (List.mem_cons_of_mem _ (List.mem_filter.mpr ⟨zl_mem.mpr ⟨j, w, hj, rfl⟩, ?_⟩))
    by_cases hj1 : j + 1 = i
    · subst hj1
      unfold znl at hz
      rw [Nat.add_sub_cancel, hj] at hz
      have hw : w.category = 1 := Nat.eq_of_beq_eq_true hz
      simp [zv_cat, hw]
    · simp [hji, hj1]
/-! the code -/
def zln : Instr → Nat
  | .iload _ => 2
  | .istore _ => 2
  | .aload _ => 2
  | .bipush _ => 2
  | .ldc _ => 2
  | .sipush _ => 3
  | .ldc2_w _ => 3
  | .ldc_w _ => 3
  | .iinc _ _ => 3
  | .ifCond _ _ => 3
  | .if_icmp _ _ => 3
  | .goto _ => 3
  | .getfield _ => 3
  | .putfield _ => 3
  | .getstatic _ => 3
  | .invokevirtual _ => 3
  | .invokestatic _ => 3
  | _ => 1
def zlo : Nat → Instr → Nat → Bool
  | _, .tableswitch _ lo hi offs, _ => decide (hi < lo + (offs.size : Int))
  | pc, .ifCond _ o, n => Nat.beq n 3 && decide (0 ≤ (pc : Int) + o)
  | pc, .if_icmp _ o, n => Nat.beq n 3 && decide (0 ≤ (pc : Int) + o)
  | _, i, n => Nat.beq n (zln i)
def zch : List zI → Bool
  | [] => true
  | (pc, i, n) :: tl => zlo pc i n && (match tl with
    | [] => true
    | (pc2, _, _) :: _ => Nat.beq pc2 (pc + n)) && zch tl
theorem zch_suffix : ∀ (pre is : List zI), zch (pre ++ is) = true → zch is = true
  | [], _, h => h
  | (pc, i, n) :: pre, is, h => by
    simp only [List.cons_append, zch, Bool.and_eq_true] at h
    exact zch_suffix pre is h.2
def zpc : List zI → Nat
  | [] => 0
  | (pc, _, _) :: _ => pc
section ZS
variable {p : Program} {l : Launch} {e : Env} {R : Room} {s : State} {m : MethodId} {args : Array Value} {below : List Frame} {meth : Method} {c : Code} {cells slots : Nat} {Q : State → Prop}
/-- a field link: what va_get and va_put need -/
def zFl (s : State) (args : Array Value) (own : String) (q : Nat × Nat × Nat × Bool) : Prop := ∃ (C : String) (T : u_T) (N : Nat) (ty0 : Nat → FieldType), vwCl[q.2.1]? = some (C, T, N) ∧ q.2.2.1 < N ∧ (∀ w ∈ u_ws C T N, w.before args s = true) ∧ (Cond.fieldLink own q.1 (T q.2.2.1).1 (T q.2.2.1).2.1 (T q.2.2.1).2.2.1).before args s = true ∧ (∀ k, k < N → parseFieldDescriptor (T k).2.2.1 = some (ty0 k)) ∧ (∀ a, a < N → ∀ b, b < N → a ≠ b → (T a).2.1 ≠ (T b).2.1) ∧ (q.2.2.2 = true → (T q.2.2.1).2.2.2 = false ∧ ty0 q.2.2.1 = .int)
def zCl (p : Program) (l : Launch) (e : Env) (R : Room) (s : State) (m : MethodId) (args : Array Value) (below : List Frame) (meth : Method) (c : Code) (cells slots : Nat) (Q : State → Prop) (cc : ByteArray) (nL : Nat) (D : va_G) (ca : Nat → ClassId) (ad : Nat → Nat) (A : Nat → Prop) (H0 : Heap) (q : Nat × Nat × Nat × Option Nat × zRel) : Prop :=
  ∀ (as : List Value) (h : zH) (r : Option Value) (h' : zH) (H : Heap) (locs : List Loc) (rest : List Value) (la : Array Slot) (pc : Nat) (ins : Instr), q.2.2.2.2 as h r h' → as.length = q.2.1 → zrcv q.2.2.2.1 as = true → decode cc pc = .ok (ins, 3) → (ins = .invokevirtual q.1 ∧ q.2.2.2.1.isSome = true) ∨ (ins = .invokestatic q.1 ∧ q.2.2.2.1.isSome = false) → zInv D ca ad A H0 h H locs → la.size = nL → (rest.map fun v => v.category).sum ≤ 8 →
    (∀ (H' : Heap) (locs' : List Loc), zInv D ca ad A H0 h' H' locs' → W p l e R s m args below meth c H' locs' cells slots Q (F0 m (pc + 3) la ((r.map (zv ad)).toList ++ rest))) → W p l e R s m args below meth c H locs cells slots Q (F0 m pc la ((as.map (zv ad)).reverse ++ rest))
variable {cc : ByteArray} {own : String} {nL : Nat} {D : va_G} {ca : Nat → ClassId} {ad : Nat → Nat} {A : Nat → Prop} {M : zM} {post : Option Value → zH → Prop}
theorem zcs_sum (ad : Nat → Nat) : ∀ st : List Value, ((st.map (zv ad)).map fun v => v.category).sum = zcs st
  | [] => rfl
  | v :: st => by
    have := zcs_sum ad st
    simp only [List.map_cons, List.sum_cons, zcs, zv_cat] at this ⊢
    rw [this]
theorem zsw_spec {k : List zI → Prop} {cd : List zI} {pc : Nat} {x : Int32} : ∀ (os : List Int) (lo : Int), zsw cd pc x k lo os → ∀ (j : Nat) (o : Int), os[j]? = some o → x.toInt = lo + j → k (zj cd pc o)
  | [], _, _, j, o, h, _ => by simp at h
  | o0 :: os, lo, hs, j, o, h, hx => by
    obtain ⟨h1, h2⟩ := hs
    cases j with
    | zero => simp at h; subst h; exact h1 (by simpa using hx)
    | succ j => exact zsw_spec os (lo + 1) h2 j o (by simpa using h) (by rw [hx]; omega)
set_option maxHeartbeats 4000000 in
set_option maxRecDepth 100000 in
theorem z_step (hx : p.tables.exec = Jvm.exec) (hb : c.code = cc) (hml : c.maxLocals = nL) (hown : s.vm.findClass own = some m.cls) (hK : va_K D vwCl (zT ca) s)
    (hfl : ∀ q ∈ M.2.1, zFl s args own q) (hgs : ∀ q ∈ M.2.2.1, ∀ (H : Heap) (locs : List Loc) (pc : Nat) (la : Array Slot) (rest : List Value), va_S A s.heap H locs → decode cc pc = .ok (.getstatic q.1, 3) → W p l e R s m args below meth c H locs cells slots Q (F0 m (pc + 3) la (.ref (ad q.2) :: rest)) → W p l e R s m args below meth c H locs cells slots Q (F0 m pc la rest))
    (hcn : ∀ q ∈ M.2.2.2.1, (Cond.constant own q.1 q.2).before args s = true) (hcl : ∀ q ∈ M.2.2.2.2.1, (Cond.constantLong own q.1 q.2).before args s = true)
    (hca : ∀ q ∈ M.2.2.2.2.2.1, zCl p l e R s m args below meth c cells slots Q cc nL D ca ad A s.heap q)
    (hex : ∀ q ∈ M.2.2.2.2.2.2, va_T .int (ad q.1) q.2.1 (fun j => .int (q.2.2 j)) A s s.heap)
    (hri : ∀ (h : zH) (v : Int32) (H : Heap) (locs : List Loc) (pc : Nat) (la : Array Slot), zInv D ca ad A s.heap h H locs → post (some (.int v)) h → decode cc pc = .ok (.ireturn, 1) → W p l e R s m args below meth c H locs cells slots Q (F0 m pc la [.int v]))
    (hrl : ∀ (h : zH) (v : Int64) (H : Heap) (locs : List Loc) (pc : Nat) (la : Array Slot), zInv D ca ad A s.heap h H locs → post (some (.long v)) h → decode cc pc = .ok (.lreturn, 1) → W p l e R s m args below meth c H locs cells slots Q (F0 m pc la [.long v]))
    (hrv : ∀ (h : zH) (H : Heap) (locs : List Loc) (pc : Nat) (la : Array Slot), zInv D ca ad A s.heap h H locs → post none h → decode cc pc = .ok (.return_, 1) → W p l e R s m args below meth c H locs cells slots Q (F0 m pc la []))
    {pc len : Nat} {ins : Instr} {tl : List zI} {ls : List (Option Value)} {st : List Value} {h : zH} {k : List zI → List (Option Value) → List Value → zH → Prop}
    (hn : ∀ ls st h, k tl ls st h → ∀ (H : Heap) (locs : List Loc) (la : Array Slot), zLo ad nL la ls → zInv D ca ad A s.heap h H locs → W p l e R s m args below meth c H locs cells slots Q (F0 m (pc + len) la (st.map (zv ad))))
    (hj : ∀ off ls st h, k (zj M.1 pc off) ls st h → ∃ tgt : Nat, (pc : Int) + off = (tgt : Int) ∧ ∀ (H : Heap) (locs : List Loc) (la : Array Slot), zLo ad nL la ls → zInv D ca ad A s.heap h H locs → W p l e R s m args below meth c H locs cells slots Q (F0 m tgt la (st.map (zv ad))))
    (hd : decode cc pc = .ok (ins, len)) (hlen : zlo pc ins len = true) (hs : zst M post pc ins tl ls st h k)
    {H : Heap} {locs : List Loc} {la : Array Slot} (hl : zLo ad nL la ls) (hI : zInv D ca ad A s.heap h H locs) : W p l e R s m args below meth c H locs cells slots Q (F0 m pc la (st.map (zv ad))) := by
  unfold zst at hs
  cases ins
  case iload_n i =>
    cases Nat.eq_of_beq_eq_true hlen
    dsimp only at hs
    split at hs
    · next x hi => exact lv_iload_n hx hb hd rfl (zLo_at hl hi) (hn _ _ _ hs _ _ _ hl hI)
    · exact hs.elim
  case iload i =>
    cases Nat.eq_of_beq_eq_true hlen
    dsimp only at hs
    split at hs
    · next x hi => exact lv_iload hx hb hd (zLo_at hl hi) (hn _ _ _ hs _ _ _ hl hI)
    · exact hs.elim
  case aload_n i =>
    cases Nat.eq_of_beq_eq_true hlen
    dsimp only at hs
    split at hs
    · next x hi => exact lv_aload_n hx hb hd rfl (zLo_at hl hi) (hn _ _ _ hs _ _ _ hl hI)
    · exact hs.elim
  case aload i =>
    cases Nat.eq_of_beq_eq_true hlen
    dsimp only at hs
    split at hs
    · next x hi => exact lv_aload hx hb hd (zLo_at hl hi) (hn _ _ _ hs _ _ _ hl hI)
    · exact hs.elim
  case lload_n i =>
    cases Nat.eq_of_beq_eq_true hlen
    dsimp only at hs
    split at hs
    · next x hi => exact lv_lload_n hx hb hd rfl (zLo_at hl hi) (hn _ _ _ hs _ _ _ hl hI)
    · exact hs.elim
  case istore_n i =>
    cases Nat.eq_of_beq_eq_true hlen
    dsimp only at hs
    split at hs
    · next x st' =>
      split at hs
      · next hi =>
        obtain ⟨hi, hz⟩ := Bool.and_eq_true_iff.mp hi
        have hi : i.val < nL := by
          have := Nat.blt_eq.mp hi
          rw [hl.2] at this; exact this
        exact lv_istore_n hx hb hd rfl hl.1 hi rfl (fun la' h' => hn _ _ _ hs _ _ _ (zLo_set (v := .int x) hl hz h') hI)
      · exact hs.elim
    · exact hs.elim
  case istore i =>
    cases Nat.eq_of_beq_eq_true hlen
    dsimp only at hs
    split at hs
    · next x st' =>
      split at hs
      · next hi =>
        obtain ⟨hi, hz⟩ := Bool.and_eq_true_iff.mp hi
        have hi : i < nL := by
          have := Nat.blt_eq.mp hi
          rw [hl.2] at this; exact this
        exact lv_istore hx hb hd hl.1 hi rfl (fun la' h' => hn _ _ _ hs _ _ _ (zLo_set (v := .int x) hl hz h') hI)
      · exact hs.elim
    · exact hs.elim
  case iinc i n =>
    cases Nat.eq_of_beq_eq_true hlen
    dsimp only at hs
    split at hs
    · next x hi =>
      split at hs
      rotate_left
      · exact hs.elim
      next hz =>
      have hlt : i < nL := by
        have := (List.getElem?_eq_some_iff.mp hi).1
        rw [hl.2] at this; exact this
      obtain ⟨kk, hkk⟩ := List.getElem?_of_mem (zl_mem.mpr ⟨i, _, hi, rfl⟩ : (i, zv ad (.int x)) ∈ zl ad ls)
      exact lv_iinc hx hb hd hl.1 hkk rfl hlt rfl (fun la' h' => hn _ _ _ hs _ _ _ (zLo_set (v := .int (x + Int32.ofInt n)) hl hz h') hI)
    · exact hs.elim
  case iconst n =>
    cases Nat.eq_of_beq_eq_true hlen
    dsimp only at hs
    exact lv_iconst hx hb hd rfl (hn _ _ _ hs _ _ _ hl hI)
  case bipush n =>
    cases Nat.eq_of_beq_eq_true hlen
    dsimp only at hs
    exact lv_bipush hx hb hd rfl (hn _ _ _ hs _ _ _ hl hI)
  case sipush n =>
    cases Nat.eq_of_beq_eq_true hlen
    dsimp only at hs
    exact lv_sipush hx hb hd rfl (hn _ _ _ hs _ _ _ hl hI)
  case lconst n =>
    cases Nat.eq_of_beq_eq_true hlen
    dsimp only at hs
    exact lv_lconst hx hb hd rfl (hn _ _ _ hs _ _ _ hl hI)
  case ldc i =>
    cases Nat.eq_of_beq_eq_true hlen
    dsimp only at hs
    split at hs
    · next v hi => exact lv_ldc hx hb hown (hcn _ (zlk0_mem hi)) hd (hn _ _ _ hs _ _ _ hl hI)
    · exact hs.elim
  case ldc_w i =>
    cases Nat.eq_of_beq_eq_true hlen
    dsimp only at hs
    split at hs
    · next v hi => exact lv_ldcw hx hb hown (hcn _ (zlk0_mem hi)) hd (hn _ _ _ hs _ _ _ hl hI)
    · exact hs.elim
  case ldc2_w i =>
    cases Nat.eq_of_beq_eq_true hlen
    dsimp only at hs
    split at hs
    · next v hi => exact lv_ldc2 hx hb hown (hcl _ (zlk0_mem hi)) hd (hn _ _ _ hs _ _ _ hl hI)
    · exact hs.elim
  case iadd =>
    cases Nat.eq_of_beq_eq_true hlen
    dsimp only at hs
    split at hs
    · exact lv_iadd hx hb hd (hn _ _ _ hs _ _ _ hl hI)
    · exact hs.elim
  case isub =>
    cases Nat.eq_of_beq_eq_true hlen
    dsimp only at hs
    split at hs
    · exact lv_isub hx hb hd (hn _ _ _ hs _ _ _ hl hI)
    · exact hs.elim
  case imul =>
    cases Nat.eq_of_beq_eq_true hlen
    dsimp only at hs
    split at hs
    · exact lv_imul hx hb hd (hn _ _ _ hs _ _ _ hl hI)
    · exact hs.elim
  case iand =>
    cases Nat.eq_of_beq_eq_true hlen
    dsimp only at hs
    split at hs
    · exact lv_iand hx hb hd (hn _ _ _ hs _ _ _ hl hI)
    · exact hs.elim
  case ior =>
    cases Nat.eq_of_beq_eq_true hlen
    dsimp only at hs
    split at hs
    · exact lv_ior hx hb hd (hn _ _ _ hs _ _ _ hl hI)
    · exact hs.elim
  case ixor =>
    cases Nat.eq_of_beq_eq_true hlen
    dsimp only at hs
    split at hs
    · exact lv_ixor hx hb hd (hn _ _ _ hs _ _ _ hl hI)
    · exact hs.elim
  case ishl =>
    cases Nat.eq_of_beq_eq_true hlen
    dsimp only at hs
    split at hs
    · exact lv_ishl hx hb hd (hn _ _ _ hs _ _ _ hl hI)
    · exact hs.elim
  case ishr =>
    cases Nat.eq_of_beq_eq_true hlen
    dsimp only at hs
    split at hs
    · exact lv_ishr hx hb hd (hn _ _ _ hs _ _ _ hl hI)
    · exact hs.elim
  case ladd =>
    cases Nat.eq_of_beq_eq_true hlen
    dsimp only at hs
    split at hs
    · exact lv_ladd hx hb hd (hn _ _ _ hs _ _ _ hl hI)
    · exact hs.elim
  case lmul =>
    cases Nat.eq_of_beq_eq_true hlen
    dsimp only at hs
    split at hs
    · exact lv_lmul hx hb hd (hn _ _ _ hs _ _ _ hl hI)
    · exact hs.elim
  case iushr =>
    cases Nat.eq_of_beq_eq_true hlen
    dsimp only at hs
    split at hs
    · exact lv_iushr hx hb hd rfl (hn _ _ _ hs _ _ _ hl hI)
    · exact hs.elim
  case i2l =>
    cases Nat.eq_of_beq_eq_true hlen
    dsimp only at hs
    split at hs
    · exact lv_i2l hx hb hd rfl (hn _ _ _ hs _ _ _ hl hI)
    · exact hs.elim
  case lcmp =>
    cases Nat.eq_of_beq_eq_true hlen
    dsimp only at hs
    split at hs
    · exact W.lcmp hx hb hd (hn _ _ _ hs _ _ _ hl hI)
    · exact hs.elim
  case idiv =>
    cases Nat.eq_of_beq_eq_true hlen
    dsimp only at hs
    split at hs
    · exact lv_idiv hx hb hd hs.1 (hn _ _ _ hs.2 _ _ _ hl hI)
    · exact hs.elim
  case irem =>
    cases Nat.eq_of_beq_eq_true hlen
    dsimp only at hs
    split at hs
    · exact lv_irem hx hb hd hs.1 (hn _ _ _ hs.2 _ _ _ hl hI)
    · exact hs.elim
  case dup =>
    cases Nat.eq_of_beq_eq_true hlen
    dsimp only at hs
    split at hs
    · exact lv_dup hx hb hd rfl (hn _ _ _ hs _ _ _ hl hI)
    · exact lv_dup hx hb hd rfl (hn _ _ _ hs _ _ _ hl hI)
    · exact hs.elim
  case dup2 =>
    cases Nat.eq_of_beq_eq_true hlen
    dsimp only at hs
    split at hs
    · exact lv_dup2_11 hx hb hd rfl rfl (hn _ _ _ hs _ _ _ hl hI)
    · exact hs.elim
  case ifCond cnd off =>
    obtain ⟨hl3, ho⟩ := Bool.and_eq_true_iff.mp hlen
    cases Nat.eq_of_beq_eq_true hl3
    obtain ⟨tgt, ht⟩ := Int.eq_ofNat_of_zero_le (of_decide_eq_true ho)
    dsimp only at hs
    split at hs
    · next x st' =>
      obtain ⟨ha, hb2⟩ := hs
      have hj2 : ∀ {P : Prop}, (P → k (zj M.1 pc off) ls st' h) → P → W p l e R s m args below meth c H locs cells slots Q (F0 m tgt la (List.map (zv ad) st')) := fun ha z => by
        obtain ⟨t2, e2, w⟩ := hj _ _ _ _ (ha z)
        have : t2 = tgt := by omega
        subst this
        exact w _ _ _ hl hI
      cases cnd
      · exact lv_if_eq hx hb hd ht (fun z => hj2 ha z) (fun z => hn _ _ _ (hb2 z) _ _ _ hl hI)
      · exact lv_if_ne hx hb hd ht (fun z => hj2 ha z) (fun z => hn _ _ _ (hb2 (fun q => q z)) _ _ _ hl hI)
      · exact lv_if_lt hx hb hd ht (fun z => hj2 ha z) (fun z => hn _ _ _ (hb2 z) _ _ _ hl hI)
      · exact lv_if_ge hx hb hd ht (fun z => hj2 ha z) (fun z => hn _ _ _ (hb2 z) _ _ _ hl hI)
      · exact lv_if_gt hx hb hd ht (fun z => hj2 ha z) (fun z => hn _ _ _ (hb2 z) _ _ _ hl hI)
      · exact lv_if_le hx hb hd ht (fun z => hj2 ha z) (fun z => hn _ _ _ (hb2 z) _ _ _ hl hI)
    · exact hs.elim
  case if_icmp cnd off =>
    obtain ⟨hl3, ho⟩ := Bool.and_eq_true_iff.mp hlen
    cases Nat.eq_of_beq_eq_true hl3
    obtain ⟨tgt, ht⟩ := Int.eq_ofNat_of_zero_le (of_decide_eq_true ho)
    dsimp only at hs
    split at hs
    · next y x st' =>
      obtain ⟨ha, hb2⟩ := hs
      have hj2 : ∀ {P : Prop}, (P → k (zj M.1 pc off) ls st' h) → P → W p l e R s m args below meth c H locs cells slots Q (F0 m tgt la (List.map (zv ad) st')) := fun ha z => by
        obtain ⟨t2, e2, w⟩ := hj _ _ _ _ (ha z)
        have : t2 = tgt := by omega
        subst this
        exact w _ _ _ hl hI
      cases cnd
      · exact lv_icmp_eq hx hb hd ht (fun z => hj2 ha z) (fun z => hn _ _ _ (hb2 z) _ _ _ hl hI)
      · exact lv_icmp_ne hx hb hd ht (fun z => hj2 ha z) (fun z => hn _ _ _ (hb2 (fun q => q z)) _ _ _ hl hI)
      · exact lv_icmp_lt hx hb hd ht (fun z => hj2 ha z) (fun z => hn _ _ _ (hb2 z) _ _ _ hl hI)
      · exact lv_icmp_ge hx hb hd ht (fun z => hj2 ha z) (fun z => hn _ _ _ (hb2 z) _ _ _ hl hI)
      · exact lv_icmp_gt hx hb hd ht (fun z => hj2 ha z) (fun z => hn _ _ _ (hb2 z) _ _ _ hl hI)
      · exact lv_icmp_le hx hb hd ht (fun z => hj2 ha z) (fun z => hn _ _ _ (hb2 z) _ _ _ hl hI)
    · exact hs.elim
  case goto off =>
    cases Nat.eq_of_beq_eq_true hlen
    dsimp only at hs
    obtain ⟨tgt, ht, w⟩ := hj _ _ _ _ hs
    exact lv_goto hx hb hd ht (w _ _ _ hl hI)
  case tableswitch dflt lo hi offs =>
    dsimp only at hs
    split at hs
    · next x st' =>
      obtain ⟨ha, hsw⟩ := hs
      by_cases hr : x.toInt < lo ∨ hi < x.toInt
      · obtain ⟨tgt, ht, w⟩ := hj _ _ _ _ (ha hr)
        exact lv_tableOut hx hb hd hr ht (w _ _ _ hl hI)
      · have h1 : ¬ x.toInt < lo := fun z => hr (Or.inl z)
        have h2 : ¬ hi < x.toInt := fun z => hr (Or.inr z)
        cases ho : offs[(x.toInt - lo).toNat]? with
        | none =>
          have hz : hi < lo + (offs.size : Int) := of_decide_eq_true hlen
          have := Array.getElem?_eq_none_iff.mp ho
          omega
        | some o =>
          obtain ⟨tgt, ht, w⟩ := hj _ _ _ _ (zsw_spec (k := fun q => k q ls st' h) offs.toList lo hsw _ o (by simpa using ho) (by omega))
          exact lv_tableIn hx hb hd h1 h2 ho ht (w _ _ _ hl hI)
    · exact hs.elim
  case ireturn =>
    cases Nat.eq_of_beq_eq_true hlen
    dsimp only at hs
    split at hs
    · exact hri _ _ _ _ _ _ hI hs hd
    · exact hs.elim
  case lreturn =>
    cases Nat.eq_of_beq_eq_true hlen
    dsimp only at hs
    split at hs
    · exact hrl _ _ _ _ _ _ hI hs hd
    · exact hs.elim
  case return_ =>
    cases Nat.eq_of_beq_eq_true hlen
    dsimp only at hs
    split at hs
    · exact hrv _ _ _ _ _ hI hs hd
    · exact hs.elim
  case getfield i =>
    cases Nat.eq_of_beq_eq_true hlen
    dsimp only at hs
    split at hs
    · next a st' =>
      split at hs
      · next ci j w hi =>
        split at hs
        · next ci' fs hsh =>
          split at hs
          · next hci =>
            cases Nat.eq_of_beq_eq_true hci
            obtain ⟨C, T, N, ty0, g1, g2, g3, g4, g5, g6, g7⟩ := hfl _ (zlk0_mem hi)
            have hg := zW_get (ca := ca) (ad := ad) (h := h) hsh
            split at hs
            · next r hf =>
              exact va_get hx hb g3 (fun w h => h) hown hK hI.1 a hg g1 j g2 g4 (fun x h => h) (v := .ref (ad r)) (by simp [zF, hf]) hd (hn _ _ _ hs _ _ _ hl hI)
            · next hf =>
              exact va_get hx hb g3 (fun w h => h) hown hK hI.1 a hg g1 j g2 g4 (fun x h => h) (v := .int (h.1 a j)) (by simp [zF, hf]) hd (hn _ _ _ hs _ _ _ hl hI)
            · exact hs.elim
          · exact hs.elim
        · exact hs.elim
      · exact hs.elim
    · exact hs.elim
  case putfield i =>
    cases Nat.eq_of_beq_eq_true hlen
    dsimp only at hs
    split at hs
    · next x a st' =>
      split at hs
      · next ci j hi =>
        split at hs
        · next ci' fs hsh =>
          split at hs
          · next hci =>
            cases Nat.eq_of_beq_eq_true hci
            obtain ⟨C, T, N, ty0, g1, g2, g3, g4, g5, g6, g7⟩ := hfl _ (zlk0_mem hi)
            obtain ⟨g8, g9⟩ := g7 rfl
            have hg := zW_get (ca := ca) (ad := ad) (h := h) hsh
            split at hs
            · next hf =>
              have hjl : j < fs.length := (List.getElem?_eq_some_iff.mp hf).1
              refine va_put hx hb g3 (fun w h => h) ty0 g5 g6 hown hK hI.1 hI.2.1 hI.2.2 a hg g1 j g2 g4 (fun x h => h) g8 (ty := .int) (v := .int x) (by rw [g5 j g2, g9]) rfl rfl (by simp [zF, hjl]) hd (fun H1 locs1 p1 p2 p3 => ?_)
              have e := zW_set (ca := ca) (ad := ad) (h := h) (h' := zsi h a j x) (e := .inr (ci, (zF ad h a fs).set j (.int x))) hsh (by rw [zF_set hf]; rfl) (zsi_off h a j x)
              rw [e] at p1 p2
              exact hn _ _ _ hs _ _ _ hl ⟨p1, p2, p3⟩
            · exact hs.elim
          · exact hs.elim
        · exact hs.elim
      · exact hs.elim
    · exact hs.elim
  case getstatic i =>
    cases Nat.eq_of_beq_eq_true hlen
    dsimp only at hs
    split at hs
    · next a hi => exact hgs _ (zlk0_mem hi) _ _ _ _ _ hI.2.2 hd (hn _ _ _ hs _ _ _ hl hI)
    · exact hs.elim
  case iaload =>
    cases Nat.eq_of_beq_eq_true hlen
    dsimp only at hs
    split at hs
    · next i a st' =>
      split at hs
      · next n rs hsh => exact va_iald hx hb hK hI.1 a 0 (zW_get (ca := ca) (ad := ad) (h := h) hsh) rfl hs.1 hd (hn _ _ _ hs.2 _ _ _ hl hI)
      · split at hs
        · next n f hi =>
          obtain ⟨cell, q1, q2, q3, q4, q5, q6, q7⟩ := hex _ (zlk0_mem hi)
          have hlt : i.toNatClampNeg < n := Nat.not_le.mp fun q => hs.1 (Or.inr q)
          refine W.iald (v := .int (f i.toNatClampNeg)) hx hb (by rw [hI.2.2.2.1 _ (Array.getElem?_eq_some_iff.mp q1).1 q7]; exact q1) q2 q3 (fun z => hs.1 (z.imp id (fun w => Nat.le_trans q4 w))) (q6 _ hlt) rfl rfl hd (hn _ _ _ hs.2 _ _ _ hl hI)
        · exact hs.elim
      · exact hs.elim
    · exact hs.elim
  case iastore =>
    cases Nat.eq_of_beq_eq_true hlen
    dsimp only at hs
    split at hs
    · next x i a st' =>
      split at hs
      · next n rs hsh =>
        refine va_iast hx hb hK hI.1 hI.2.1 hI.2.2 a 0 (zW_get (ca := ca) (ad := ad) (h := h) hsh) rfl hs.1 hd (fun H1 locs1 p1 p2 p3 => ?_)
        have e := zW_set (ca := ca) (ad := ad) (h := h) (h' := zsi h a i.toNatClampNeg x) (e := .inl (ca 0, n, .inl (upd (h.1 a) i.toNatClampNeg x))) hsh (by rw [← zsi_at]; rfl) (zsi_off _ _ _ _)
        rw [e] at p1 p2
        exact hn _ _ _ hs.2 _ _ _ hl ⟨p1, p2, p3⟩
      · exact hs.elim
    · exact hs.elim
  case bastore =>
    cases Nat.eq_of_beq_eq_true hlen
    dsimp only at hs
    split at hs
    · next x i a st' =>
      split at hs
      · next n rs hsh =>
        refine va_zast hx hb hK hI.1 hI.2.1 hI.2.2 a 1 (zW_get (ca := ca) (ad := ad) (h := h) hsh) rfl hs.1 hd (fun H1 locs1 p1 p2 p3 => ?_)
        have e := zW_set (ca := ca) (ad := ad) (h := h) (h' := zsi h a i.toNatClampNeg (vp_nar .boolean x)) (e := .inl (ca 1, n, .inl (upd (h.1 a) i.toNatClampNeg (vp_nar .boolean x)))) hsh (by rw [← zsi_at]; rfl) (zsi_off _ _ _ _)
        rw [e] at p1 p2
        exact hn _ _ _ hs.2 _ _ _ hl ⟨p1, p2, p3⟩
      · exact hs.elim
    · exact hs.elim
  case lastore =>
    cases Nat.eq_of_beq_eq_true hlen
    dsimp only at hs
    split at hs
    · next x i a st' =>
      split at hs
      · next n rs hsh =>
        refine va_last hx hb hK hI.1 hI.2.1 hI.2.2 a 2 (zW_get (ca := ca) (ad := ad) (h := h) hsh) rfl hs.1 hd (fun H1 locs1 p1 p2 p3 => ?_)
        have e := zW_set (ca := ca) (ad := ad) (h := h) (h' := zsl h a i.toNatClampNeg x) (e := .inl (ca 2, n, .inr (.inl (vp_updL (h.2 a) i.toNatClampNeg x)))) hsh (by rw [← zsl_at]; rfl) (zsl_off _ _ _ _)
        rw [e] at p1 p2
        exact hn _ _ _ hs.2 _ _ _ hl ⟨p1, p2, p3⟩
      · exact hs.elim
    · exact hs.elim
  case baload =>
    cases Nat.eq_of_beq_eq_true hlen
    dsimp only at hs
    split at hs
    · next i a st' =>
      split at hs
      · next n rs hsh => exact va_zald hx hb hK hI.1 a 1 (zW_get (ca := ca) (ad := ad) (h := h) hsh) rfl hs.1 hd (hn _ _ _ hs.2 _ _ _ hl hI)
      · exact hs.elim
    · exact hs.elim
  case laload =>
    cases Nat.eq_of_beq_eq_true hlen
    dsimp only at hs
    split at hs
    · next i a st' =>
      split at hs
      · next n rs hsh => exact va_lald hx hb hK hI.1 a 2 (zW_get (ca := ca) (ad := ad) (h := h) hsh) rfl hs.1 hd (hn _ _ _ hs.2 _ _ _ hl hI)
      · exact hs.elim
    · exact hs.elim
  case aaload =>
    cases Nat.eq_of_beq_eq_true hlen
    dsimp only at hs
    split at hs
    · next i a st' =>
      split at hs
      · next n rs hsh =>
        obtain ⟨hin, hs⟩ := hs
        split at hs
        · next r hr =>
          refine va_aldq hx hb hK hI.1 a 3 (C := RX6) (zW_get (ca := ca) (ad := ad) (h := h) hsh) rfl hin hd ?_
          rw [hr]
          exact hn _ _ _ hs _ _ _ hl hI
        · exact hs.elim
      · exact hs.elim
    · exact hs.elim
  case arraylength =>
    cases Nat.eq_of_beq_eq_true hlen
    dsimp only at hs
    split at hs
    · next a st' =>
      split at hs
      · next n rs hsh => exact va_alen hx hb hK hI.1 a 0 (zW_get (ca := ca) (ad := ad) (h := h) hsh) rfl rfl hd (hn _ _ _ hs _ _ _ hl hI)
      · next n rs hsh => exact va_alen hx hb hK hI.1 a 2 (zW_get (ca := ca) (ad := ad) (h := h) hsh) rfl rfl hd (hn _ _ _ hs _ _ _ hl hI)
      · split at hs
        · next n f hi =>
          obtain ⟨cell, q1, q2, q3, q4, q5, q6, q7⟩ := hex _ (zlk0_mem hi)
          exact W.alen (n := Int32.ofNat n) hx hb (by rw [hI.2.2.2.1 _ (Array.getElem?_eq_some_iff.mp q1).1 q7]; exact q1) q2 q5 rfl rfl hd (hn _ _ _ hs _ _ _ hl hI)
        · exact hs.elim
      · exact hs.elim
    · exact hs.elim
  case invokevirtual i =>
    cases Nat.eq_of_beq_eq_true hlen
    dsimp only at hs
    unfold zcall at hs
    split at hs
    · next n kd o Rl hi =>
      split at hs
      · next hck =>
        obtain ⟨hcs, hck⟩ := Bool.and_eq_true_iff.mp hck
        obtain ⟨hln, hck⟩ := Bool.and_eq_true_iff.mp hck
        obtain ⟨hvt, hrc⟩ := Bool.and_eq_true_iff.mp hck
        have hcs := Nat.le_of_ble_eq_true hcs
        have hln := Nat.eq_of_beq_eq_true hln
        have hvt : o.isSome = true := by cases ho : o.isSome <;> simp_all
        have hcall := hca _ (zlk0_mem hi)
        have est : st.map (zv ad) = ((st.take n).reverse.map (zv ad)).reverse ++ (st.drop n).map (zv ad) := by
          rw [← List.map_reverse, List.reverse_reverse, ← List.map_append, List.take_append_drop]
        rw [est]
        have hsum : (((st.drop n).map (zv ad)).map fun v => v.category).sum ≤ 8 := by rw [zcs_sum]; exact hcs
        have hlen2 : (st.take n).reverse.length = n := by rw [List.length_reverse]; exact hln
        split at hs
        · obtain ⟨h', hR, hk⟩ := hs
          exact hcall _ _ _ _ _ _ _ _ _ _ hR hlen2 hrc hd (Or.inl ⟨rfl, hvt⟩) hI hl.1.1 hsum (fun H' locs' hI' => hn _ _ _ hk _ _ _ hl hI')
        · obtain ⟨v, h', hR, hk⟩ := hs
          exact hcall _ _ _ _ _ _ _ _ _ _ hR hlen2 hrc hd (Or.inl ⟨rfl, hvt⟩) hI hl.1.1 hsum (fun H' locs' hI' => hn _ _ _ hk _ _ _ hl hI')
        · obtain ⟨v, h', hR, hk⟩ := hs
          exact hcall _ _ _ _ _ _ _ _ _ _ hR hlen2 hrc hd (Or.inl ⟨rfl, hvt⟩) hI hl.1.1 hsum (fun H' locs' hI' => hn _ _ _ hk _ _ _ hl hI')
        · exact hs.elim
      · exact hs.elim
    · exact hs.elim
  case invokestatic i =>
    cases Nat.eq_of_beq_eq_true hlen
    dsimp only at hs
    unfold zcall at hs
    split at hs
    · next n kd o Rl hi =>
      split at hs
      · next hck =>
        obtain ⟨hcs, hck⟩ := Bool.and_eq_true_iff.mp hck
        obtain ⟨hln, hck⟩ := Bool.and_eq_true_iff.mp hck
        obtain ⟨hvt, hrc⟩ := Bool.and_eq_true_iff.mp hck
        have hcs := Nat.le_of_ble_eq_true hcs
        have hln := Nat.eq_of_beq_eq_true hln
        have hvt : o.isSome = false := by cases ho : o.isSome <;> simp_all
        have hcall := hca _ (zlk0_mem hi)
        have est : st.map (zv ad) = ((st.take n).reverse.map (zv ad)).reverse ++ (st.drop n).map (zv ad) := by
          rw [← List.map_reverse, List.reverse_reverse, ← List.map_append, List.take_append_drop]
        rw [est]
        have hsum : (((st.drop n).map (zv ad)).map fun v => v.category).sum ≤ 8 := by rw [zcs_sum]; exact hcs
        have hlen2 : (st.take n).reverse.length = n := by rw [List.length_reverse]; exact hln
        split at hs
        · obtain ⟨h', hR, hk⟩ := hs
          exact hcall _ _ _ _ _ _ _ _ _ _ hR hlen2 hrc hd (Or.inr ⟨rfl, hvt⟩) hI hl.1.1 hsum (fun H' locs' hI' => hn _ _ _ hk _ _ _ hl hI')
        · obtain ⟨v, h', hR, hk⟩ := hs
          exact hcall _ _ _ _ _ _ _ _ _ _ hR hlen2 hrc hd (Or.inr ⟨rfl, hvt⟩) hI hl.1.1 hsum (fun H' locs' hI' => hn _ _ _ hk _ _ _ hl hI')
        · obtain ⟨v, h', hR, hk⟩ := hs
          exact hcall _ _ _ _ _ _ _ _ _ _ hR hlen2 hrc hd (Or.inr ⟨rfl, hvt⟩) hI hl.1.1 hsum (fun H' locs' hI' => hn _ _ _ hk _ _ _ hl hI')
        · exact hs.elim
      · exact hs.elim
    · exact hs.elim
  all_goals exact hs.elim
theorem zj_spec {cd : List zI} {pc : Nat} {off : Int} (hne : zj cd pc off ≠ []) : (pc : Int) + off = (zpc (zj cd pc off) : Int) ∧ zj cd pc off <:+ cd := by
  unfold zj at hne ⊢
  split at hne
  · next t ht =>
    refine ⟨?_, List.dropWhile_suffix _⟩
    rw [ht]
    cases hd : cd.dropWhile (fun e => !(Nat.beq e.1 t)) with
    | nil => exact absurd hd hne
    | cons e es =>
      have := List.head?_dropWhile_not (fun e => !(Nat.beq e.1 t)) cd
      rw [hd] at this
      simp only [List.head?_cons] at this
      have h2 : Nat.beq e.1 t = true := by simpa using this
      obtain ⟨a, b, d⟩ := e
      rw [← Nat.eq_of_beq_eq_true h2]
      rfl
  · exact absurd rfl hne
set_option maxHeartbeats 4000000 in
theorem z_snd (hx : p.tables.exec = Jvm.exec) (hb : c.code = cc) (hml : c.maxLocals = nL) (hown : s.vm.findClass own = some m.cls) (hK : va_K D vwCl (zT ca) s)
    (hfl : ∀ q ∈ M.2.1, zFl s args own q) (hgs : ∀ q ∈ M.2.2.1, ∀ (H : Heap) (locs : List Loc) (pc : Nat) (la : Array Slot) (rest : List Value), va_S A s.heap H locs → decode cc pc = .ok (.getstatic q.1, 3) → W p l e R s m args below meth c H locs cells slots Q (F0 m (pc + 3) la (.ref (ad q.2) :: rest)) → W p l e R s m args below meth c H locs cells slots Q (F0 m pc la rest))
    (hcn : ∀ q ∈ M.2.2.2.1, (Cond.constant own q.1 q.2).before args s = true) (hcl : ∀ q ∈ M.2.2.2.2.1, (Cond.constantLong own q.1 q.2).before args s = true)
    (hca : ∀ q ∈ M.2.2.2.2.2.1, zCl p l e R s m args below meth c cells slots Q cc nL D ca ad A s.heap q)
    (hex : ∀ q ∈ M.2.2.2.2.2.2, va_T .int (ad q.1) q.2.1 (fun j => .int (q.2.2 j)) A s s.heap)
    (hri : ∀ (h : zH) (v : Int32) (H : Heap) (locs : List Loc) (pc : Nat) (la : Array Slot), zInv D ca ad A s.heap h H locs → post (some (.int v)) h → decode cc pc = .ok (.ireturn, 1) → W p l e R s m args below meth c H locs cells slots Q (F0 m pc la [.int v]))
    (hrl : ∀ (h : zH) (v : Int64) (H : Heap) (locs : List Loc) (pc : Nat) (la : Array Slot), zInv D ca ad A s.heap h H locs → post (some (.long v)) h → decode cc pc = .ok (.lreturn, 1) → W p l e R s m args below meth c H locs cells slots Q (F0 m pc la [.long v]))
    (hrv : ∀ (h : zH) (H : Heap) (locs : List Loc) (pc : Nat) (la : Array Slot), zInv D ca ad A s.heap h H locs → post none h → decode cc pc = .ok (.return_, 1) → W p l e R s m args below meth c H locs cells slots Q (F0 m pc la []))
    (hdec : ∀ q ∈ M.1, decode cc q.1 = .ok (q.2.1, q.2.2)) (hch : zch M.1 = true) :
    ∀ (is : List zI) (ls : List (Option Value)) (st : List Value) (h : zH), is <:+ M.1 → zG M post is ls st h → ∀ (H : Heap) (locs : List Loc) (la : Array Slot), zLo ad nL la ls → zInv D ca ad A s.heap h H locs → W p l e R s m args below meth c H locs cells slots Q (F0 m (zpc is) la (st.map (zv ad))) := by
  intro is ls st h hsf0 hg0
  refine (hg0 (fun is ls st h => is ≠ [] ∧ (is <:+ M.1 → ∀ (H : Heap) (locs : List Loc) (la : Array Slot), zLo ad nL la ls → zInv D ca ad A s.heap h H locs → W p l e R s m args below meth c H locs cells slots Q (F0 m (zpc is) la (st.map (zv ad))))) ?_).2 hsf0
  intro is ls st h hg
  cases is with
  | nil => exact hg.elim
  | cons q tl =>
    refine ⟨List.cons_ne_nil _ _, ?_⟩
    intro hsf H locs la hl hI
    obtain ⟨pc, ins, len⟩ := q
    obtain ⟨pre, hpre⟩ := hsf
    have hmem : (pc, ins, len) ∈ M.1 := by rw [← hpre]; exact List.mem_append_right _ List.mem_cons_self
    have hc2 : zch ((pc, ins, len) :: tl) = true := zch_suffix pre _ (by rw [hpre]; exact hch)
    simp only [zch, Bool.and_eq_true] at hc2
    obtain ⟨⟨c1, c2⟩, c3⟩ := hc2
    have htl : tl <:+ M.1 := ⟨pre ++ [(pc, ins, len)], by rw [← hpre]; simp⟩
    unfold zstL at hg
    dsimp only at hg
    refine z_step hx hb hml hown hK hfl hgs hcn hcl hca hex hri hrl hrv (tl := tl) (pc := pc) (ins := ins) (len := len) (ls := ls) (st := st) (h := h) (k := (fun is ls st h => is ≠ [] ∧ (is <:+ M.1 → ∀ (H : Heap) (locs : List Loc) (la : Array Slot), zLo ad nL la ls → zInv D ca ad A s.heap h H locs → W p l e R s m args below meth c H locs cells slots Q (F0 m (zpc is) la (st.map (zv ad)))))) ?_ ?_ (hdec (pc, ins, len) hmem) c1 hg hl hI
    · intro ls st h hg' H locs la hl hI
      have hw := hg'.2 htl H locs la hl hI
      cases tl with
      | nil => exact absurd rfl hg'.1
      | cons q2 tl2 =>
        obtain ⟨pc2, i2, l2⟩ := q2
        have : pc2 = pc + len := Nat.eq_of_beq_eq_true c2
        rw [← this]
        exact hw
    · intro off ls st h hg'
      obtain ⟨e1, e2⟩ := zj_spec hg'.1
      exact ⟨_, e1, fun H locs la hl hI => hg'.2 e2 H locs la hl hI⟩
end ZS
end
section
/-! ===== CONTRACTS: what a method does in the small machine, it does in the machine ===== -/
def zTb : List Cond := lw_tbl.filter goodWord
theorem zTb_in {w : Cond} (i : Nat) (h : lw_tbl[i]? = some w) (hg : goodWord w = true) : w ∈ zTb := List.mem_filter.mpr ⟨List.mem_of_getElem? h, hg⟩
/-- many words at once, by their places -/
theorem zTb_all (ws : List Cond) (ps : List Nat) (hp : ws = ps.filterMap (fun i => lw_tbl[i]?)) (h : ws.all goodWord = true) : ∀ w ∈ ws, w ∈ zTb := by
  intro w hw
  have h1 := List.all_eq_true.mp h w hw
  rw [hp] at hw
  obtain ⟨i, -, hi⟩ := List.mem_filterMap.mp hw
  exact zTb_in i hi h1
abbrev zws (y : MethodName) (bytes : ByteArray) (maxL : Nat) (ret : Option FieldType) : List Cond := .code y bytes maxL ret :: zTb
def zA (ad : Nat → Nat) (sz : Nat) : Nat → Prop := fun q => (∃ k, k < zSh.length ∧ q = ad k) ∨ sz ≤ q
def zRL : Nat → Int32 := fun j => [0, -100, 0, 500, 0].getD j 0
def zRM : Nat → Int32 := fun j => [20, 100, 100, 9000, 300].getD j 0
abbrev zNst : Cond := .fieldLinkNest "SunRings$Ice" 64 "SunRings" "RULES_LEAST" "[I" "SunRings"
/-- the tables that nobody writes -/
def zX (ad : Nat → Nat) (A : Nat → Prop) (U : State) (H : Heap) : Prop := va_Z "SunRings" "RULES_LEAST" "[I" (.ref (ad 102)) A U H ∧ va_Z "SunRings" "RULES_MOST" "[I" (.ref (ad 103)) A U H ∧ va_T .int (ad 102) 5 (fun j => .int (zRL j)) A U H ∧ va_T .int (ad 103) 5 (fun j => .int (zRM j)) A U H ∧ va_Nw zNst U
def zPre (D : va_G) (ca : Nat → ClassId) (ad : Nat → Nat) (sz : Nat) (h : zH) (U : State) : Prop := U.heap.size = sz ∧ va_P D vwCl (zW ca ad h) U.heap ∧ va_K D vwCl (zT ca) U ∧ va_D (zA ad sz) (zW ca ad h) ∧ zX ad (zA ad sz) U U.heap
def zPost (D : va_G) (ca : Nat → ClassId) (ad : Nat → Nat) (sz : Nat) (r : Option Value) (h' : zH) : Array Value → State → Outcome → State → Prop := fun _ st oc t => oc = .returned (r.map (zv ad)) ∧ va_P D vwCl (zW ca ad h') t.heap ∧ va_F (zA ad sz) st t
def zMet (l : Launch) (y : MethodName) (bytes : ByteArray) (maxL : Nat) (ret : Option FieldType) (rm : Room) (Rl : zRel) : Prop := ∀ (D : va_G) (ca : Nat → ClassId) (ad : Nat → Nat) (sz : Nat) (as : List Value) (h : zH) (r : Option Value) (h' : zH), Rl as h r h' → Met l y (zws y bytes maxL ret) rm (va_Pc (as.map (zv ad)) (zPre D ca ad sz h)) (zPost D ca ad sz r h') 0 0 (zA ad sz)
theorem zX_same {ad : Nat → Nat} {A : Nat → Prop} {u U : State} (hvm : u.vm = U.vm) {H : Heap} (h : zX ad A u H) : zX ad A U H := by
  obtain ⟨a, b, c, d, e⟩ := h
  have hal : u.vm.Alike U.vm := by rw [hvm]; exact Vm.Alike.refl _
  exact ⟨a.moved hal, b.moved hal, c.moved hal, d.moved hal, e.same rfl hvm⟩
theorem zX_warm {ad : Nat → Nat} {A : Nat → Prop} {s U : State} (hW : s.WarmedH U.vm) {H : Heap} (h : zX ad A s H) : zX ad A U H := by
  obtain ⟨a, b, c, d, e⟩ := h
  exact ⟨a.moved hW.alike, b.moved hW.alike, c.moved hW.alike, d.moved hW.alike, e.warmF hW⟩
theorem zX_kept {ad : Nat → Nat} {A : Nat → Prop} {U : State} {H H1 : Heap} (hq : ∀ a : Nat, a < H.size → ¬ A a → H1[a]? = H[a]?) (h : zX ad A U H) : zX ad A U H1 := by
  obtain ⟨a, b, c, d, e⟩ := h
  exact ⟨a.kept hq, b.kept hq, c.kept hq, d.kept hq, e⟩
theorem zX_narrow {ad : Nat → Nat} {A B : Nat → Prop} {U : State} {H : Heap} (hAB : ∀ q, B q → A q) (h : zX ad A U H) : zX ad B U H := by
  obtain ⟨a, b, c, d, e⟩ := h
  exact ⟨a.narrow hAB, b.narrow hAB, c.narrow hAB, d.narrow hAB, e⟩
theorem zPre_blind (D : va_G) (ca : Nat → ClassId) (ad : Nat → Nat) (sz : Nat) (h : zH) (av : List Value) : FrameBlind (va_Pc av (zPre D ca ad sz h)) := by
  intro a U g mk hv
  obtain ⟨e, h1, h2, h3, h4, h5⟩ := hv
  exact ⟨e, h1, h2, va_K.moved (u := U) (U := U.calling g mk a) (Vm.Alike.refl U.vm) h3, h4, zX_same (u := U) (U := U.calling g mk a) rfl h5⟩
theorem zW_len (ca : Nat → ClassId) (ad : Nat → Nat) (h : zH) : (zW ca ad h).length = zSh.length := by simp [zW]
theorem zW_addr {ca : Nat → ClassId} {ad : Nat → Nat} {h : zH} {k : Nat} {q : Nat × va_E} (hk : (zW ca ad h)[k]? = some q) : k < zSh.length ∧ q.1 = ad k := by
  have hl : k < zSh.length := by
    have := (List.getElem?_eq_some_iff.mp hk).1
    rwa [zW_len] at this
  refine ⟨hl, ?_⟩
  rw [zW_get (List.getElem?_eq_getElem hl)] at hk
  cases hk
  rfl
/-- apart at one time, apart at all times -/
theorem zD_any {A B : Nat → Prop} {ca : Nat → ClassId} {ad : Nat → Nat} {h h' : zH} (hD : va_D A (zW ca ad h)) (hB : ∀ k, k < zSh.length → B (ad k)) : va_D B (zW ca ad h') := by
  refine ⟨fun i j x y hi hj hxy => ?_, fun k q hk => ?_⟩
  · obtain ⟨li, ei⟩ := zW_addr hi
    obtain ⟨lj, ej⟩ := zW_addr hj
    refine hD.1 i j _ _ (zW_get (h := h) (List.getElem?_eq_getElem li)) (zW_get (h := h) (List.getElem?_eq_getElem lj)) ?_
    show ad i = ad j
    rw [← ei, ← ej, hxy]
  · obtain ⟨lk, ek⟩ := zW_addr hk
    rw [ek]; exact hB k lk
section ZC
variable {p : Program} {l : Launch} {e : Env} {R : Room} {s : State} {m : MethodId} {args : Array Value} {below : List Frame} {meth : Method} {c : Code} {cells slots : Nat} {Q : State → Prop}
variable {cc : ByteArray} {own : String} {nL : Nat} {D : va_G} {ca : Nat → ClassId} {ad : Nat → Nat}
theorem z_cont {H : Heap} {locs : List Loc} {pc : Nat} {la : Array Slot} {st0 rest : List Value} {A0 : Nat → Prop} {H0 : Heap} {a : Array Value} {r : Option Value} {h' : zH}
    (hr : va_Run p l e R s m args below meth c H locs cells slots 0 0 (F0 m pc la st0) rest (zPost D ca ad H.size r h' a) (zA ad H.size)) (hS : va_S A0 H0 H locs) (hf : ∀ q, zA ad H.size q → A0 q)
    (kk : ∀ (H1 : Heap) (locs1 : List Loc), va_P D vwCl (zW ca ad h') H1 → va_S A0 H0 H1 locs1 → W p l e R s m args below meth c H1 locs1 cells slots Q (F0 m (pc + 3) la ((r.map (zv ad)).toList ++ rest))) : W p l e R s m args below meth c H locs cells slots Q (F0 m pc la st0) := by
  intro T hT X
  obtain ⟨v, st₀, t, T', L, h0, X', hL, e1, e2, ⟨hv, hP, hz, hk⟩, st⟩ := hr T hT X
  cases hv
  rw [h0] at hz hk
  obtain ⟨t2, a1, b1⟩ := kk T'.heap (locs ++ L) (by rw [e1]; exact hP)
    ⟨Nat.le_trans hS.1 (by rw [e1]; exact hz), fun q h1 h2 => by rw [e1, hk q (Nat.lt_of_lt_of_le h1 hS.1) (fun z => h2 (hf q z))]; exact hS.2.1 q h1 h2, fun q hq => by
      rcases List.mem_append.mp hq with h | h
      · exact hS.2.2 q h
      · exact hf _ (hL q h)⟩ T' rfl X'
  exact ⟨t2, st t2 a1, b1⟩
/-- a call of one of the methods: what must stand in the tables -/
def zCm0 (l : Launch) (R : Room) (own : String) (q : Nat × Nat × Nat × Option Nat × zRel) : Prop := ∃ (y : MethodName) (bytes : ByteArray) (maxL : Nat) (ret : Option FieldType) (rm : Room), zMet l y bytes maxL ret rm q.2.2.2.2 ∧ rm.cells = 0 ∧ rm.slots = 0 ∧ (rm.frames + 1 ≤ R.frames ∧ 8 + (maxL + 11) + rm.locals ≤ R.locals) ∧ Cond.methodLink own q.1 y ∈ zTb ∧ Cond.code y bytes maxL ret ∈ zTb ∧ Cond.initialized y.cls ∈ zTb ∧ (y.cls ≠ "java/lang/invoke/MethodHandle" ∧ y.cls ≠ "java/lang/invoke/VarHandle") ∧
  match q.2.2.2.1 with
  | some ci => Cond.instanceMethod y ∈ zTb ∧ Cond.selects y.cls y y ∈ zTb ∧ (∃ (T : u_T) (N : Nat), vwCl[ci]? = some (y.cls, T, N)) ∧ (parseMethodDescriptor y.desc).map (fun d => d.parameters.length + 1) = some q.2.1
  | none => Cond.static y ∈ zTb ∧ (parseMethodDescriptor y.desc).map (fun d => d.parameters.length) = some q.2.1
theorem zTb_good {w : Cond} (h : w ∈ zTb) : (w.onTables && w.keeps) = true ∨ ∃ ty, w = .arrayClass ty := good_of_word (List.mem_filter.mp h).2
theorem z_goodIn {Ts : List Cond} (hT : ∀ w ∈ zTb, w ∈ Ts) {y : MethodName} {bytes : ByteArray} {maxL : Nat} {ret : Option FieldType} (hc : Cond.code y bytes maxL ret ∈ zTb) : GoodIn Ts (zws y bytes maxL ret) := by
  intro w hw
  rcases List.mem_cons.mp hw with h | h
  · rw [h]; exact ⟨hT _ hc, zTb_good hc⟩
  · exact ⟨hT _ h, zTb_good h⟩
theorem z_cl {A : Nat → Prop} (hx : p.tables.exec = Jvm.exec) (hb : c.code = cc) (hml : c.maxLocals = nL) (hown : s.vm.findClass own = some m.cls) (hK : va_K D vwCl (zT ca) s) (hts : ∀ w ∈ zTb, w.before args s = true)
    (hX : zX ad A s s.heap) (hA : ∀ q, zA ad s.heap.size q → A q) (hfit : cells ≤ R.cells ∧ slots ≤ R.slots) {q : Nat × Nat × Nat × Option Nat × zRel} (hq : zCm0 l R own q) : zCl p l e R s m args below meth c cells slots Q cc nL D ca ad A s.heap q := by
  intro as h r h' H locs rest la pc ins hR hlen hrc hd hin hI hsz hsum kk
  obtain ⟨y, bytes, maxL, ret, rm, hM, hrc0, hrs0, hroom, hlk, hcode, hini, hcls, hq⟩ := hq
  have Mt := hM D ca ad H.size as h r h' hR
  have hG : GoodIn zTb (zws y bytes maxL ret) := z_goodIn (fun _ h => h) hcode
  have hAH : ∀ q, zA ad H.size q → A q := fun q hq => hq.elim (fun z => hA q (Or.inl z)) (fun z => hA q (Or.inr (Nat.le_trans hI.2.2.1 z)))
  have hpre : ∀ U : State, U.heap = H → s.WarmedH U.vm → va_Pc (as.map (zv ad)) (zPre D ca ad H.size h) (as.map (zv ad)).toArray U := fun U hU hW =>
    ⟨rfl, by rw [hU], by rw [hU]; exact hI.1, va_K.moved hW.alike hK, zD_any hI.2.1 (fun k hk => Or.inl ⟨k, hk, rfl⟩), by
      rw [hU]
      exact zX_narrow hAH (zX_warm hW (zX_kept hI.2.2.2.1 hX))⟩
  have fin : ∀ {st0 : List Value} {a : Array Value}, va_Run p l e R s m args below meth c H locs cells slots 0 0 (F0 m pc la st0) rest (zPost D ca ad H.size r h' a) (zA ad H.size) → W p l e R s m args below meth c H locs cells slots Q (F0 m pc la st0) := fun hr =>
    z_cont hr hI.2.2 hAH (fun H1 locs1 p1 p2 => kk H1 locs1 ⟨p1, zD_any hI.2.1 (fun k hk => hAH _ (Or.inl ⟨k, hk, rfl⟩)), p2⟩)
  cases ho : q.2.2.2.1 with
  | none =>
    rw [ho] at hq hin
    obtain ⟨hst, hds⟩ := hq
    rcases hin with ⟨-, hf⟩ | ⟨hins, -⟩
    · cases hf
    rw [hins] at hd
    refine fin (va_runS (As := as.map (zv ad)) (n := q.2.1) ⟨hx, hb, hml, hown, hts⟩ Mt ⟨callB_of q.2.1 hts hG rfl hrc0 hrs0 (hts _ hini) (hts _ hlk) ⟨hcls.1, hcls.2, hds⟩ hroom, hts _ hst⟩ ⟨zPre_blind D ca ad H.size h _, hpre⟩ rfl (by rw [List.length_map]; exact hlen) hsz rfl (lv_room hsum) hd ⟨hfit.1, hfit.2⟩)
  | some ci =>
    rw [ho] at hq hin hrc
    obtain ⟨him, hse, ⟨T, N, hcl⟩, hds⟩ := hq
    rcases hin with ⟨hins, -⟩ | ⟨-, hf⟩
    rotate_left
    · cases hf
    rw [hins] at hd
    unfold zrcv at hrc
    dsimp only at hrc
    split at hrc
    rotate_left
    · cases hrc
    next a as' =>
    split at hrc
    rotate_left
    · cases hrc
    next ci' fs hsh =>
    cases Nat.eq_of_beq_eq_true hrc
    have hds2 : (parseMethodDescriptor y.desc).map (fun d => d.parameters.length) = some as'.length := by
      cases hpm : parseMethodDescriptor y.desc with
      | none => rw [hpm] at hds; cases hds
      | some d =>
        rw [hpm] at hds
        have h1 : d.parameters.length + 1 = q.2.1 := Option.some.inj hds
        simp only [List.length_cons] at hlen
        simp only [Option.map_some, Option.some.injEq]
        omega
    have hst : (List.map (zv ad) (Value.ref a :: as')).reverse ++ rest = (as'.map (zv ad)).reverse ++ Value.ref (ad a) :: rest := by simp [zv]
    rw [hst]
    refine fin (va_runV (C := y.cls) (As := as'.map (zv ad)) (b := ad a) (n := as'.length) ⟨hx, hb, hml, hown, hts⟩ Mt ⟨callB_of as'.length hts hG rfl hrc0 hrs0 (hts _ hini) (hts _ hlk) ⟨hcls.1, hcls.2, hds2⟩ hroom, hts _ him, hts _ hse⟩ ⟨zPre_blind D ca ad H.size h _, va_recv hK hI.1 hcl (zW_get hsh), hpre⟩ rfl (by rw [List.length_map]) hsz rfl (lv_room hsum) hd ⟨hfit.1, hfit.2⟩)
/-- System.arraycopy -/
def zCy (R : Room) (own : String) (q : Nat × Nat × Nat × Option Nat × zRel) : Prop := q.2 = (5, 0, none, zAC) ∧ Cond.methodLink own q.1 arraycopyName ∈ zTb ∧ Cond.native arraycopyName ∈ zTb ∧ Cond.static arraycopyName ∈ zTb ∧ Cond.initialized "java/lang/System" ∈ zTb ∧ 1 ≤ R.frames ∧ 8 + (nativeFrameWords "java/lang/System" "arraycopy" 5 + 11) ≤ R.locals
def zCm (l : Launch) (R : Room) (own : String) (q : Nat × Nat × Nat × Option Nat × zRel) : Prop := zCm0 l R own q ∨ zCy R own q
theorem z_cy {A : Nat → Prop} (hx : p.tables.exec = Jvm.exec) (hb : c.code = cc) (hml : c.maxLocals = nL) (hown : s.vm.findClass own = some m.cls) (hK : va_K D vwCl (zT ca) s) (hts : ∀ w ∈ zTb, w.before args s = true)
    {q : Nat × Nat × Nat × Option Nat × zRel} (hq : zCy R own q) : zCl p l e R s m args below meth c cells slots Q cc nL D ca ad A s.heap q := by
  intro as h r h' H locs rest la pc ins hR hlen hrc hd hin hI hsz hsum kk
  obtain ⟨hq, w1, w2, w3, w4, hf, hl⟩ := hq
  obtain ⟨qi, q2⟩ := q
  subst hq
  obtain ⟨a0, a1, n0, n1, sp, dp, n, rfl, s0, s1, c1, c2, c3, c4, c5, rfl, rfl⟩ := hR
  rcases hin with ⟨-, hf⟩ | ⟨hins, -⟩
  · cases hf
  rw [hins] at hd
  have hst : (List.map (zv ad) [Value.ref a0, Value.int sp, Value.ref a1, Value.int dp, Value.int n]).reverse ++ rest = Value.int n :: Value.int dp :: Value.ref (ad a1) :: Value.int sp :: Value.ref (ad a0) :: rest := by simp [zv]
  rw [hst]
  refine va_copyi hx hb (by rw [hml, hsz]) hown (hts _ w1) (hts _ w2) (hts _ w3) (hts _ w4) hK hI.1 hI.2.1 hI.2.2 a0 a1 0 0 (zW_get (ca := ca) (ad := ad) (h := h) s0) (zW_get (ca := ca) (ad := ad) (h := h) s1) rfl rfl rfl c1 c2 c3 c4 c5 (fun _ _ => rfl) hf (by omega) hd (fun H1 locs1 p1 p2 p3 => ?_)
  have e := zW_set (ca := ca) (ad := ad) (h := h) (h' := zcpy h a0 sp.toNatClampNeg a1 dp.toNatClampNeg n.toNatClampNeg) (e := .inl (ca 0, n1, .inl (va_cpy (h.1 a0) (h.1 a1) sp.toNatClampNeg dp.toNatClampNeg n.toNatClampNeg))) s1 (by simp [zE, zcpy]) (fun q hq => ⟨by simp [zcpy, hq], rfl⟩)
  rw [e] at p1 p2
  exact kk H1 locs1 ⟨p1, p2, p3⟩
end ZC
/-! a method out of its code -/
def zFT (own : String) (q : Nat × Nat × Nat × Bool) : Prop := ∃ (C : String) (T : u_T) (N : Nat) (ty0 : Nat → FieldType), vwCl[q.2.1]? = some (C, T, N) ∧ q.2.2.1 < N ∧ (∀ w ∈ u_ws C T N, w ∈ zTb) ∧ Cond.fieldLink own q.1 (T q.2.2.1).1 (T q.2.2.1).2.1 (T q.2.2.1).2.2.1 ∈ zTb ∧ (∀ k, k < N → parseFieldDescriptor (T k).2.2.1 = some (ty0 k)) ∧ (∀ a, a < N → ∀ b, b < N → a ≠ b → (T a).2.1 ≠ (T b).2.1) ∧ (q.2.2.2 = true → (T q.2.2.1).2.2.2 = false ∧ ty0 q.2.2.1 = .int)
def zGT (own : String) (q : Nat × Nat) : Prop := (q.2 = 102 ∧ Cond.fieldLink own q.1 "SunRings" "RULES_LEAST" "[I" ∈ zTb) ∨ (q.2 = 103 ∧ Cond.fieldLink own q.1 "SunRings" "RULES_MOST" "[I" ∈ zTb) ∨ (q = (64, 102) ∧ own = "SunRings$Ice")
def zExs : List (Nat × Nat × (Nat → Int32)) := [(102, 5, zRL), (103, 5, zRM)]
theorem znd_spec : ∀ {as : List Value}, znd as = true → ∀ v ∈ as, ∀ d, v ≠ .double d
  | [], _, v, hv, _ => by cases hv
  | w :: vs, h, v, hv, d => by
    have h2 : znd vs = true ∧ ∀ d, w ≠ .double d := by
      cases w <;> first | exact ⟨h, fun d q => by cases q⟩ | cases h
    rcases List.mem_cons.mp hv with e | e
    · rw [e]; exact h2.2 d
    · exact znd_spec h2.1 v e d
theorem zarg_len (ad : Nat → Nat) : ∀ as : List Value, (∀ v ∈ as, ∀ d, v ≠ .double d) → (lg_sl (as.map (zv ad))).length = (zarg as).length
  | [], _ => rfl
  | v :: vs, hd => by
    have ih := zarg_len ad vs (fun w hw => hd w (List.mem_cons_of_mem _ hw))
    unfold lg_sl at ih ⊢
    rw [List.map_cons, List.flatMap_cons, List.length_append, ih]
    cases v with
    | double d => exact absurd rfl (hd _ List.mem_cons_self d)
    | _ => simp [zarg, zv, Value.category] <;> omega
theorem zarg_at (ad : Nat → Nat) : ∀ (as : List Value) (i0 : Nat), (∀ v ∈ as, ∀ d, v ≠ .double d) → ∀ (i : Nat) (v : Value), (zarg as)[i]? = some (some v) → (i0 + i, zv ad v) ∈ lv_args i0 (as.map (zv ad))
  | [], _, _, i, v, h => by simp [zarg] at h
  | w :: vs, i0, hd, i, v, h => by
    have hd2 : ∀ v ∈ vs, ∀ d, v ≠ .double d := fun w hw => hd w (List.mem_cons_of_mem _ hw)
    by_cases hw : ∃ x, w = .long x
    · obtain ⟨x, rfl⟩ := hw
      simp only [zarg] at h
      simp only [List.map_cons, lv_args]
      match i, h with
      | 0, h => simp at h; subst h; simp [zv]
      | 1, h => simp at h
      | j + 2, h =>
        have ih := zarg_at ad vs (i0 + 2) hd2 j v (by simpa using h)
        refine List.mem_cons_of_mem _ ?_
        have e : i0 + (j + 2) = i0 + 2 + j := by omega
        rw [e]
        simpa [zv, Value.category] using ih
    · have e : zarg (w :: vs) = some w :: zarg vs := by
        cases w with
        | long x => exact absurd ⟨x, rfl⟩ hw
        | _ => rfl
      have hc : (zv ad w).category = 1 := by
        cases w with
        | long x => exact absurd ⟨x, rfl⟩ hw
        | double d => exact absurd rfl (hd _ List.mem_cons_self d)
        | _ => rfl
      rw [e] at h
      simp only [List.map_cons, lv_args]
      match i, h with
      | 0, h => simp at h; subst h; simp
      | j + 1, h =>
        have ih := zarg_at ad vs (i0 + 1) hd2 j v (by simpa using h)
        refine List.mem_cons_of_mem _ ?_
        have e : i0 + (j + 1) = i0 + 1 + j := by omega
        rw [e]
        simpa [hc] using ih
set_option maxHeartbeats 4000000 in
theorem z_met {l : Launch} {y : MethodName} {bytes : ByteArray} {maxL : Nat} {ret : Option FieldType} {rm : Room} {M : zM} (hy : plainFor y = true)
    (hdec : ∀ q ∈ M.1, decode bytes q.1 = .ok (q.2.1, q.2.2)) (hch : zch M.1 = true) (h0 : zpc M.1 = 0) (hfl : ∀ q ∈ M.2.1, zFT y.cls q) (hgs : ∀ q ∈ M.2.2.1, zGT y.cls q) (hcn : ∀ q ∈ M.2.2.2.1, Cond.constant y.cls q.1 q.2 ∈ zTb) (hcl : ∀ q ∈ M.2.2.2.2.1, Cond.constantLong y.cls q.1 q.2 ∈ zTb)
    (hca : ∀ q ∈ M.2.2.2.2.2.1, zCm l rm y.cls q) (hex : M.2.2.2.2.2.2 = zExs ∨ M.2.2.2.2.2.2 = []) : zMet l y bytes maxL ret rm (zR M maxL ret) := by
  intro D ca ad sz as h r h' hR
  obtain ⟨hck, hkd, hgo⟩ := hR
  obtain ⟨hble, hnd0⟩ := Bool.and_eq_true_iff.mp hck
  have hnd := znd_spec hnd0
  refine va_MetF (cc := bytes) (maxL := maxL) (ret := ret) hy rfl ?_
  intro p e s m args below meth c s₁ B hml hv
  obtain ⟨rfl, hsz, hP, hK, hD, hX⟩ := hv
  subst hsz
  have hx := B.exec
  have hb := B.bytes
  have hr := B.returns
  have hlocks := B.notSynchronized
  have hts0 := atoms_spec (ws := zws y bytes maxL ret) B.pre
  have hts : ∀ w ∈ zTb, w.before (as.map (zv ad)).toArray s = true := fun w hw => hts0 w (List.mem_cons_of_mem _ hw)
  have hown : s.vm.findClass y.cls = some m.cls := findClass_of_methodNamed B.named
  have hlen : (lg_sl (as.map (zv ad))).length ≤ maxL := by rw [zarg_len ad as hnd]; exact Nat.le_of_ble_eq_true hble
  have hl := lv_entry (as.map (zv ad)) hlen
  rw [lg_entry_eq]
  generalize (lg_sl (as.map (zv ad)) ++ List.replicate (maxL - (lg_sl (as.map (zv ad))).length) Slot.unset).toArray = la at hl ⊢
  have hlo : zLo ad maxL la (zini maxL as) := by
    refine ⟨⟨hl.1, hl.2.1, fun q hq => ?_⟩, ?_⟩
    · obtain ⟨i, v, hi, rfl⟩ := zl_mem.mp hq
      unfold zini at hi
      by_cases hil : i < (zarg as).length
      · rw [List.getElem?_append_left hil] at hi
        have := zarg_at ad as 0 hnd i v hi
        rw [Nat.zero_add] at this
        exact hl.2.2 _ this
      · rw [List.getElem?_append_right (by omega)] at hi
        have := List.eq_of_mem_replicate (List.mem_of_getElem? hi)
        cases this
    · have := Nat.le_of_ble_eq_true hble
      simp only [zini, List.length_append, List.length_replicate]
      omega
  have hI : zInv D ca ad (zA ad s.heap.size) s.heap h s.heap [] := ⟨hP, hD, va_S.rf⟩
  have key := z_snd (p := p) (l := l) (e := e) (R := rm) (s := s) (m := m) (args := (as.map (zv ad)).toArray) (below := below) (meth := meth) (c := c) (cells := 0) (slots := 0) (Q := MQ below (zPost D ca ad s.heap.size r h') (as.map (zv ad)).toArray s 0 0 (zA ad s.heap.size)) (cc := bytes) (own := y.cls) (nL := maxL) (D := D) (ca := ca) (ad := ad) (A := zA ad s.heap.size) (M := M) (post := fun r1 h1 => r1 = r ∧ h1 = h')
    hx hb hml hown hK ?_ ?_ ?_ ?_ ?_ ?_ ?_ ?_ ?_ hdec hch M.1 _ _ _ (List.suffix_refl _) hgo s.heap [] la hlo hI
  · rw [h0] at key
    exact key
  · intro q hq
    obtain ⟨C, T, N, ty0, g1, g2, g3, g4, g5, g6, g7⟩ := hfl q hq
    exact ⟨C, T, N, ty0, g1, g2, fun w hw => hts w (g3 w hw), hts _ g4, g5, g6, g7⟩
  · intro q hq H locs pc la rest hS hd kk
    obtain ⟨z1, z2, -, -, z5⟩ := hX
    rcases hgs q hq with ⟨g1, g2⟩ | ⟨g1, g2⟩ | ⟨g1, g2⟩
    · rw [g1] at kk
      exact va_gets hx hb z1 hS hown (hts _ g2) (fun x h => h) hd kk
    · rw [g1] at kk
      exact va_gets hx hb z2 hS hown (hts _ g2) (fun x h => h) hd kk
    · rw [g1] at kk hd
      exact va_getsN hx hb z1 hS (by rw [← g2]; exact hown) (va_Nw.use rfl z5) (fun x h => h) hd kk
  · intro q hq; exact hts _ (hcn q hq)
  · intro q hq; exact hts _ (hcl q hq)
  · intro q hq
    rcases hca q hq with h1 | h1
    · exact z_cl hx hb hml hown hK hts hX (fun q h => h) ⟨Nat.zero_le _, Nat.zero_le _⟩ h1
    · exact z_cy hx hb hml hown hK hts h1
  · intro q hq
    obtain ⟨-, -, z3, z4, -⟩ := hX
    rcases hex with he | he
    · rw [he] at hq
      simp only [zExs, List.mem_cons, List.not_mem_nil, or_false] at hq
      rcases hq with rfl | rfl
      · exact z3
      · exact z4
    · rw [he] at hq; cases hq
  · intro h1 v H locs pc la hI hpost hd
    obtain ⟨rfl, rfl⟩ := hpost
    have hret : ∃ ty, ret = some ty ∧ narrow ty (.int v) = .int v := by
      unfold zkd at hkd
      split at hkd
      · cases hkd
      · obtain ⟨_, q⟩ := hkd; cases q
      · exact ⟨_, rfl, rfl⟩
      · refine ⟨_, rfl, ?_⟩
        rcases hkd with q | q <;> (cases q; decide)
      · exact hkd.elim
    obtain ⟨ty, rfl, hn⟩ := hret
    exact W.zret hx hb hr hn (fun t ht hW => ⟨rfl, by rw [ht]; exact hI.1, hI.2.2.F ht⟩) (fun q hq => hI.2.2.2.2 q hq) hd
  · intro h1 v H locs pc la hI hpost hd
    obtain ⟨rfl, rfl⟩ := hpost
    have hret : ret = some .long := by
      unfold zkd at hkd
      split at hkd
      · cases hkd
      · rfl
      · obtain ⟨_, q⟩ := hkd; cases q
      · rcases hkd with q | q <;> cases q
      · exact hkd.elim
    subst hret
    exact W.lret hx hb hr (fun t ht hW => ⟨rfl, by rw [ht]; exact hI.1, hI.2.2.F ht⟩) (fun q hq => hI.2.2.2.2 q hq) hd
  · intro h1 H locs pc la hI hpost hd
    obtain ⟨rfl, rfl⟩ := hpost
    have hret : ret = none := by
      unfold zkd at hkd
      split at hkd
      · rfl
      · obtain ⟨_, q⟩ := hkd; cases q
      · obtain ⟨_, q⟩ := hkd; cases q
      · rcases hkd with q | q <;> cases q
      · exact hkd.elim
    subst hret
    exact W.vret hx hb hr (fun t ht hW => ⟨rfl, by rw [ht]; exact hI.1, hI.2.2.F ht⟩) (fun q hq => hI.2.2.2.2 q hq) hd
end
section
theorem ziX0 : ∀ w ∈ u_ws RX0 TX0 3, w ∈ zTb := zTb_all _ [182, 184, 186] (by decide +kernel) (by decide +kernel)
theorem ziX1 : ∀ w ∈ u_ws RX1 TX1 4, w ∈ zTb := zTb_all _ [200, 202, 204, 206] (by decide +kernel) (by decide +kernel)
theorem ziX2 : ∀ w ∈ u_ws RX2 TX2 4, w ∈ zTb := zTb_all _ [160, 162, 164, 166] (by decide +kernel) (by decide +kernel)
theorem ziX3 : ∀ w ∈ u_ws RX3 TX3 3, w ∈ zTb := zTb_all _ [108, 110, 112] (by decide +kernel) (by decide +kernel)
theorem ziX4 : ∀ w ∈ u_ws RX4 TX4 2, w ∈ zTb := zTb_all _ [144, 146] (by decide +kernel) (by decide +kernel)
theorem ziX5 : ∀ w ∈ u_ws RX5 TX5 2, w ∈ zTb := zTb_all _ [134, 136] (by decide +kernel) (by decide +kernel)
theorem ziX6 : ∀ w ∈ u_ws RX6 TX6 5, w ∈ zTb := zTb_all _ [85, 87, 89, 91, 93] (by decide +kernel) (by decide +kernel)
theorem ziX7 : ∀ w ∈ u_ws RX7 TX7 8, w ∈ zTb := zTb_all _ [217, 219, 221, 223, 225, 227, 229, 231] (by decide +kernel) (by decide +kernel)
theorem ziX8 : ∀ w ∈ u_ws RX8 TX8 29, w ∈ zTb := zTb_all _ [648, 650, 652, 654, 656, 658, 660, 662, 664, 666, 668, 670, 672, 674, 676, 678, 680, 682, 684, 686, 688, 690, 692, 694, 696, 698, 700, 702, 704] (by decide +kernel) (by decide +kernel)
def zfJ6 : List (Nat × Nat × Nat × Bool) := []
theorem zfJ6_ok : ∀ q ∈ zfJ6, zFT RJ6 q := fun _ h => absurd h List.not_mem_nil
def zgJ6 : List (Nat × Nat) := []
theorem zgJ6_ok : ∀ q ∈ zgJ6, zGT RJ6 q := fun _ h => absurd h List.not_mem_nil
def znJ6 : List (Nat × Int32) := [(265, 1431655765), (266, 858993459), (267, 252645135)]
theorem znJ6_ok : ∀ q ∈ znJ6, Cond.constant RJ6 q.1 q.2 ∈ zTb := List.forall_mem_cons.mpr ⟨zTb_in 602 (by decide +kernel) (by decide +kernel), List.forall_mem_cons.mpr ⟨zTb_in 603 (by decide +kernel) (by decide +kernel), List.forall_mem_cons.mpr ⟨zTb_in 604 (by decide +kernel) (by decide +kernel), fun _ h => absurd h List.not_mem_nil⟩⟩⟩
def zoJ6 : List (Nat × Int64) := []
theorem zoJ6_ok : ∀ q ∈ zoJ6, Cond.constantLong RJ6 q.1 q.2 ∈ zTb := fun _ h => absurd h List.not_mem_nil
def zfJ7 : List (Nat × Nat × Nat × Bool) := []
theorem zfJ7_ok : ∀ q ∈ zfJ7, zFT RJ7 q := fun _ h => absurd h List.not_mem_nil
def zgJ7 : List (Nat × Nat) := []
theorem zgJ7_ok : ∀ q ∈ zgJ7, zGT RJ7 q := fun _ h => absurd h List.not_mem_nil
def znJ7 : List (Nat × Int32) := []
theorem znJ7_ok : ∀ q ∈ znJ7, Cond.constant RJ7 q.1 q.2 ∈ zTb := fun _ h => absurd h List.not_mem_nil
def zoJ7 : List (Nat × Int64) := []
theorem zoJ7_ok : ∀ q ∈ zoJ7, Cond.constantLong RJ7 q.1 q.2 ∈ zTb := fun _ h => absurd h List.not_mem_nil
def zfJ9 : List (Nat × Nat × Nat × Bool) := []
theorem zfJ9_ok : ∀ q ∈ zfJ9, zFT RJ9 q := fun _ h => absurd h List.not_mem_nil
def zgJ9 : List (Nat × Nat) := []
theorem zgJ9_ok : ∀ q ∈ zgJ9, zGT RJ9 q := fun _ h => absurd h List.not_mem_nil
def znJ9 : List (Nat × Int32) := []
theorem znJ9_ok : ∀ q ∈ znJ9, Cond.constant RJ9 q.1 q.2 ∈ zTb := fun _ h => absurd h List.not_mem_nil
def zoJ9 : List (Nat × Int64) := []
theorem zoJ9_ok : ∀ q ∈ zoJ9, Cond.constantLong RJ9 q.1 q.2 ∈ zTb := fun _ h => absurd h List.not_mem_nil
def zfX0 : List (Nat × Nat × Nat × Bool) := [(9, 0, 1, false), (15, 0, 2, false), (18, 0, 0, false), (34, 4, 1, false), (38, 5, 1, true)]
theorem zfX0_ok : ∀ q ∈ zfX0, zFT RX0 q := List.forall_mem_cons.mpr ⟨⟨_, _, _, tyX0, rfl, by decide, ziX0, zTb_in 179 (by decide +kernel) (by decide +kernel), tyX0_ok, nmX0, fun h => by cases h⟩,
  List.forall_mem_cons.mpr ⟨⟨_, _, _, tyX0, rfl, by decide, ziX0, zTb_in 181 (by decide +kernel) (by decide +kernel), tyX0_ok, nmX0, fun h => by cases h⟩,
  List.forall_mem_cons.mpr ⟨⟨_, _, _, tyX0, rfl, by decide, ziX0, zTb_in 178 (by decide +kernel) (by decide +kernel), tyX0_ok, nmX0, fun h => by cases h⟩,
  List.forall_mem_cons.mpr ⟨⟨_, _, _, tyX4, rfl, by decide, ziX4, zTb_in 141 (by decide +kernel) (by decide +kernel), tyX4_ok, nmX4, fun h => by cases h⟩,
  List.forall_mem_cons.mpr ⟨⟨_, _, _, tyX5, rfl, by decide, ziX5, zTb_in 130 (by decide +kernel) (by decide +kernel), tyX5_ok, nmX5, fun _ => ⟨rfl, rfl⟩⟩,
  fun _ h => absurd h List.not_mem_nil⟩⟩⟩⟩⟩
def zgX0 : List (Nat × Nat) := []
theorem zgX0_ok : ∀ q ∈ zgX0, zGT RX0 q := fun _ h => absurd h List.not_mem_nil
def znX0 : List (Nat × Int32) := []
theorem znX0_ok : ∀ q ∈ znX0, Cond.constant RX0 q.1 q.2 ∈ zTb := fun _ h => absurd h List.not_mem_nil
def zoX0 : List (Nat × Int64) := []
theorem zoX0_ok : ∀ q ∈ zoX0, Cond.constantLong RX0 q.1 q.2 ∈ zTb := fun _ h => absurd h List.not_mem_nil
def zfX1 : List (Nat × Nat × Nat × Bool) := [(9, 1, 0, false), (15, 1, 1, false), (18, 1, 2, false), (21, 1, 3, true)]
theorem zfX1_ok : ∀ q ∈ zfX1, zFT RX1 q := List.forall_mem_cons.mpr ⟨⟨_, _, _, tyX1, rfl, by decide, ziX1, zTb_in 195 (by decide +kernel) (by decide +kernel), tyX1_ok, nmX1, fun h => by cases h⟩,
  List.forall_mem_cons.mpr ⟨⟨_, _, _, tyX1, rfl, by decide, ziX1, zTb_in 196 (by decide +kernel) (by decide +kernel), tyX1_ok, nmX1, fun h => by cases h⟩,
  List.forall_mem_cons.mpr ⟨⟨_, _, _, tyX1, rfl, by decide, ziX1, zTb_in 197 (by decide +kernel) (by decide +kernel), tyX1_ok, nmX1, fun h => by cases h⟩,
  List.forall_mem_cons.mpr ⟨⟨_, _, _, tyX1, rfl, by decide, ziX1, zTb_in 198 (by decide +kernel) (by decide +kernel), tyX1_ok, nmX1, fun _ => ⟨rfl, rfl⟩⟩,
  fun _ h => absurd h List.not_mem_nil⟩⟩⟩⟩
def zgX1 : List (Nat × Nat) := []
theorem zgX1_ok : ∀ q ∈ zgX1, zGT RX1 q := fun _ h => absurd h List.not_mem_nil
def znX1 : List (Nat × Int32) := []
theorem znX1_ok : ∀ q ∈ znX1, Cond.constant RX1 q.1 q.2 ∈ zTb := fun _ h => absurd h List.not_mem_nil
def zoX1 : List (Nat × Int64) := []
theorem zoX1_ok : ∀ q ∈ zoX1, Cond.constantLong RX1 q.1 q.2 ∈ zTb := fun _ h => absurd h List.not_mem_nil
def zfX2 : List (Nat × Nat × Nat × Bool) := [(9, 2, 1, false), (15, 2, 3, false), (18, 2, 0, false), (22, 2, 2, true), (26, 4, 1, false), (50, 5, 1, true)]
theorem zfX2_ok : ∀ q ∈ zfX2, zFT RX2 q := List.forall_mem_cons.mpr ⟨⟨_, _, _, tyX2, rfl, by decide, ziX2, zTb_in 156 (by decide +kernel) (by decide +kernel), tyX2_ok, nmX2, fun h => by cases h⟩,
  List.forall_mem_cons.mpr ⟨⟨_, _, _, tyX2, rfl, by decide, ziX2, zTb_in 159 (by decide +kernel) (by decide +kernel), tyX2_ok, nmX2, fun h => by cases h⟩,
  List.forall_mem_cons.mpr ⟨⟨_, _, _, tyX2, rfl, by decide, ziX2, zTb_in 155 (by decide +kernel) (by decide +kernel), tyX2_ok, nmX2, fun h => by cases h⟩,
  List.forall_mem_cons.mpr ⟨⟨_, _, _, tyX2, rfl, by decide, ziX2, zTb_in 157 (by decide +kernel) (by decide +kernel), tyX2_ok, nmX2, fun _ => ⟨rfl, rfl⟩⟩,
  List.forall_mem_cons.mpr ⟨⟨_, _, _, tyX4, rfl, by decide, ziX4, zTb_in 142 (by decide +kernel) (by decide +kernel), tyX4_ok, nmX4, fun h => by cases h⟩,
  List.forall_mem_cons.mpr ⟨⟨_, _, _, tyX5, rfl, by decide, ziX5, zTb_in 132 (by decide +kernel) (by decide +kernel), tyX5_ok, nmX5, fun _ => ⟨rfl, rfl⟩⟩,
  fun _ h => absurd h List.not_mem_nil⟩⟩⟩⟩⟩⟩
def zgX2 : List (Nat × Nat) := []
theorem zgX2_ok : ∀ q ∈ zgX2, zGT RX2 q := fun _ h => absurd h List.not_mem_nil
def znX2 : List (Nat × Int32) := [(62, 65535), (67, 6488064), (72, 65536)]
theorem znX2_ok : ∀ q ∈ znX2, Cond.constant RX2 q.1 q.2 ∈ zTb := List.forall_mem_cons.mpr ⟨zTb_in 486 (by decide +kernel) (by decide +kernel), List.forall_mem_cons.mpr ⟨zTb_in 479 (by decide +kernel) (by decide +kernel), List.forall_mem_cons.mpr ⟨zTb_in 484 (by decide +kernel) (by decide +kernel), fun _ h => absurd h List.not_mem_nil⟩⟩⟩
def zoX2 : List (Nat × Int64) := []
theorem zoX2_ok : ∀ q ∈ zoX2, Cond.constantLong RX2 q.1 q.2 ∈ zTb := fun _ h => absurd h List.not_mem_nil
def zfX3 : List (Nat × Nat × Nat × Bool) := [(9, 3, 1, false), (15, 3, 2, false), (18, 3, 0, false), (28, 6, 1, false)]
theorem zfX3_ok : ∀ q ∈ zfX3, zFT RX3 q := List.forall_mem_cons.mpr ⟨⟨_, _, _, tyX3, rfl, by decide, ziX3, zTb_in 105 (by decide +kernel) (by decide +kernel), tyX3_ok, nmX3, fun h => by cases h⟩,
  List.forall_mem_cons.mpr ⟨⟨_, _, _, tyX3, rfl, by decide, ziX3, zTb_in 107 (by decide +kernel) (by decide +kernel), tyX3_ok, nmX3, fun h => by cases h⟩,
  List.forall_mem_cons.mpr ⟨⟨_, _, _, tyX3, rfl, by decide, ziX3, zTb_in 104 (by decide +kernel) (by decide +kernel), tyX3_ok, nmX3, fun h => by cases h⟩,
  List.forall_mem_cons.mpr ⟨⟨_, _, _, tyX6, rfl, by decide, ziX6, zTb_in 75 (by decide +kernel) (by decide +kernel), tyX6_ok, nmX6, fun h => by cases h⟩,
  fun _ h => absurd h List.not_mem_nil⟩⟩⟩⟩
def zgX3 : List (Nat × Nat) := []
theorem zgX3_ok : ∀ q ∈ zgX3, zGT RX3 q := fun _ h => absurd h List.not_mem_nil
def znX3 : List (Nat × Int32) := []
theorem znX3_ok : ∀ q ∈ znX3, Cond.constant RX3 q.1 q.2 ∈ zTb := fun _ h => absurd h List.not_mem_nil
def zoX3 : List (Nat × Int64) := [(60, 2)]
theorem zoX3_ok : ∀ q ∈ zoX3, Cond.constantLong RX3 q.1 q.2 ∈ zTb := List.forall_mem_cons.mpr ⟨zTb_in 338 (by decide +kernel) (by decide +kernel), fun _ h => absurd h List.not_mem_nil⟩
def zfX4 : List (Nat × Nat × Nat × Bool) := [(12, 4, 1, false), (18, 4, 0, false), (31, 5, 1, true), (35, 6, 3, false), (39, 6, 4, false), (42, 6, 2, false), (67, 6, 1, false)]
theorem zfX4_ok : ∀ q ∈ zfX4, zFT RX4 q := List.forall_mem_cons.mpr ⟨⟨_, _, _, tyX4, rfl, by decide, ziX4, zTb_in 140 (by decide +kernel) (by decide +kernel), tyX4_ok, nmX4, fun h => by cases h⟩,
  List.forall_mem_cons.mpr ⟨⟨_, _, _, tyX4, rfl, by decide, ziX4, zTb_in 139 (by decide +kernel) (by decide +kernel), tyX4_ok, nmX4, fun h => by cases h⟩,
  List.forall_mem_cons.mpr ⟨⟨_, _, _, tyX5, rfl, by decide, ziX5, zTb_in 131 (by decide +kernel) (by decide +kernel), tyX5_ok, nmX5, fun _ => ⟨rfl, rfl⟩⟩,
  List.forall_mem_cons.mpr ⟨⟨_, _, _, tyX6, rfl, by decide, ziX6, zTb_in 81 (by decide +kernel) (by decide +kernel), tyX6_ok, nmX6, fun h => by cases h⟩,
  List.forall_mem_cons.mpr ⟨⟨_, _, _, tyX6, rfl, by decide, ziX6, zTb_in 84 (by decide +kernel) (by decide +kernel), tyX6_ok, nmX6, fun h => by cases h⟩,
  List.forall_mem_cons.mpr ⟨⟨_, _, _, tyX6, rfl, by decide, ziX6, zTb_in 79 (by decide +kernel) (by decide +kernel), tyX6_ok, nmX6, fun h => by cases h⟩,
  List.forall_mem_cons.mpr ⟨⟨_, _, _, tyX6, rfl, by decide, ziX6, zTb_in 77 (by decide +kernel) (by decide +kernel), tyX6_ok, nmX6, fun h => by cases h⟩,
  fun _ h => absurd h List.not_mem_nil⟩⟩⟩⟩⟩⟩⟩
def zgX4 : List (Nat × Nat) := [(64, 102)]
theorem zgX4_ok : ∀ q ∈ zgX4, zGT RX4 q := List.forall_mem_cons.mpr ⟨Or.inr <| Or.inr ⟨rfl, rfl⟩, fun _ h => absurd h List.not_mem_nil⟩
def znX4 : List (Nat × Int32) := []
theorem znX4_ok : ∀ q ∈ znX4, Cond.constant RX4 q.1 q.2 ∈ zTb := fun _ h => absurd h List.not_mem_nil
def zoX4 : List (Nat × Int64) := []
theorem zoX4_ok : ∀ q ∈ zoX4, Cond.constantLong RX4 q.1 q.2 ∈ zTb := fun _ h => absurd h List.not_mem_nil
def zfX5 : List (Nat × Nat × Nat × Bool) := [(9, 5, 0, false), (15, 5, 1, true)]
theorem zfX5_ok : ∀ q ∈ zfX5, zFT RX5 q := List.forall_mem_cons.mpr ⟨⟨_, _, _, tyX5, rfl, by decide, ziX5, zTb_in 128 (by decide +kernel) (by decide +kernel), tyX5_ok, nmX5, fun h => by cases h⟩,
  List.forall_mem_cons.mpr ⟨⟨_, _, _, tyX5, rfl, by decide, ziX5, zTb_in 129 (by decide +kernel) (by decide +kernel), tyX5_ok, nmX5, fun _ => ⟨rfl, rfl⟩⟩,
  fun _ h => absurd h List.not_mem_nil⟩⟩
def zgX5 : List (Nat × Nat) := []
theorem zgX5_ok : ∀ q ∈ zgX5, zGT RX5 q := fun _ h => absurd h List.not_mem_nil
def znX5 : List (Nat × Int32) := []
theorem znX5_ok : ∀ q ∈ znX5, Cond.constant RX5 q.1 q.2 ∈ zTb := fun _ h => absurd h List.not_mem_nil
def zoX5 : List (Nat × Int64) := []
theorem zoX5_ok : ∀ q ∈ zoX5, Cond.constantLong RX5 q.1 q.2 ∈ zTb := fun _ h => absurd h List.not_mem_nil
def zfX6 : List (Nat × Nat × Nat × Bool) := [(18, 6, 0, false), (26, 6, 1, false), (29, 6, 2, false), (32, 6, 3, false), (35, 6, 4, false)]
theorem zfX6_ok : ∀ q ∈ zfX6, zFT RX6 q := List.forall_mem_cons.mpr ⟨⟨_, _, _, tyX6, rfl, by decide, ziX6, zTb_in 73 (by decide +kernel) (by decide +kernel), tyX6_ok, nmX6, fun h => by cases h⟩,
  List.forall_mem_cons.mpr ⟨⟨_, _, _, tyX6, rfl, by decide, ziX6, zTb_in 74 (by decide +kernel) (by decide +kernel), tyX6_ok, nmX6, fun h => by cases h⟩,
  List.forall_mem_cons.mpr ⟨⟨_, _, _, tyX6, rfl, by decide, ziX6, zTb_in 78 (by decide +kernel) (by decide +kernel), tyX6_ok, nmX6, fun h => by cases h⟩,
  List.forall_mem_cons.mpr ⟨⟨_, _, _, tyX6, rfl, by decide, ziX6, zTb_in 80 (by decide +kernel) (by decide +kernel), tyX6_ok, nmX6, fun h => by cases h⟩,
  List.forall_mem_cons.mpr ⟨⟨_, _, _, tyX6, rfl, by decide, ziX6, zTb_in 83 (by decide +kernel) (by decide +kernel), tyX6_ok, nmX6, fun h => by cases h⟩,
  fun _ h => absurd h List.not_mem_nil⟩⟩⟩⟩⟩
def zgX6 : List (Nat × Nat) := []
theorem zgX6_ok : ∀ q ∈ zgX6, zGT RX6 q := fun _ h => absurd h List.not_mem_nil
def znX6 : List (Nat × Int32) := []
theorem znX6_ok : ∀ q ∈ znX6, Cond.constant RX6 q.1 q.2 ∈ zTb := fun _ h => absurd h List.not_mem_nil
def zoX6 : List (Nat × Int64) := []
theorem zoX6_ok : ∀ q ∈ zoX6, Cond.constantLong RX6 q.1 q.2 ∈ zTb := fun _ h => absurd h List.not_mem_nil
def zfX7 : List (Nat × Nat × Nat × Bool) := [(12, 7, 0, false), (16, 7, 1, false), (20, 7, 2, true), (29, 7, 3, false), (36, 7, 4, false), (45, 7, 5, false), (52, 7, 6, false), (59, 7, 7, false), (78, 6, 1, false), (114, 3, 1, false), (137, 6, 3, false), (151, 4, 1, false), (155, 5, 1, true), (167, 2, 2, true), (185, 0, 1, false), (212, 1, 3, true)]
theorem zfX7_ok : ∀ q ∈ zfX7, zFT RX7 q := List.forall_mem_cons.mpr ⟨⟨_, _, _, tyX7, rfl, by decide, ziX7, zTb_in 209 (by decide +kernel) (by decide +kernel), tyX7_ok, nmX7, fun h => by cases h⟩,
  List.forall_mem_cons.mpr ⟨⟨_, _, _, tyX7, rfl, by decide, ziX7, zTb_in 210 (by decide +kernel) (by decide +kernel), tyX7_ok, nmX7, fun h => by cases h⟩,
  List.forall_mem_cons.mpr ⟨⟨_, _, _, tyX7, rfl, by decide, ziX7, zTb_in 211 (by decide +kernel) (by decide +kernel), tyX7_ok, nmX7, fun _ => ⟨rfl, rfl⟩⟩,
  List.forall_mem_cons.mpr ⟨⟨_, _, _, tyX7, rfl, by decide, ziX7, zTb_in 212 (by decide +kernel) (by decide +kernel), tyX7_ok, nmX7, fun h => by cases h⟩,
  List.forall_mem_cons.mpr ⟨⟨_, _, _, tyX7, rfl, by decide, ziX7, zTb_in 213 (by decide +kernel) (by decide +kernel), tyX7_ok, nmX7, fun h => by cases h⟩,
  List.forall_mem_cons.mpr ⟨⟨_, _, _, tyX7, rfl, by decide, ziX7, zTb_in 214 (by decide +kernel) (by decide +kernel), tyX7_ok, nmX7, fun h => by cases h⟩,
  List.forall_mem_cons.mpr ⟨⟨_, _, _, tyX7, rfl, by decide, ziX7, zTb_in 215 (by decide +kernel) (by decide +kernel), tyX7_ok, nmX7, fun h => by cases h⟩,
  List.forall_mem_cons.mpr ⟨⟨_, _, _, tyX7, rfl, by decide, ziX7, zTb_in 216 (by decide +kernel) (by decide +kernel), tyX7_ok, nmX7, fun h => by cases h⟩,
  List.forall_mem_cons.mpr ⟨⟨_, _, _, tyX6, rfl, by decide, ziX6, zTb_in 76 (by decide +kernel) (by decide +kernel), tyX6_ok, nmX6, fun h => by cases h⟩,
  List.forall_mem_cons.mpr ⟨⟨_, _, _, tyX3, rfl, by decide, ziX3, zTb_in 106 (by decide +kernel) (by decide +kernel), tyX3_ok, nmX3, fun h => by cases h⟩,
  List.forall_mem_cons.mpr ⟨⟨_, _, _, tyX6, rfl, by decide, ziX6, zTb_in 82 (by decide +kernel) (by decide +kernel), tyX6_ok, nmX6, fun h => by cases h⟩,
  List.forall_mem_cons.mpr ⟨⟨_, _, _, tyX4, rfl, by decide, ziX4, zTb_in 143 (by decide +kernel) (by decide +kernel), tyX4_ok, nmX4, fun h => by cases h⟩,
  List.forall_mem_cons.mpr ⟨⟨_, _, _, tyX5, rfl, by decide, ziX5, zTb_in 133 (by decide +kernel) (by decide +kernel), tyX5_ok, nmX5, fun _ => ⟨rfl, rfl⟩⟩,
  List.forall_mem_cons.mpr ⟨⟨_, _, _, tyX2, rfl, by decide, ziX2, zTb_in 158 (by decide +kernel) (by decide +kernel), tyX2_ok, nmX2, fun _ => ⟨rfl, rfl⟩⟩,
  List.forall_mem_cons.mpr ⟨⟨_, _, _, tyX0, rfl, by decide, ziX0, zTb_in 180 (by decide +kernel) (by decide +kernel), tyX0_ok, nmX0, fun h => by cases h⟩,
  List.forall_mem_cons.mpr ⟨⟨_, _, _, tyX1, rfl, by decide, ziX1, zTb_in 199 (by decide +kernel) (by decide +kernel), tyX1_ok, nmX1, fun _ => ⟨rfl, rfl⟩⟩,
  fun _ h => absurd h List.not_mem_nil⟩⟩⟩⟩⟩⟩⟩⟩⟩⟩⟩⟩⟩⟩⟩⟩
def zgX7 : List (Nat × Nat) := [(71, 102), (75, 103)]
theorem zgX7_ok : ∀ q ∈ zgX7, zGT RX7 q := List.forall_mem_cons.mpr ⟨Or.inl ⟨rfl, zTb_in 250 (by decide +kernel) (by decide +kernel)⟩, List.forall_mem_cons.mpr ⟨Or.inr <| Or.inl ⟨rfl, zTb_in 252 (by decide +kernel) (by decide +kernel)⟩, fun _ h => absurd h List.not_mem_nil⟩⟩
def znX7 : List (Nat × Int32) := [(97, (-100000)), (122, (-1000000)), (224, 65535)]
theorem znX7_ok : ∀ q ∈ znX7, Cond.constant RX7 q.1 q.2 ∈ zTb := List.forall_mem_cons.mpr ⟨zTb_in 284 (by decide +kernel) (by decide +kernel), List.forall_mem_cons.mpr ⟨zTb_in 329 (by decide +kernel) (by decide +kernel), List.forall_mem_cons.mpr ⟨zTb_in 443 (by decide +kernel) (by decide +kernel), fun _ h => absurd h List.not_mem_nil⟩⟩⟩
def zoX7 : List (Nat × Int64) := [(112, (-1))]
theorem zoX7_ok : ∀ q ∈ zoX7, Cond.constantLong RX7 q.1 q.2 ∈ zTb := List.forall_mem_cons.mpr ⟨zTb_in 315 (by decide +kernel) (by decide +kernel), fun _ h => absurd h List.not_mem_nil⟩
def zfX8 : List (Nat × Nat × Nat × Bool) := [(7, 8, 0, false), (13, 8, 1, true), (17, 8, 3, true), (20, 8, 4, true), (23, 8, 5, true), (26, 8, 6, false), (29, 8, 7, false), (32, 8, 9, false), (35, 8, 10, false), (38, 8, 11, false), (41, 8, 12, false), (44, 8, 13, false), (47, 8, 15, false), (50, 8, 16, false), (53, 8, 17, false), (56, 8, 18, false), (60, 8, 19, false), (64, 8, 20, false), (67, 8, 22, false), (70, 8, 23, false), (73, 8, 24, false), (76, 8, 25, false), (79, 8, 26, false), (82, 8, 27, false), (93, 8, 2, true), (137, 8, 21, true), (154, 8, 8, true), (189, 8, 14, true), (192, 8, 28, true)]
theorem zfX8_ok : ∀ q ∈ zfX8, zFT RX8 q := List.forall_mem_cons.mpr ⟨⟨_, _, _, tyX8, rfl, by decide, ziX8, zTb_in 619 (by decide +kernel) (by decide +kernel), tyX8_ok, nmX8, fun h => by cases h⟩,
  List.forall_mem_cons.mpr ⟨⟨_, _, _, tyX8, rfl, by decide, ziX8, zTb_in 620 (by decide +kernel) (by decide +kernel), tyX8_ok, nmX8, fun _ => ⟨rfl, rfl⟩⟩,
  List.forall_mem_cons.mpr ⟨⟨_, _, _, tyX8, rfl, by decide, ziX8, zTb_in 622 (by decide +kernel) (by decide +kernel), tyX8_ok, nmX8, fun _ => ⟨rfl, rfl⟩⟩,
  List.forall_mem_cons.mpr ⟨⟨_, _, _, tyX8, rfl, by decide, ziX8, zTb_in 623 (by decide +kernel) (by decide +kernel), tyX8_ok, nmX8, fun _ => ⟨rfl, rfl⟩⟩,
  List.forall_mem_cons.mpr ⟨⟨_, _, _, tyX8, rfl, by decide, ziX8, zTb_in 624 (by decide +kernel) (by decide +kernel), tyX8_ok, nmX8, fun _ => ⟨rfl, rfl⟩⟩,
  List.forall_mem_cons.mpr ⟨⟨_, _, _, tyX8, rfl, by decide, ziX8, zTb_in 625 (by decide +kernel) (by decide +kernel), tyX8_ok, nmX8, fun h => by cases h⟩,
  List.forall_mem_cons.mpr ⟨⟨_, _, _, tyX8, rfl, by decide, ziX8, zTb_in 626 (by decide +kernel) (by decide +kernel), tyX8_ok, nmX8, fun h => by cases h⟩,
  List.forall_mem_cons.mpr ⟨⟨_, _, _, tyX8, rfl, by decide, ziX8, zTb_in 628 (by decide +kernel) (by decide +kernel), tyX8_ok, nmX8, fun h => by cases h⟩,
  List.forall_mem_cons.mpr ⟨⟨_, _, _, tyX8, rfl, by decide, ziX8, zTb_in 629 (by decide +kernel) (by decide +kernel), tyX8_ok, nmX8, fun h => by cases h⟩,
  List.forall_mem_cons.mpr ⟨⟨_, _, _, tyX8, rfl, by decide, ziX8, zTb_in 630 (by decide +kernel) (by decide +kernel), tyX8_ok, nmX8, fun h => by cases h⟩,
  List.forall_mem_cons.mpr ⟨⟨_, _, _, tyX8, rfl, by decide, ziX8, zTb_in 631 (by decide +kernel) (by decide +kernel), tyX8_ok, nmX8, fun h => by cases h⟩,
  List.forall_mem_cons.mpr ⟨⟨_, _, _, tyX8, rfl, by decide, ziX8, zTb_in 632 (by decide +kernel) (by decide +kernel), tyX8_ok, nmX8, fun h => by cases h⟩,
  List.forall_mem_cons.mpr ⟨⟨_, _, _, tyX8, rfl, by decide, ziX8, zTb_in 634 (by decide +kernel) (by decide +kernel), tyX8_ok, nmX8, fun h => by cases h⟩,
  List.forall_mem_cons.mpr ⟨⟨_, _, _, tyX8, rfl, by decide, ziX8, zTb_in 635 (by decide +kernel) (by decide +kernel), tyX8_ok, nmX8, fun h => by cases h⟩,
  List.forall_mem_cons.mpr ⟨⟨_, _, _, tyX8, rfl, by decide, ziX8, zTb_in 636 (by decide +kernel) (by decide +kernel), tyX8_ok, nmX8, fun h => by cases h⟩,
  List.forall_mem_cons.mpr ⟨⟨_, _, _, tyX8, rfl, by decide, ziX8, zTb_in 637 (by decide +kernel) (by decide +kernel), tyX8_ok, nmX8, fun h => by cases h⟩,
  List.forall_mem_cons.mpr ⟨⟨_, _, _, tyX8, rfl, by decide, ziX8, zTb_in 638 (by decide +kernel) (by decide +kernel), tyX8_ok, nmX8, fun h => by cases h⟩,
  List.forall_mem_cons.mpr ⟨⟨_, _, _, tyX8, rfl, by decide, ziX8, zTb_in 639 (by decide +kernel) (by decide +kernel), tyX8_ok, nmX8, fun h => by cases h⟩,
  List.forall_mem_cons.mpr ⟨⟨_, _, _, tyX8, rfl, by decide, ziX8, zTb_in 641 (by decide +kernel) (by decide +kernel), tyX8_ok, nmX8, fun h => by cases h⟩,
  List.forall_mem_cons.mpr ⟨⟨_, _, _, tyX8, rfl, by decide, ziX8, zTb_in 642 (by decide +kernel) (by decide +kernel), tyX8_ok, nmX8, fun h => by cases h⟩,
  List.forall_mem_cons.mpr ⟨⟨_, _, _, tyX8, rfl, by decide, ziX8, zTb_in 643 (by decide +kernel) (by decide +kernel), tyX8_ok, nmX8, fun h => by cases h⟩,
  List.forall_mem_cons.mpr ⟨⟨_, _, _, tyX8, rfl, by decide, ziX8, zTb_in 644 (by decide +kernel) (by decide +kernel), tyX8_ok, nmX8, fun h => by cases h⟩,
  List.forall_mem_cons.mpr ⟨⟨_, _, _, tyX8, rfl, by decide, ziX8, zTb_in 645 (by decide +kernel) (by decide +kernel), tyX8_ok, nmX8, fun h => by cases h⟩,
  List.forall_mem_cons.mpr ⟨⟨_, _, _, tyX8, rfl, by decide, ziX8, zTb_in 646 (by decide +kernel) (by decide +kernel), tyX8_ok, nmX8, fun h => by cases h⟩,
  List.forall_mem_cons.mpr ⟨⟨_, _, _, tyX8, rfl, by decide, ziX8, zTb_in 621 (by decide +kernel) (by decide +kernel), tyX8_ok, nmX8, fun _ => ⟨rfl, rfl⟩⟩,
  List.forall_mem_cons.mpr ⟨⟨_, _, _, tyX8, rfl, by decide, ziX8, zTb_in 640 (by decide +kernel) (by decide +kernel), tyX8_ok, nmX8, fun _ => ⟨rfl, rfl⟩⟩,
  List.forall_mem_cons.mpr ⟨⟨_, _, _, tyX8, rfl, by decide, ziX8, zTb_in 627 (by decide +kernel) (by decide +kernel), tyX8_ok, nmX8, fun _ => ⟨rfl, rfl⟩⟩,
  List.forall_mem_cons.mpr ⟨⟨_, _, _, tyX8, rfl, by decide, ziX8, zTb_in 633 (by decide +kernel) (by decide +kernel), tyX8_ok, nmX8, fun _ => ⟨rfl, rfl⟩⟩,
  List.forall_mem_cons.mpr ⟨⟨_, _, _, tyX8, rfl, by decide, ziX8, zTb_in 647 (by decide +kernel) (by decide +kernel), tyX8_ok, nmX8, fun _ => ⟨rfl, rfl⟩⟩,
  fun _ h => absurd h List.not_mem_nil⟩⟩⟩⟩⟩⟩⟩⟩⟩⟩⟩⟩⟩⟩⟩⟩⟩⟩⟩⟩⟩⟩⟩⟩⟩⟩⟩⟩⟩
def zgX8 : List (Nat × Nat) := []
theorem zgX8_ok : ∀ q ∈ zgX8, zGT RX8 q := fun _ h => absurd h List.not_mem_nil
def znX8 : List (Nat × Int32) := [(106, (-100000)), (120, (-1000000)), (160, 65535), (175, 65536)]
theorem znX8_ok : ∀ q ∈ znX8, Cond.constant RX8 q.1 q.2 ∈ zTb := List.forall_mem_cons.mpr ⟨zTb_in 739 (by decide +kernel) (by decide +kernel), List.forall_mem_cons.mpr ⟨zTb_in 765 (by decide +kernel) (by decide +kernel), List.forall_mem_cons.mpr ⟨zTb_in 838 (by decide +kernel) (by decide +kernel), List.forall_mem_cons.mpr ⟨zTb_in 859 (by decide +kernel) (by decide +kernel), fun _ h => absurd h List.not_mem_nil⟩⟩⟩⟩
def zoX8 : List (Nat × Int64) := [(114, (-1)), (125, 2)]
theorem zoX8_ok : ∀ q ∈ zoX8, Cond.constantLong RX8 q.1 q.2 ∈ zTb := List.forall_mem_cons.mpr ⟨zTb_in 756 (by decide +kernel) (by decide +kernel), List.forall_mem_cons.mpr ⟨zTb_in 770 (by decide +kernel) (by decide +kernel), fun _ h => absurd h List.not_mem_nil⟩⟩
end
section
def zd_X0_placesTold : List zI := [(0, .iconst 0, 1), (1, .istore_n 2, 1), (2, .iconst 0, 1), (3, .istore_n 3, 1), (4, .iload_n 3, 1), (5, .bipush 12, 2), (7, .if_icmp .ge 25, 3), (10, .aload_n 0, 1), (11, .getfield 9, 3), (14, .iload_n 3, 1), (15, .iaload, 1), (16, .iload_n 1, 1), (17, .if_icmp .ne 9, 3), (20, .iload_n 2, 1), (21, .iconst 1, 1), (22, .iload_n 3, 1), (23, .ishl, 1), (24, .ior, 1), (25, .istore_n 2, 1), (26, .iinc 3 1, 3), (29, .goto (-25), 3), (32, .iload_n 2, 1), (33, .ireturn, 1)]
def M_X0_placesTold : zM := (zd_X0_placesTold, zfX0, zgX0, znX0, zoX0, [], [])
def R_X0_placesTold : zRel := zR M_X0_placesTold 4 (some .int)
def rm_X0_placesTold : Room := { frames := 0, cells := 0, slots := 0, locals := 0 }
theorem dd_X0_placesTold : ∀ q ∈ zd_X0_placesTold, decode cX0_placesTold q.1 = .ok (q.2.1, q.2.2) := by decide +kernel
theorem m_X0_placesTold (l : Launch) : zMet l yX0_placesTold cX0_placesTold 4 (some .int) rm_X0_placesTold R_X0_placesTold := z_met (M := M_X0_placesTold) (plainFor_of_name (by decide)) dd_X0_placesTold (by decide +kernel) rfl zfX0_ok zgX0_ok znX0_ok zoX0_ok (fun _ h => absurd h List.not_mem_nil) (Or.inr rfl)
theorem k_X0_placesTold : Cond.code yX0_placesTold cX0_placesTold 4 (some .int) ∈ zTb ∧ Cond.initialized yX0_placesTold.cls ∈ zTb ∧ (yX0_placesTold.cls ≠ "java/lang/invoke/MethodHandle" ∧ yX0_placesTold.cls ≠ "java/lang/invoke/VarHandle") ∧ Cond.instanceMethod yX0_placesTold ∈ zTb ∧ Cond.selects yX0_placesTold.cls yX0_placesTold yX0_placesTold ∈ zTb ∧ (∃ (T : u_T) (N : Nat), vwCl[0]? = some (yX0_placesTold.cls, T, N)) ∧ (parseMethodDescriptor yX0_placesTold.desc).map (fun d => d.parameters.length + 1) = some 2 := ⟨zTb_in 537 (by decide +kernel) (by decide +kernel), zTb_in 41 (by decide +kernel) (by decide +kernel), by decide, zTb_in 535 (by decide +kernel) (by decide +kernel), zTb_in 536 (by decide +kernel) (by decide +kernel), ⟨_, _, rfl⟩, by decide +kernel⟩
def zd_X6_bent : List zI := [(0, .iload_n 1, 1), (1, .bipush 10, 2), (3, .imul, 1), (4, .iload_n 3, 1), (5, .bipush 100, 2), (7, .idiv, 1), (8, .iadd, 1), (9, .istore 4, 2), (11, .aload_n 0, 1), (12, .getfield 18, 3), (15, .iload 4, 2), (17, .iaload, 1), (18, .istore 5, 2), (20, .iload_n 3, 1), (21, .sipush 900, 3), (24, .if_icmp .ge 28, 3), (27, .iload 5, 2), (29, .aload_n 0, 1), (30, .getfield 18, 3), (33, .iload 4, 2), (35, .iconst 1, 1), (36, .iadd, 1), (37, .iaload, 1), (38, .iload 5, 2), (40, .isub, 1), (41, .iload_n 3, 1), (42, .bipush 100, 2), (44, .irem, 1), (45, .imul, 1), (46, .bipush 100, 2), (48, .idiv, 1), (49, .iadd, 1), (50, .istore 5, 2), (52, .iload 5, 2), (54, .iload 5, 2), (56, .aload_n 0, 1), (57, .getfield 26, 3), (60, .iconst 0, 1), (61, .iaload, 1), (62, .imul, 1), (63, .iload_n 2, 1), (64, .imul, 1), (65, .sipush 1000, 3), (68, .idiv, 1), (69, .isub, 1), (70, .ireturn, 1)]
def M_X6_bent : zM := (zd_X6_bent, zfX6, zgX6, znX6, zoX6, [], [])
def R_X6_bent : zRel := zR M_X6_bent 6 (some .int)
def rm_X6_bent : Room := { frames := 0, cells := 0, slots := 0, locals := 0 }
theorem dd_X6_bent : ∀ q ∈ zd_X6_bent, decode cX6_bent q.1 = .ok (q.2.1, q.2.2) := by decide +kernel
theorem m_X6_bent (l : Launch) : zMet l yX6_bent cX6_bent 6 (some .int) rm_X6_bent R_X6_bent := z_met (M := M_X6_bent) (plainFor_of_name (by decide)) dd_X6_bent (by decide +kernel) rfl zfX6_ok zgX6_ok znX6_ok zoX6_ok (fun _ h => absurd h List.not_mem_nil) (Or.inr rfl)
theorem k_X6_bent : Cond.code yX6_bent cX6_bent 6 (some .int) ∈ zTb ∧ Cond.initialized yX6_bent.cls ∈ zTb ∧ (yX6_bent.cls ≠ "java/lang/invoke/MethodHandle" ∧ yX6_bent.cls ≠ "java/lang/invoke/VarHandle") ∧ Cond.instanceMethod yX6_bent ∈ zTb ∧ Cond.selects yX6_bent.cls yX6_bent yX6_bent ∈ zTb ∧ (∃ (T : u_T) (N : Nat), vwCl[6]? = some (yX6_bent.cls, T, N)) ∧ (parseMethodDescriptor yX6_bent.desc).map (fun d => d.parameters.length + 1) = some 4 := ⟨zTb_in 267 (by decide +kernel) (by decide +kernel), zTb_in 36 (by decide +kernel) (by decide +kernel), by decide, zTb_in 265 (by decide +kernel) (by decide +kernel), zTb_in 266 (by decide +kernel) (by decide +kernel), ⟨_, _, rfl⟩, by decide +kernel⟩
def zd_X4_leastTurn : List zI := [(0, .sipush (-10000), 3), (3, .istore_n 3, 1), (4, .sipush 901, 3), (7, .istore 4, 2), (9, .iconst 0, 1), (10, .istore 5, 2), (12, .iload 5, 2), (14, .sipush 900, 3), (17, .if_icmp .gt 95, 3), (20, .iload_n 1, 1), (21, .aload_n 0, 1), (22, .getfield 18, 3), (25, .iconst 1, 1), (26, .iload_n 2, 1), (27, .iload 5, 2), (29, .invokevirtual 22, 3), (32, .isub, 1), (33, .istore 6, 2), (35, .iload 6, 2), (37, .ifCond .ge 6, 3), (40, .goto 72, 3), (43, .iload 4, 2), (45, .ifCond .le 27, 3), (48, .aload_n 0, 1), (49, .getfield 18, 3), (52, .iconst 1, 1), (53, .iload_n 2, 1), (54, .iload 4, 2), (56, .iconst 1, 1), (57, .isub, 1), (58, .invokevirtual 22, 3), (61, .iload 6, 2), (63, .if_icmp .lt 9, 3), (66, .iinc 4 (-1), 3), (69, .goto (-26), 3), (72, .iload 4, 2), (74, .sipush 900, 3), (77, .if_icmp .gt 29, 3), (80, .iload_n 3, 1), (81, .sipush (-10000), 3), (84, .if_icmp .eq 14, 3), (87, .iload 5, 2), (89, .iload 4, 2), (91, .iadd, 1), (92, .iload_n 1, 1), (93, .isub, 1), (94, .iload_n 3, 1), (95, .if_icmp .ge 11, 3), (98, .iload 5, 2), (100, .iload 4, 2), (102, .iadd, 1), (103, .iload_n 1, 1), (104, .isub, 1), (105, .istore_n 3, 1), (106, .iinc 5 1, 3), (109, .goto (-97), 3), (112, .iload_n 3, 1), (113, .ireturn, 1)]
def M_X4_leastTurn : zM := (zd_X4_leastTurn, zfX4, zgX4, znX4, zoX4, [(22, 4, 1, some 6, R_X6_bent)], [])
def R_X4_leastTurn : zRel := zR M_X4_leastTurn 7 (some .int)
def rm_X4_leastTurn : Room := { frames := 1, cells := 0, slots := 0, locals := 25 }
theorem dd_X4_leastTurn : ∀ q ∈ zd_X4_leastTurn, decode cX4_leastTurn q.1 = .ok (q.2.1, q.2.2) := by decide +kernel
theorem m_X4_leastTurn (l : Launch) : zMet l yX4_leastTurn cX4_leastTurn 7 (some .int) rm_X4_leastTurn R_X4_leastTurn := z_met (M := M_X4_leastTurn) (plainFor_of_name (by decide)) dd_X4_leastTurn (by decide +kernel) rfl zfX4_ok zgX4_ok znX4_ok zoX4_ok (List.forall_mem_cons.mpr ⟨Or.inl ⟨yX6_bent, cX6_bent, 6, (some .int), rm_X6_bent, m_X6_bent l, rfl, rfl, by decide, zTb_in 379 (by decide +kernel) (by decide +kernel), k_X6_bent⟩,
  fun _ h => absurd h List.not_mem_nil⟩) (Or.inr rfl)
theorem k_X4_leastTurn : Cond.code yX4_leastTurn cX4_leastTurn 7 (some .int) ∈ zTb ∧ Cond.initialized yX4_leastTurn.cls ∈ zTb ∧ (yX4_leastTurn.cls ≠ "java/lang/invoke/MethodHandle" ∧ yX4_leastTurn.cls ≠ "java/lang/invoke/VarHandle") ∧ Cond.instanceMethod yX4_leastTurn ∈ zTb ∧ Cond.selects yX4_leastTurn.cls yX4_leastTurn yX4_leastTurn ∈ zTb ∧ (∃ (T : u_T) (N : Nat), vwCl[4]? = some (yX4_leastTurn.cls, T, N)) ∧ (parseMethodDescriptor yX4_leastTurn.desc).map (fun d => d.parameters.length + 1) = some 3 := ⟨zTb_in 388 (by decide +kernel) (by decide +kernel), zTb_in 38 (by decide +kernel) (by decide +kernel), by decide, zTb_in 386 (by decide +kernel) (by decide +kernel), zTb_in 387 (by decide +kernel) (by decide +kernel), ⟨_, _, rfl⟩, by decide +kernel⟩
def zd_X5_add : List zI := [(0, .aload_n 0, 1), (1, .getfield 15, 3), (4, .bipush 7, 2), (6, .if_icmp .lt 4, 3), (9, .return_, 1), (10, .aload_n 0, 1), (11, .getfield 9, 3), (14, .aload_n 0, 1), (15, .getfield 15, 3), (18, .iconst 4, 1), (19, .imul, 1), (20, .iconst 0, 1), (21, .iadd, 1), (22, .iload_n 1, 1), (23, .iastore, 1), (24, .aload_n 0, 1), (25, .getfield 9, 3), (28, .aload_n 0, 1), (29, .getfield 15, 3), (32, .iconst 4, 1), (33, .imul, 1), (34, .iconst 1, 1), (35, .iadd, 1), (36, .iload_n 2, 1), (37, .iastore, 1), (38, .aload_n 0, 1), (39, .getfield 9, 3), (42, .aload_n 0, 1), (43, .getfield 15, 3), (46, .iconst 4, 1), (47, .imul, 1), (48, .iconst 2, 1), (49, .iadd, 1), (50, .iload_n 3, 1), (51, .iastore, 1), (52, .aload_n 0, 1), (53, .getfield 9, 3), (56, .aload_n 0, 1), (57, .getfield 15, 3), (60, .iconst 4, 1), (61, .imul, 1), (62, .iconst 3, 1), (63, .iadd, 1), (64, .iload 4, 2), (66, .iastore, 1), (67, .aload_n 0, 1), (68, .dup, 1), (69, .getfield 15, 3), (72, .iconst 1, 1), (73, .iadd, 1), (74, .putfield 15, 3), (77, .return_, 1)]
def M_X5_add : zM := (zd_X5_add, zfX5, zgX5, znX5, zoX5, [], [])
def R_X5_add : zRel := zR M_X5_add 5 none
def rm_X5_add : Room := { frames := 0, cells := 0, slots := 0, locals := 0 }
theorem dd_X5_add : ∀ q ∈ zd_X5_add, decode cX5_add q.1 = .ok (q.2.1, q.2.2) := by decide +kernel
theorem m_X5_add (l : Launch) : zMet l yX5_add cX5_add 5 none rm_X5_add R_X5_add := z_met (M := M_X5_add) (plainFor_of_name (by decide)) dd_X5_add (by decide +kernel) rfl zfX5_ok zgX5_ok znX5_ok zoX5_ok (fun _ h => absurd h List.not_mem_nil) (Or.inr rfl)
theorem k_X5_add : Cond.code yX5_add cX5_add 5 none ∈ zTb ∧ Cond.initialized yX5_add.cls ∈ zTb ∧ (yX5_add.cls ≠ "java/lang/invoke/MethodHandle" ∧ yX5_add.cls ≠ "java/lang/invoke/VarHandle") ∧ Cond.instanceMethod yX5_add ∈ zTb ∧ Cond.selects yX5_add.cls yX5_add yX5_add ∈ zTb ∧ (∃ (T : u_T) (N : Nat), vwCl[5]? = some (yX5_add.cls, T, N)) ∧ (parseMethodDescriptor yX5_add.desc).map (fun d => d.parameters.length + 1) = some 5 := ⟨zTb_in 404 (by decide +kernel) (by decide +kernel), zTb_in 39 (by decide +kernel) (by decide +kernel), by decide, zTb_in 402 (by decide +kernel) (by decide +kernel), zTb_in 403 (by decide +kernel) (by decide +kernel), ⟨_, _, rfl⟩, by decide +kernel⟩
def zd_X4_addArcs : List zI := [(0, .iload_n 2, 1), (1, .iload_n 1, 1), (2, .iadd, 1), (3, .sipush 900, 3), (6, .if_icmp .gt 14, 3), (9, .aload_n 0, 1), (10, .getfield 12, 3), (13, .iconst 1, 1), (14, .iconst 2, 1), (15, .iload_n 1, 1), (16, .iload_n 1, 1), (17, .invokevirtual 49, 3), (20, .iload_n 2, 1), (21, .iload_n 1, 1), (22, .if_icmp .lt 14, 3), (25, .aload_n 0, 1), (26, .getfield 12, 3), (29, .iconst 1, 1), (30, .iconst 3, 1), (31, .iload_n 1, 1), (32, .iload_n 1, 1), (33, .invokevirtual 49, 3), (36, .return_, 1)]
def M_X4_addArcs : zM := (zd_X4_addArcs, zfX4, zgX4, znX4, zoX4, [(49, 5, 0, some 5, R_X5_add)], [])
def R_X4_addArcs : zRel := zR M_X4_addArcs 3 none
def rm_X4_addArcs : Room := { frames := 1, cells := 0, slots := 0, locals := 24 }
theorem dd_X4_addArcs : ∀ q ∈ zd_X4_addArcs, decode cX4_addArcs q.1 = .ok (q.2.1, q.2.2) := by decide +kernel
theorem m_X4_addArcs (l : Launch) : zMet l yX4_addArcs cX4_addArcs 3 none rm_X4_addArcs R_X4_addArcs := z_met (M := M_X4_addArcs) (plainFor_of_name (by decide)) dd_X4_addArcs (by decide +kernel) rfl zfX4_ok zgX4_ok znX4_ok zoX4_ok (List.forall_mem_cons.mpr ⟨Or.inl ⟨yX5_add, cX5_add, 5, none, rm_X5_add, m_X5_add l, rfl, rfl, by decide, zTb_in 401 (by decide +kernel) (by decide +kernel), k_X5_add⟩,
  fun _ h => absurd h List.not_mem_nil⟩) (Or.inr rfl)
theorem k_X4_addArcs : Cond.code yX4_addArcs cX4_addArcs 3 none ∈ zTb ∧ Cond.initialized yX4_addArcs.cls ∈ zTb ∧ (yX4_addArcs.cls ≠ "java/lang/invoke/MethodHandle" ∧ yX4_addArcs.cls ≠ "java/lang/invoke/VarHandle") ∧ Cond.instanceMethod yX4_addArcs ∈ zTb ∧ Cond.selects yX4_addArcs.cls yX4_addArcs yX4_addArcs ∈ zTb ∧ (∃ (T : u_T) (N : Nat), vwCl[4]? = some (yX4_addArcs.cls, T, N)) ∧ (parseMethodDescriptor yX4_addArcs.desc).map (fun d => d.parameters.length + 1) = some 3 := ⟨zTb_in 408 (by decide +kernel) (by decide +kernel), zTb_in 38 (by decide +kernel) (by decide +kernel), by decide, zTb_in 407 (by decide +kernel) (by decide +kernel), zTb_in 1 (by decide +kernel) (by decide +kernel), ⟨_, _, rfl⟩, by decide +kernel⟩
def zd_J9_max_7cf53 : List zI := [(0, .iload_n 0, 1), (1, .iload_n 1, 1), (2, .if_icmp .lt 7, 3), (5, .iload_n 0, 1), (6, .goto 4, 3), (9, .iload_n 1, 1), (10, .ireturn, 1)]
def M_J9_max_7cf53 : zM := (zd_J9_max_7cf53, zfJ9, zgJ9, znJ9, zoJ9, [], [])
def R_J9_max_7cf53 : zRel := zR M_J9_max_7cf53 2 (some .int)
def rm_J9_max_7cf53 : Room := { frames := 0, cells := 0, slots := 0, locals := 0 }
theorem dd_J9_max_7cf53 : ∀ q ∈ zd_J9_max_7cf53, decode cJ9_max_7cf53 q.1 = .ok (q.2.1, q.2.2) := by decide +kernel
theorem m_J9_max_7cf53 (l : Launch) : zMet l yJ9_max_7cf53 cJ9_max_7cf53 2 (some .int) rm_J9_max_7cf53 R_J9_max_7cf53 := z_met (M := M_J9_max_7cf53) (by decide +kernel) dd_J9_max_7cf53 (by decide +kernel) rfl zfJ9_ok zgJ9_ok znJ9_ok zoJ9_ok (fun _ h => absurd h List.not_mem_nil) (Or.inr rfl)
theorem k_J9_max_7cf53 : Cond.code yJ9_max_7cf53 cJ9_max_7cf53 2 (some .int) ∈ zTb ∧ Cond.initialized yJ9_max_7cf53.cls ∈ zTb ∧ (yJ9_max_7cf53.cls ≠ "java/lang/invoke/MethodHandle" ∧ yJ9_max_7cf53.cls ≠ "java/lang/invoke/VarHandle") ∧ Cond.static yJ9_max_7cf53 ∈ zTb ∧ (parseMethodDescriptor yJ9_max_7cf53.desc).map (fun d => d.parameters.length) = some 2 := ⟨zTb_in 354 (by decide +kernel) (by decide +kernel), zTb_in 45 (by decide +kernel) (by decide +kernel), by decide, zTb_in 353 (by decide +kernel) (by decide +kernel), by decide +kernel⟩
def zd_X4_addSpot : List zI := [(0, .getstatic 64, 3), (3, .iconst 3, 1), (4, .iaload, 1), (5, .aload_n 0, 1), (6, .getfield 18, 3), (9, .getfield 67, 3), (12, .iconst 3, 1), (13, .iaload, 1), (14, .invokestatic 70, 3), (17, .istore 4, 2), (19, .iload_n 2, 1), (20, .iload_n 2, 1), (21, .iload_n 3, 1), (22, .imul, 1), (23, .iload 4, 2), (25, .idiv, 1), (26, .iadd, 1), (27, .istore 5, 2), (29, .iload_n 3, 1), (30, .sipush 600, 3), (33, .if_icmp .gt 11, 3), (36, .iload 5, 2), (38, .sipush 1800, 3), (41, .if_icmp .le 4, 3), (44, .return_, 1), (45, .iload_n 1, 1), (46, .iconst 1, 1), (47, .if_icmp .ne 19, 3), (50, .aload_n 0, 1), (51, .getfield 12, 3), (54, .iconst 2, 1), (55, .iconst 1, 1), (56, .iload 5, 2), (58, .iload 5, 2), (60, .invokevirtual 49, 3), (63, .goto 25, 3), (66, .aload_n 0, 1), (67, .getfield 12, 3), (70, .iconst 2, 1), (71, .iconst 1, 1), (72, .iload_n 2, 1), (73, .iload 5, 2), (75, .aload_n 0, 1), (76, .getfield 18, 3), (79, .getfield 67, 3), (82, .iconst 4, 1), (83, .iaload, 1), (84, .iadd, 1), (85, .invokevirtual 49, 3), (88, .return_, 1)]
def M_X4_addSpot : zM := (zd_X4_addSpot, zfX4, zgX4, znX4, zoX4, [(70, 2, 1, none, R_J9_max_7cf53), (49, 5, 0, some 5, R_X5_add)], zExs)
def R_X4_addSpot : zRel := zR M_X4_addSpot 6 none
def rm_X4_addSpot : Room := { frames := 1, cells := 0, slots := 0, locals := 24 }
theorem dd_X4_addSpot : ∀ q ∈ zd_X4_addSpot, decode cX4_addSpot q.1 = .ok (q.2.1, q.2.2) := by decide +kernel
theorem m_X4_addSpot (l : Launch) : zMet l yX4_addSpot cX4_addSpot 6 none rm_X4_addSpot R_X4_addSpot := z_met (M := M_X4_addSpot) (plainFor_of_name (by decide)) dd_X4_addSpot (by decide +kernel) rfl zfX4_ok zgX4_ok znX4_ok zoX4_ok (List.forall_mem_cons.mpr ⟨Or.inl ⟨yJ9_max_7cf53, cJ9_max_7cf53, 2, (some .int), rm_J9_max_7cf53, m_J9_max_7cf53 l, rfl, rfl, by decide, zTb_in 414 (by decide +kernel) (by decide +kernel), k_J9_max_7cf53⟩,
  List.forall_mem_cons.mpr ⟨Or.inl ⟨yX5_add, cX5_add, 5, none, rm_X5_add, m_X5_add l, rfl, rfl, by decide, zTb_in 401 (by decide +kernel) (by decide +kernel), k_X5_add⟩,
  fun _ h => absurd h List.not_mem_nil⟩⟩) (Or.inl rfl)
theorem k_X4_addSpot : Cond.code yX4_addSpot cX4_addSpot 6 none ∈ zTb ∧ Cond.initialized yX4_addSpot.cls ∈ zTb ∧ (yX4_addSpot.cls ≠ "java/lang/invoke/MethodHandle" ∧ yX4_addSpot.cls ≠ "java/lang/invoke/VarHandle") ∧ Cond.instanceMethod yX4_addSpot ∈ zTb ∧ Cond.selects yX4_addSpot.cls yX4_addSpot yX4_addSpot ∈ zTb ∧ (∃ (T : u_T) (N : Nat), vwCl[4]? = some (yX4_addSpot.cls, T, N)) ∧ (parseMethodDescriptor yX4_addSpot.desc).map (fun d => d.parameters.length + 1) = some 4 := ⟨zTb_in 412 (by decide +kernel) (by decide +kernel), zTb_in 38 (by decide +kernel) (by decide +kernel), by decide, zTb_in 411 (by decide +kernel) (by decide +kernel), zTb_in 2 (by decide +kernel) (by decide +kernel), ⟨_, _, rfl⟩, by decide +kernel⟩
def zd_X6_hasWedge : List zI := [(0, .iconst 0, 1), (1, .istore_n 3, 1), (2, .iload_n 3, 1), (3, .aload_n 0, 1), (4, .getfield 32, 3), (7, .iload_n 1, 1), (8, .iaload, 1), (9, .if_icmp .ge 25, 3), (12, .aload_n 0, 1), (13, .getfield 29, 3), (16, .iload_n 1, 1), (17, .iconst 3, 1), (18, .imul, 1), (19, .iload_n 3, 1), (20, .iadd, 1), (21, .iaload, 1), (22, .iload_n 2, 1), (23, .if_icmp .ne 5, 3), (26, .iconst 1, 1), (27, .ireturn, 1), (28, .iinc 3 1, 3), (31, .goto (-29), 3), (34, .iconst 0, 1), (35, .ireturn, 1)]
def M_X6_hasWedge : zM := (zd_X6_hasWedge, zfX6, zgX6, znX6, zoX6, [], [])
def R_X6_hasWedge : zRel := zR M_X6_hasWedge 4 (some .boolean)
def rm_X6_hasWedge : Room := { frames := 0, cells := 0, slots := 0, locals := 0 }
theorem dd_X6_hasWedge : ∀ q ∈ zd_X6_hasWedge, decode cX6_hasWedge q.1 = .ok (q.2.1, q.2.2) := by decide +kernel
theorem m_X6_hasWedge (l : Launch) : zMet l yX6_hasWedge cX6_hasWedge 4 (some .boolean) rm_X6_hasWedge R_X6_hasWedge := z_met (M := M_X6_hasWedge) (plainFor_of_name (by decide)) dd_X6_hasWedge (by decide +kernel) rfl zfX6_ok zgX6_ok znX6_ok zoX6_ok (fun _ h => absurd h List.not_mem_nil) (Or.inr rfl)
theorem k_X6_hasWedge : Cond.code yX6_hasWedge cX6_hasWedge 4 (some .boolean) ∈ zTb ∧ Cond.initialized yX6_hasWedge.cls ∈ zTb ∧ (yX6_hasWedge.cls ≠ "java/lang/invoke/MethodHandle" ∧ yX6_hasWedge.cls ≠ "java/lang/invoke/VarHandle") ∧ Cond.instanceMethod yX6_hasWedge ∈ zTb ∧ Cond.selects yX6_hasWedge.cls yX6_hasWedge yX6_hasWedge ∈ zTb ∧ (∃ (T : u_T) (N : Nat), vwCl[6]? = some (yX6_hasWedge.cls, T, N)) ∧ (parseMethodDescriptor yX6_hasWedge.desc).map (fun d => d.parameters.length + 1) = some 3 := ⟨zTb_in 366 (by decide +kernel) (by decide +kernel), zTb_in 36 (by decide +kernel) (by decide +kernel), by decide, zTb_in 364 (by decide +kernel) (by decide +kernel), zTb_in 365 (by decide +kernel) (by decide +kernel), ⟨_, _, rfl⟩, by decide +kernel⟩
def zd_X4_addLightsBehind : List zI := [(0, .iload_n 2, 1), (1, .iconst 1, 1), (2, .if_icmp .ne 35, 3), (5, .aload_n 0, 1), (6, .getfield 18, 3), (9, .iload_n 1, 1), (10, .sipush 600, 3), (13, .invokevirtual 75, 3), (16, .ifCond .eq 21, 3), (19, .aload_n 0, 1), (20, .getfield 12, 3), (23, .iconst 2, 1), (24, .iconst 1, 1), (25, .sipush 1200, 3), (28, .sipush 1200, 3), (31, .invokevirtual 49, 3), (34, .goto 58, 3), (37, .iload_n 2, 1), (38, .iconst 2, 1), (39, .if_icmp .ne 35, 3), (42, .aload_n 0, 1), (43, .getfield 18, 3), (46, .iload_n 1, 1), (47, .sipush 900, 3), (50, .invokevirtual 75, 3), (53, .ifCond .eq 21, 3), (56, .aload_n 0, 1), (57, .getfield 12, 3), (60, .iconst 2, 1), (61, .iconst 1, 1), (62, .sipush 1800, 3), (65, .sipush 1800, 3), (68, .invokevirtual 49, 3), (71, .goto 21, 3), (74, .iload_n 2, 1), (75, .iconst 3, 1), (76, .if_icmp .ne 16, 3), (79, .aload_n 0, 1), (80, .getfield 12, 3), (83, .iconst 3, 1), (84, .iconst 1, 1), (85, .iconst 0, 1), (86, .sipush 1800, 3), (89, .invokevirtual 49, 3), (92, .return_, 1)]
def M_X4_addLightsBehind : zM := (zd_X4_addLightsBehind, zfX4, zgX4, znX4, zoX4, [(75, 3, 1, some 6, R_X6_hasWedge), (49, 5, 0, some 5, R_X5_add)], [])
def R_X4_addLightsBehind : zRel := zR M_X4_addLightsBehind 3 none
def rm_X4_addLightsBehind : Room := { frames := 1, cells := 0, slots := 0, locals := 24 }
theorem dd_X4_addLightsBehind : ∀ q ∈ zd_X4_addLightsBehind, decode cX4_addLightsBehind q.1 = .ok (q.2.1, q.2.2) := by decide +kernel
theorem m_X4_addLightsBehind (l : Launch) : zMet l yX4_addLightsBehind cX4_addLightsBehind 3 none rm_X4_addLightsBehind R_X4_addLightsBehind := z_met (M := M_X4_addLightsBehind) (plainFor_of_name (by decide)) dd_X4_addLightsBehind (by decide +kernel) rfl zfX4_ok zgX4_ok znX4_ok zoX4_ok (List.forall_mem_cons.mpr ⟨Or.inl ⟨yX6_hasWedge, cX6_hasWedge, 4, (some .boolean), rm_X6_hasWedge, m_X6_hasWedge l, rfl, rfl, by decide, zTb_in 419 (by decide +kernel) (by decide +kernel), k_X6_hasWedge⟩,
  List.forall_mem_cons.mpr ⟨Or.inl ⟨yX5_add, cX5_add, 5, none, rm_X5_add, m_X5_add l, rfl, rfl, by decide, zTb_in 401 (by decide +kernel) (by decide +kernel), k_X5_add⟩,
  fun _ h => absurd h List.not_mem_nil⟩⟩) (Or.inr rfl)
theorem k_X4_addLightsBehind : Cond.code yX4_addLightsBehind cX4_addLightsBehind 3 none ∈ zTb ∧ Cond.initialized yX4_addLightsBehind.cls ∈ zTb ∧ (yX4_addLightsBehind.cls ≠ "java/lang/invoke/MethodHandle" ∧ yX4_addLightsBehind.cls ≠ "java/lang/invoke/VarHandle") ∧ Cond.instanceMethod yX4_addLightsBehind ∈ zTb ∧ Cond.selects yX4_addLightsBehind.cls yX4_addLightsBehind yX4_addLightsBehind ∈ zTb ∧ (∃ (T : u_T) (N : Nat), vwCl[4]? = some (yX4_addLightsBehind.cls, T, N)) ∧ (parseMethodDescriptor yX4_addLightsBehind.desc).map (fun d => d.parameters.length + 1) = some 3 := ⟨zTb_in 418 (by decide +kernel) (by decide +kernel), zTb_in 38 (by decide +kernel) (by decide +kernel), by decide, zTb_in 417 (by decide +kernel) (by decide +kernel), zTb_in 3 (by decide +kernel) (by decide +kernel), ⟨_, _, rfl⟩, by decide +kernel⟩
def zd_X4_lightUp : List zI := [(0, .iload_n 1, 1), (1, .iconst 4, 1), (2, .idiv, 1), (3, .istore_n 3, 1), (4, .iload_n 1, 1), (5, .iconst 4, 1), (6, .irem, 1), (7, .istore 4, 2), (9, .aload_n 0, 1), (10, .getfield 12, 3), (13, .iconst 0, 1), (14, .putfield 31, 3), (17, .iconst 0, 1), (18, .istore 5, 2), (20, .iload 5, 2), (22, .aload_n 0, 1), (23, .getfield 18, 3), (26, .getfield 35, 3), (29, .iload_n 3, 1), (30, .iaload, 1), (31, .if_icmp .ge 125, 3), (34, .iload_n 3, 1), (35, .iconst 3, 1), (36, .imul, 1), (37, .iload 5, 2), (39, .iadd, 1), (40, .istore 6, 2), (42, .aload_n 0, 1), (43, .getfield 18, 3), (46, .getfield 39, 3), (49, .iload 6, 2), (51, .iaload, 1), (52, .iconst (-1), 1), (53, .if_icmp .ne 28, 3), (56, .aload_n 0, 1), (57, .getfield 18, 3), (60, .getfield 39, 3), (63, .iload 6, 2), (65, .aload_n 0, 1), (66, .aload_n 0, 1), (67, .getfield 18, 3), (70, .getfield 42, 3), (73, .iload 6, 2), (75, .iaload, 1), (76, .iconst 0, 1), (77, .invokevirtual 45, 3), (80, .iastore, 1), (81, .aload_n 0, 1), (82, .getfield 18, 3), (85, .getfield 39, 3), (88, .iload 6, 2), (90, .iaload, 1), (91, .istore 7, 2), (93, .iload 7, 2), (95, .sipush (-10000), 3), (98, .if_icmp .ne 6, 3), (101, .goto 49, 3), (104, .iload 4, 2), (106, .ifCond .ne 19, 3), (109, .aload_n 0, 1), (110, .getfield 12, 3), (113, .iconst 0, 1), (114, .iconst 0, 1), (115, .iload 7, 2), (117, .iload 7, 2), (119, .invokevirtual 49, 3), (122, .goto 28, 3), (125, .iload 4, 2), (127, .iconst 2, 1), (128, .if_icmp .ne 13, 3), (131, .aload_n 0, 1), (132, .iload 7, 2), (134, .iload_n 2, 1), (135, .invokevirtual 53, 3), (138, .goto 12, 3), (141, .aload_n 0, 1), (142, .iload 4, 2), (144, .iload 7, 2), (146, .iload_n 2, 1), (147, .invokevirtual 57, 3), (150, .iinc 5 1, 3), (153, .goto (-133), 3), (156, .aload_n 0, 1), (157, .iload_n 3, 1), (158, .iload 4, 2), (160, .invokevirtual 61, 3), (163, .return_, 1)]
def M_X4_lightUp : zM := (zd_X4_lightUp, zfX4, zgX4, znX4, zoX4, [(45, 3, 1, some 4, R_X4_leastTurn), (49, 5, 0, some 5, R_X5_add), (53, 3, 0, some 4, R_X4_addArcs), (57, 4, 0, some 4, R_X4_addSpot), (61, 3, 0, some 4, R_X4_addLightsBehind)], [])
def R_X4_lightUp : zRel := zR M_X4_lightUp 8 none
def rm_X4_lightUp : Room := { frames := 2, cells := 0, slots := 0, locals := 51 }
theorem dd_X4_lightUp : ∀ q ∈ zd_X4_lightUp, decode cX4_lightUp q.1 = .ok (q.2.1, q.2.2) := by decide +kernel
theorem m_X4_lightUp (l : Launch) : zMet l yX4_lightUp cX4_lightUp 8 none rm_X4_lightUp R_X4_lightUp := z_met (M := M_X4_lightUp) (plainFor_of_name (by decide)) dd_X4_lightUp (by decide +kernel) rfl zfX4_ok zgX4_ok znX4_ok zoX4_ok (List.forall_mem_cons.mpr ⟨Or.inl ⟨yX4_leastTurn, cX4_leastTurn, 7, (some .int), rm_X4_leastTurn, m_X4_leastTurn l, rfl, rfl, by decide, zTb_in 400 (by decide +kernel) (by decide +kernel), k_X4_leastTurn⟩,
  List.forall_mem_cons.mpr ⟨Or.inl ⟨yX5_add, cX5_add, 5, none, rm_X5_add, m_X5_add l, rfl, rfl, by decide, zTb_in 401 (by decide +kernel) (by decide +kernel), k_X5_add⟩,
  List.forall_mem_cons.mpr ⟨Or.inl ⟨yX4_addArcs, cX4_addArcs, 3, none, rm_X4_addArcs, m_X4_addArcs l, rfl, rfl, by decide, zTb_in 405 (by decide +kernel) (by decide +kernel), k_X4_addArcs⟩,
  List.forall_mem_cons.mpr ⟨Or.inl ⟨yX4_addSpot, cX4_addSpot, 6, none, rm_X4_addSpot, m_X4_addSpot l, rfl, rfl, by decide, zTb_in 409 (by decide +kernel) (by decide +kernel), k_X4_addSpot⟩,
  List.forall_mem_cons.mpr ⟨Or.inl ⟨yX4_addLightsBehind, cX4_addLightsBehind, 3, none, rm_X4_addLightsBehind, m_X4_addLightsBehind l, rfl, rfl, by decide, zTb_in 415 (by decide +kernel) (by decide +kernel), k_X4_addLightsBehind⟩,
  fun _ h => absurd h List.not_mem_nil⟩⟩⟩⟩⟩) (Or.inr rfl)
theorem k_X4_lightUp : Cond.code yX4_lightUp cX4_lightUp 8 none ∈ zTb ∧ Cond.initialized yX4_lightUp.cls ∈ zTb ∧ (yX4_lightUp.cls ≠ "java/lang/invoke/MethodHandle" ∧ yX4_lightUp.cls ≠ "java/lang/invoke/VarHandle") ∧ Cond.instanceMethod yX4_lightUp ∈ zTb ∧ Cond.selects yX4_lightUp.cls yX4_lightUp yX4_lightUp ∈ zTb ∧ (∃ (T : u_T) (N : Nat), vwCl[4]? = some (yX4_lightUp.cls, T, N)) ∧ (parseMethodDescriptor yX4_lightUp.desc).map (fun d => d.parameters.length + 1) = some 3 := ⟨zTb_in 399 (by decide +kernel) (by decide +kernel), zTb_in 38 (by decide +kernel) (by decide +kernel), by decide, zTb_in 397 (by decide +kernel) (by decide +kernel), zTb_in 398 (by decide +kernel) (by decide +kernel), ⟨_, _, rfl⟩, by decide +kernel⟩
def zd_X5_part : List zI := [(0, .aload_n 0, 1), (1, .getfield 9, 3), (4, .iload_n 1, 1), (5, .iconst 4, 1), (6, .imul, 1), (7, .iload_n 2, 1), (8, .iadd, 1), (9, .iaload, 1), (10, .ireturn, 1)]
def M_X5_part : zM := (zd_X5_part, zfX5, zgX5, znX5, zoX5, [], [])
def R_X5_part : zRel := zR M_X5_part 3 (some .int)
def rm_X5_part : Room := { frames := 0, cells := 0, slots := 0, locals := 0 }
theorem dd_X5_part : ∀ q ∈ zd_X5_part, decode cX5_part q.1 = .ok (q.2.1, q.2.2) := by decide +kernel
theorem m_X5_part (l : Launch) : zMet l yX5_part cX5_part 3 (some .int) rm_X5_part R_X5_part := z_met (M := M_X5_part) (plainFor_of_name (by decide)) dd_X5_part (by decide +kernel) rfl zfX5_ok zgX5_ok znX5_ok zoX5_ok (fun _ h => absurd h List.not_mem_nil) (Or.inr rfl)
theorem k_X5_part : Cond.code yX5_part cX5_part 3 (some .int) ∈ zTb ∧ Cond.initialized yX5_part.cls ∈ zTb ∧ (yX5_part.cls ≠ "java/lang/invoke/MethodHandle" ∧ yX5_part.cls ≠ "java/lang/invoke/VarHandle") ∧ Cond.instanceMethod yX5_part ∈ zTb ∧ Cond.selects yX5_part.cls yX5_part yX5_part ∈ zTb ∧ (∃ (T : u_T) (N : Nat), vwCl[5]? = some (yX5_part.cls, T, N)) ∧ (parseMethodDescriptor yX5_part.desc).map (fun d => d.parameters.length + 1) = some 3 := ⟨zTb_in 423 (by decide +kernel) (by decide +kernel), zTb_in 39 (by decide +kernel) (by decide +kernel), by decide, zTb_in 421 (by decide +kernel) (by decide +kernel), zTb_in 422 (by decide +kernel) (by decide +kernel), ⟨_, _, rfl⟩, by decide +kernel⟩
def zd_X5_isNear : List zI := [(0, .iload_n 2, 1), (1, .aload_n 0, 1), (2, .iload_n 1, 1), (3, .iconst 2, 1), (4, .invokevirtual 19, 3), (7, .iload_n 3, 1), (8, .isub, 1), (9, .if_icmp .lt 19, 3), (12, .iload_n 2, 1), (13, .aload_n 0, 1), (14, .iload_n 1, 1), (15, .iconst 3, 1), (16, .invokevirtual 19, 3), (19, .iload_n 3, 1), (20, .iadd, 1), (21, .if_icmp .gt 7, 3), (24, .iconst 1, 1), (25, .goto 4, 3), (28, .iconst 0, 1), (29, .ireturn, 1)]
def M_X5_isNear : zM := (zd_X5_isNear, zfX5, zgX5, znX5, zoX5, [(19, 3, 1, some 5, R_X5_part)], [])
def R_X5_isNear : zRel := zR M_X5_isNear 4 (some .boolean)
def rm_X5_isNear : Room := { frames := 1, cells := 0, slots := 0, locals := 22 }
theorem dd_X5_isNear : ∀ q ∈ zd_X5_isNear, decode cX5_isNear q.1 = .ok (q.2.1, q.2.2) := by decide +kernel
theorem m_X5_isNear (l : Launch) : zMet l yX5_isNear cX5_isNear 4 (some .boolean) rm_X5_isNear R_X5_isNear := z_met (M := M_X5_isNear) (plainFor_of_name (by decide)) dd_X5_isNear (by decide +kernel) rfl zfX5_ok zgX5_ok znX5_ok zoX5_ok (List.forall_mem_cons.mpr ⟨Or.inl ⟨yX5_part, cX5_part, 3, (some .int), rm_X5_part, m_X5_part l, rfl, rfl, by decide, zTb_in 470 (by decide +kernel) (by decide +kernel), k_X5_part⟩,
  fun _ h => absurd h List.not_mem_nil⟩) (Or.inr rfl)
theorem k_X5_isNear : Cond.code yX5_isNear cX5_isNear 4 (some .boolean) ∈ zTb ∧ Cond.initialized yX5_isNear.cls ∈ zTb ∧ (yX5_isNear.cls ≠ "java/lang/invoke/MethodHandle" ∧ yX5_isNear.cls ≠ "java/lang/invoke/VarHandle") ∧ Cond.instanceMethod yX5_isNear ∈ zTb ∧ Cond.selects yX5_isNear.cls yX5_isNear yX5_isNear ∈ zTb ∧ (∃ (T : u_T) (N : Nat), vwCl[5]? = some (yX5_isNear.cls, T, N)) ∧ (parseMethodDescriptor yX5_isNear.desc).map (fun d => d.parameters.length + 1) = some 4 := ⟨zTb_in 469 (by decide +kernel) (by decide +kernel), zTb_in 39 (by decide +kernel) (by decide +kernel), by decide, zTb_in 467 (by decide +kernel) (by decide +kernel), zTb_in 468 (by decide +kernel) (by decide +kernel), ⟨_, _, rfl⟩, by decide +kernel⟩
def zd_X0_placesNear : List zI := [(0, .iconst 0, 1), (1, .istore_n 2, 1), (2, .iconst 0, 1), (3, .istore_n 3, 1), (4, .iload_n 3, 1), (5, .bipush 12, 2), (7, .if_icmp .ge 36, 3), (10, .aload_n 0, 1), (11, .getfield 18, 3), (14, .getfield 34, 3), (17, .iload_n 1, 1), (18, .sipush 150, 3), (21, .iload_n 3, 1), (22, .imul, 1), (23, .bipush 75, 2), (25, .invokevirtual 52, 3), (28, .ifCond .eq 9, 3), (31, .iload_n 2, 1), (32, .iconst 1, 1), (33, .iload_n 3, 1), (34, .ishl, 1), (35, .ior, 1), (36, .istore_n 2, 1), (37, .iinc 3 1, 3), (40, .goto (-36), 3), (43, .iload_n 2, 1), (44, .ireturn, 1)]
def M_X0_placesNear : zM := (zd_X0_placesNear, zfX0, zgX0, znX0, zoX0, [(52, 4, 1, some 5, R_X5_isNear)], [])
def R_X0_placesNear : zRel := zR M_X0_placesNear 4 (some .int)
def rm_X0_placesNear : Room := { frames := 2, cells := 0, slots := 0, locals := 45 }
theorem dd_X0_placesNear : ∀ q ∈ zd_X0_placesNear, decode cX0_placesNear q.1 = .ok (q.2.1, q.2.2) := by decide +kernel
theorem m_X0_placesNear (l : Launch) : zMet l yX0_placesNear cX0_placesNear 4 (some .int) rm_X0_placesNear R_X0_placesNear := z_met (M := M_X0_placesNear) (plainFor_of_name (by decide)) dd_X0_placesNear (by decide +kernel) rfl zfX0_ok zgX0_ok znX0_ok zoX0_ok (List.forall_mem_cons.mpr ⟨Or.inl ⟨yX5_isNear, cX5_isNear, 4, (some .boolean), rm_X5_isNear, m_X5_isNear l, rfl, rfl, by decide, zTb_in 533 (by decide +kernel) (by decide +kernel), k_X5_isNear⟩,
  fun _ h => absurd h List.not_mem_nil⟩) (Or.inr rfl)
theorem k_X0_placesNear : Cond.code yX0_placesNear cX0_placesNear 4 (some .int) ∈ zTb ∧ Cond.initialized yX0_placesNear.cls ∈ zTb ∧ (yX0_placesNear.cls ≠ "java/lang/invoke/MethodHandle" ∧ yX0_placesNear.cls ≠ "java/lang/invoke/VarHandle") ∧ Cond.instanceMethod yX0_placesNear ∈ zTb ∧ Cond.selects yX0_placesNear.cls yX0_placesNear yX0_placesNear ∈ zTb ∧ (∃ (T : u_T) (N : Nat), vwCl[0]? = some (yX0_placesNear.cls, T, N)) ∧ (parseMethodDescriptor yX0_placesNear.desc).map (fun d => d.parameters.length + 1) = some 2 := ⟨zTb_in 532 (by decide +kernel) (by decide +kernel), zTb_in 41 (by decide +kernel) (by decide +kernel), by decide, zTb_in 531 (by decide +kernel) (by decide +kernel), zTb_in 11 (by decide +kernel) (by decide +kernel), ⟨_, _, rfl⟩, by decide +kernel⟩
def zd_X0_placesMet : List zI := [(0, .aload_n 0, 1), (1, .getfield 18, 3), (4, .iload_n 1, 1), (5, .iload_n 2, 1), (6, .invokevirtual 28, 3), (9, .iconst 0, 1), (10, .istore_n 3, 1), (11, .iconst 0, 1), (12, .istore 4, 2), (14, .iload 4, 2), (16, .aload_n 0, 1), (17, .getfield 18, 3), (20, .getfield 34, 3), (23, .getfield 38, 3), (26, .if_icmp .ge 52, 3), (29, .aload_n 0, 1), (30, .getfield 18, 3), (33, .getfield 34, 3), (36, .iload 4, 2), (38, .iconst 0, 1), (39, .invokevirtual 44, 3), (42, .iconst 2, 1), (43, .if_icmp .ne 29, 3), (46, .aload_n 0, 1), (47, .getfield 18, 3), (50, .getfield 34, 3), (53, .iload 4, 2), (55, .iconst 1, 1), (56, .invokevirtual 44, 3), (59, .iconst 1, 1), (60, .if_icmp .ne 12, 3), (63, .iload_n 3, 1), (64, .aload_n 0, 1), (65, .iload 4, 2), (67, .invokevirtual 48, 3), (70, .ior, 1), (71, .istore_n 3, 1), (72, .iinc 4 1, 3), (75, .goto (-61), 3), (78, .iload_n 3, 1), (79, .ireturn, 1)]
def M_X0_placesMet : zM := (zd_X0_placesMet, zfX0, zgX0, znX0, zoX0, [(28, 3, 0, some 4, R_X4_lightUp), (44, 3, 1, some 5, R_X5_part), (48, 2, 1, some 0, R_X0_placesNear)], [])
def R_X0_placesMet : zRel := zR M_X0_placesMet 5 (some .int)
def rm_X0_placesMet : Room := { frames := 3, cells := 0, slots := 0, locals := 78 }
theorem dd_X0_placesMet : ∀ q ∈ zd_X0_placesMet, decode cX0_placesMet q.1 = .ok (q.2.1, q.2.2) := by decide +kernel
theorem m_X0_placesMet (l : Launch) : zMet l yX0_placesMet cX0_placesMet 5 (some .int) rm_X0_placesMet R_X0_placesMet := z_met (M := M_X0_placesMet) (plainFor_of_name (by decide)) dd_X0_placesMet (by decide +kernel) rfl zfX0_ok zgX0_ok znX0_ok zoX0_ok (List.forall_mem_cons.mpr ⟨Or.inl ⟨yX4_lightUp, cX4_lightUp, 8, none, rm_X4_lightUp, m_X4_lightUp l, rfl, rfl, by decide, zTb_in 527 (by decide +kernel) (by decide +kernel), k_X4_lightUp⟩,
  List.forall_mem_cons.mpr ⟨Or.inl ⟨yX5_part, cX5_part, 3, (some .int), rm_X5_part, m_X5_part l, rfl, rfl, by decide, zTb_in 528 (by decide +kernel) (by decide +kernel), k_X5_part⟩,
  List.forall_mem_cons.mpr ⟨Or.inl ⟨yX0_placesNear, cX0_placesNear, 4, (some .int), rm_X0_placesNear, m_X0_placesNear l, rfl, rfl, by decide, zTb_in 529 (by decide +kernel) (by decide +kernel), k_X0_placesNear⟩,
  fun _ h => absurd h List.not_mem_nil⟩⟩⟩) (Or.inr rfl)
theorem k_X0_placesMet : Cond.code yX0_placesMet cX0_placesMet 5 (some .int) ∈ zTb ∧ Cond.initialized yX0_placesMet.cls ∈ zTb ∧ (yX0_placesMet.cls ≠ "java/lang/invoke/MethodHandle" ∧ yX0_placesMet.cls ≠ "java/lang/invoke/VarHandle") ∧ Cond.instanceMethod yX0_placesMet ∈ zTb ∧ Cond.selects yX0_placesMet.cls yX0_placesMet yX0_placesMet ∈ zTb ∧ (∃ (T : u_T) (N : Nat), vwCl[0]? = some (yX0_placesMet.cls, T, N)) ∧ (parseMethodDescriptor yX0_placesMet.desc).map (fun d => d.parameters.length + 1) = some 3 := ⟨zTb_in 526 (by decide +kernel) (by decide +kernel), zTb_in 41 (by decide +kernel) (by decide +kernel), by decide, zTb_in 525 (by decide +kernel) (by decide +kernel), zTb_in 10 (by decide +kernel) (by decide +kernel), ⟨_, _, rfl⟩, by decide +kernel⟩
def zd_X0_fits : List zI := [(0, .iload_n 1, 1), (1, .iload_n 0, 1), (2, .iconst (-1), 1), (3, .ixor, 1), (4, .iand, 1), (5, .ifCond .ne 13, 3), (8, .iload_n 2, 1), (9, .iload_n 0, 1), (10, .iand, 1), (11, .ifCond .ne 7, 3), (14, .iconst 1, 1), (15, .goto 4, 3), (18, .iconst 0, 1), (19, .ireturn, 1)]
def M_X0_fits : zM := (zd_X0_fits, zfX0, zgX0, znX0, zoX0, [], [])
def R_X0_fits : zRel := zR M_X0_fits 3 (some .boolean)
def rm_X0_fits : Room := { frames := 0, cells := 0, slots := 0, locals := 0 }
theorem dd_X0_fits : ∀ q ∈ zd_X0_fits, decode cX0_fits q.1 = .ok (q.2.1, q.2.2) := by decide +kernel
theorem m_X0_fits (l : Launch) : zMet l yX0_fits cX0_fits 3 (some .boolean) rm_X0_fits R_X0_fits := z_met (M := M_X0_fits) (plainFor_of_name (by decide)) dd_X0_fits (by decide +kernel) rfl zfX0_ok zgX0_ok znX0_ok zoX0_ok (fun _ h => absurd h List.not_mem_nil) (Or.inr rfl)
theorem k_X0_fits : Cond.code yX0_fits cX0_fits 3 (some .boolean) ∈ zTb ∧ Cond.initialized yX0_fits.cls ∈ zTb ∧ (yX0_fits.cls ≠ "java/lang/invoke/MethodHandle" ∧ yX0_fits.cls ≠ "java/lang/invoke/VarHandle") ∧ Cond.static yX0_fits ∈ zTb ∧ (parseMethodDescriptor yX0_fits.desc).map (fun d => d.parameters.length) = some 3 := ⟨zTb_in 540 (by decide +kernel) (by decide +kernel), zTb_in 41 (by decide +kernel) (by decide +kernel), by decide, zTb_in 539 (by decide +kernel) (by decide +kernel), by decide +kernel⟩
def zd_X0_isMade : List zI := [(0, .iconst 0, 1), (1, .istore_n 3, 1), (2, .iconst 0, 1), (3, .istore 4, 2), (5, .iload 4, 2), (7, .bipush 16, 2), (9, .if_icmp .ge 29, 3), (12, .iload_n 1, 1), (13, .iload 4, 2), (15, .ishr, 1), (16, .iconst 1, 1), (17, .iand, 1), (18, .iconst 1, 1), (19, .if_icmp .ne 13, 3), (22, .iload_n 3, 1), (23, .aload_n 0, 1), (24, .iload 4, 2), (26, .iload_n 2, 1), (27, .invokevirtual 56, 3), (30, .ior, 1), (31, .istore_n 3, 1), (32, .iinc 4 1, 3), (35, .goto (-30), 3), (38, .iload_n 3, 1), (39, .aload_n 0, 1), (40, .iconst 1, 1), (41, .invokevirtual 59, 3), (44, .aload_n 0, 1), (45, .iconst 0, 1), (46, .invokevirtual 59, 3), (49, .invokestatic 62, 3), (52, .ireturn, 1)]
def M_X0_isMade : zM := (zd_X0_isMade, zfX0, zgX0, znX0, zoX0, [(56, 3, 1, some 0, R_X0_placesMet), (59, 2, 1, some 0, R_X0_placesTold), (62, 3, 1, none, R_X0_fits)], [])
def R_X0_isMade : zRel := zR M_X0_isMade 5 (some .boolean)
def rm_X0_isMade : Room := { frames := 4, cells := 0, slots := 0, locals := 102 }
theorem dd_X0_isMade : ∀ q ∈ zd_X0_isMade, decode cX0_isMade q.1 = .ok (q.2.1, q.2.2) := by decide +kernel
theorem m_X0_isMade (l : Launch) : zMet l yX0_isMade cX0_isMade 5 (some .boolean) rm_X0_isMade R_X0_isMade := z_met (M := M_X0_isMade) (plainFor_of_name (by decide)) dd_X0_isMade (by decide +kernel) rfl zfX0_ok zgX0_ok znX0_ok zoX0_ok (List.forall_mem_cons.mpr ⟨Or.inl ⟨yX0_placesMet, cX0_placesMet, 5, (some .int), rm_X0_placesMet, m_X0_placesMet l, rfl, rfl, by decide, zTb_in 523 (by decide +kernel) (by decide +kernel), k_X0_placesMet⟩,
  List.forall_mem_cons.mpr ⟨Or.inl ⟨yX0_placesTold, cX0_placesTold, 4, (some .int), rm_X0_placesTold, m_X0_placesTold l, rfl, rfl, by decide, zTb_in 534 (by decide +kernel) (by decide +kernel), k_X0_placesTold⟩,
  List.forall_mem_cons.mpr ⟨Or.inl ⟨yX0_fits, cX0_fits, 3, (some .boolean), rm_X0_fits, m_X0_fits l, rfl, rfl, by decide, zTb_in 538 (by decide +kernel) (by decide +kernel), k_X0_fits⟩,
  fun _ h => absurd h List.not_mem_nil⟩⟩⟩) (Or.inr rfl)
theorem k_X0_isMade : Cond.code yX0_isMade cX0_isMade 5 (some .boolean) ∈ zTb ∧ Cond.initialized yX0_isMade.cls ∈ zTb ∧ (yX0_isMade.cls ≠ "java/lang/invoke/MethodHandle" ∧ yX0_isMade.cls ≠ "java/lang/invoke/VarHandle") ∧ Cond.instanceMethod yX0_isMade ∈ zTb ∧ Cond.selects yX0_isMade.cls yX0_isMade yX0_isMade ∈ zTb ∧ (∃ (T : u_T) (N : Nat), vwCl[0]? = some (yX0_isMade.cls, T, N)) ∧ (parseMethodDescriptor yX0_isMade.desc).map (fun d => d.parameters.length + 1) = some 3 := ⟨zTb_in 522 (by decide +kernel) (by decide +kernel), zTb_in 41 (by decide +kernel) (by decide +kernel), by decide, zTb_in 520 (by decide +kernel) (by decide +kernel), zTb_in 521 (by decide +kernel) (by decide +kernel), ⟨_, _, rfl⟩, by decide +kernel⟩
def zd_X0_firstMaker : List zI := [(0, .aload_n 0, 1), (1, .iconst 1, 1), (2, .invokevirtual 59, 3), (5, .istore_n 2, 1), (6, .aload_n 0, 1), (7, .iconst 0, 1), (8, .invokevirtual 59, 3), (11, .istore_n 3, 1), (12, .iconst 0, 1), (13, .istore 4, 2), (15, .iload 4, 2), (17, .bipush 16, 2), (19, .if_icmp .ge 92, 3), (22, .aload_n 0, 1), (23, .getfield 15, 3), (26, .iload 4, 2), (28, .aload_n 0, 1), (29, .iload 4, 2), (31, .iload_n 1, 1), (32, .invokevirtual 56, 3), (35, .iastore, 1), (36, .aload_n 0, 1), (37, .getfield 15, 3), (40, .iload 4, 2), (42, .iaload, 1), (43, .iload_n 2, 1), (44, .iload_n 3, 1), (45, .invokestatic 62, 3), (48, .ifCond .eq 8, 3), (51, .iconst 1, 1), (52, .iload 4, 2), (54, .ishl, 1), (55, .ireturn, 1), (56, .iconst 0, 1), (57, .istore 5, 2), (59, .iload 5, 2), (61, .iload 4, 2), (63, .if_icmp .ge 42, 3), (66, .aload_n 0, 1), (67, .getfield 15, 3), (70, .iload 4, 2), (72, .iaload, 1), (73, .aload_n 0, 1), (74, .getfield 15, 3), (77, .iload 5, 2), (79, .iaload, 1), (80, .ior, 1), (81, .iload_n 2, 1), (82, .iload_n 3, 1), (83, .invokestatic 62, 3), (86, .ifCond .eq 13, 3), (89, .iconst 1, 1), (90, .iload 4, 2), (92, .ishl, 1), (93, .iconst 1, 1), (94, .iload 5, 2), (96, .ishl, 1), (97, .ior, 1), (98, .ireturn, 1), (99, .iinc 5 1, 3), (102, .goto (-43), 3), (105, .iinc 4 1, 3), (108, .goto (-93), 3), (111, .bipush (-4), 2), (113, .ireturn, 1)]
def M_X0_firstMaker : zM := (zd_X0_firstMaker, zfX0, zgX0, znX0, zoX0, [(59, 2, 1, some 0, R_X0_placesTold), (56, 3, 1, some 0, R_X0_placesMet), (62, 3, 1, none, R_X0_fits)], [])
def R_X0_firstMaker : zRel := zR M_X0_firstMaker 6 (some .int)
def rm_X0_firstMaker : Room := { frames := 4, cells := 0, slots := 0, locals := 102 }
theorem dd_X0_firstMaker : ∀ q ∈ zd_X0_firstMaker, decode cX0_firstMaker q.1 = .ok (q.2.1, q.2.2) := by decide +kernel
theorem m_X0_firstMaker (l : Launch) : zMet l yX0_firstMaker cX0_firstMaker 6 (some .int) rm_X0_firstMaker R_X0_firstMaker := z_met (M := M_X0_firstMaker) (plainFor_of_name (by decide)) dd_X0_firstMaker (by decide +kernel) rfl zfX0_ok zgX0_ok znX0_ok zoX0_ok (List.forall_mem_cons.mpr ⟨Or.inl ⟨yX0_placesTold, cX0_placesTold, 4, (some .int), rm_X0_placesTold, m_X0_placesTold l, rfl, rfl, by decide, zTb_in 534 (by decide +kernel) (by decide +kernel), k_X0_placesTold⟩,
  List.forall_mem_cons.mpr ⟨Or.inl ⟨yX0_placesMet, cX0_placesMet, 5, (some .int), rm_X0_placesMet, m_X0_placesMet l, rfl, rfl, by decide, zTb_in 523 (by decide +kernel) (by decide +kernel), k_X0_placesMet⟩,
  List.forall_mem_cons.mpr ⟨Or.inl ⟨yX0_fits, cX0_fits, 3, (some .boolean), rm_X0_fits, m_X0_fits l, rfl, rfl, by decide, zTb_in 538 (by decide +kernel) (by decide +kernel), k_X0_fits⟩,
  fun _ h => absurd h List.not_mem_nil⟩⟩⟩) (Or.inr rfl)
theorem k_X0_firstMaker : Cond.code yX0_firstMaker cX0_firstMaker 6 (some .int) ∈ zTb ∧ Cond.initialized yX0_firstMaker.cls ∈ zTb ∧ (yX0_firstMaker.cls ≠ "java/lang/invoke/MethodHandle" ∧ yX0_firstMaker.cls ≠ "java/lang/invoke/VarHandle") ∧ Cond.instanceMethod yX0_firstMaker ∈ zTb ∧ Cond.selects yX0_firstMaker.cls yX0_firstMaker yX0_firstMaker ∈ zTb ∧ (∃ (T : u_T) (N : Nat), vwCl[0]? = some (yX0_firstMaker.cls, T, N)) ∧ (parseMethodDescriptor yX0_firstMaker.desc).map (fun d => d.parameters.length + 1) = some 2 := ⟨zTb_in 548 (by decide +kernel) (by decide +kernel), zTb_in 41 (by decide +kernel) (by decide +kernel), by decide, zTb_in 546 (by decide +kernel) (by decide +kernel), zTb_in 547 (by decide +kernel) (by decide +kernel), ⟨_, _, rfl⟩, by decide +kernel⟩
def zd_X1_addDay : List zI := [(0, .aload_n 0, 1), (1, .getfield 21, 3), (4, .bipush 60, 2), (6, .if_icmp .lt 6, 3), (9, .bipush (-3), 2), (11, .ireturn, 1), (12, .aload_n 0, 1), (13, .getfield 9, 3), (16, .aload_n 0, 1), (17, .getfield 21, 3), (20, .iload_n 1, 1), (21, .iastore, 1), (22, .aload_n 0, 1), (23, .getfield 15, 3), (26, .aload_n 0, 1), (27, .getfield 21, 3), (30, .iload_n 2, 1), (31, .iastore, 1), (32, .aload_n 0, 1), (33, .getfield 18, 3), (36, .aload_n 0, 1), (37, .getfield 21, 3), (40, .iload_n 3, 1), (41, .iastore, 1), (42, .aload_n 0, 1), (43, .dup, 1), (44, .getfield 21, 3), (47, .iconst 1, 1), (48, .iadd, 1), (49, .putfield 21, 3), (52, .aload_n 0, 1), (53, .getfield 21, 3), (56, .ireturn, 1)]
def M_X1_addDay : zM := (zd_X1_addDay, zfX1, zgX1, znX1, zoX1, [], [])
def R_X1_addDay : zRel := zR M_X1_addDay 4 (some .int)
def rm_X1_addDay : Room := { frames := 0, cells := 0, slots := 0, locals := 0 }
theorem dd_X1_addDay : ∀ q ∈ zd_X1_addDay, decode cX1_addDay q.1 = .ok (q.2.1, q.2.2) := by decide +kernel
theorem m_X1_addDay (l : Launch) : zMet l yX1_addDay cX1_addDay 4 (some .int) rm_X1_addDay R_X1_addDay := z_met (M := M_X1_addDay) (plainFor_of_name (by decide)) dd_X1_addDay (by decide +kernel) rfl zfX1_ok zgX1_ok znX1_ok zoX1_ok (fun _ h => absurd h List.not_mem_nil) (Or.inr rfl)
theorem k_X1_addDay : Cond.code yX1_addDay cX1_addDay 4 (some .int) ∈ zTb ∧ Cond.initialized yX1_addDay.cls ∈ zTb ∧ (yX1_addDay.cls ≠ "java/lang/invoke/MethodHandle" ∧ yX1_addDay.cls ≠ "java/lang/invoke/VarHandle") ∧ Cond.instanceMethod yX1_addDay ∈ zTb ∧ Cond.selects yX1_addDay.cls yX1_addDay yX1_addDay ∈ zTb ∧ (∃ (T : u_T) (N : Nat), vwCl[1]? = some (yX1_addDay.cls, T, N)) ∧ (parseMethodDescriptor yX1_addDay.desc).map (fun d => d.parameters.length + 1) = some 4 := ⟨zTb_in 559 (by decide +kernel) (by decide +kernel), zTb_in 43 (by decide +kernel) (by decide +kernel), by decide, zTb_in 557 (by decide +kernel) (by decide +kernel), zTb_in 558 (by decide +kernel) (by decide +kernel), ⟨_, _, rfl⟩, by decide +kernel⟩
end
section
def zd_X1_daysWith : List zI := [(0, .iconst 0, 1), (1, .istore 5, 2), (3, .iconst 0, 1), (4, .istore 6, 2), (6, .iload 6, 2), (8, .aload_n 0, 1), (9, .getfield 21, 3), (12, .if_icmp .ge 65, 3), (15, .aload_n 0, 1), (16, .getfield 9, 3), (19, .iload 6, 2), (21, .iaload, 1), (22, .iload_n 2, 1), (23, .if_icmp .lt 48, 3), (26, .aload_n 0, 1), (27, .getfield 9, 3), (30, .iload 6, 2), (32, .iaload, 1), (33, .iload_n 3, 1), (34, .if_icmp .gt 37, 3), (37, .iload 4, 2), (39, .iconst (-1), 1), (40, .if_icmp .eq 15, 3), (43, .aload_n 0, 1), (44, .getfield 15, 3), (47, .iload 6, 2), (49, .iaload, 1), (50, .iload 4, 2), (52, .if_icmp .ne 19, 3), (55, .aload_n 0, 1), (56, .getfield 18, 3), (59, .iload 6, 2), (61, .iaload, 1), (62, .iload_n 1, 1), (63, .iand, 1), (64, .iload_n 1, 1), (65, .if_icmp .ne 6, 3), (68, .iinc 5 1, 3), (71, .iinc 6 1, 3), (74, .goto (-68), 3), (77, .iload 5, 2), (79, .ireturn, 1)]
def M_X1_daysWith : zM := (zd_X1_daysWith, zfX1, zgX1, znX1, zoX1, [], [])
def R_X1_daysWith : zRel := zR M_X1_daysWith 7 (some .int)
def rm_X1_daysWith : Room := { frames := 0, cells := 0, slots := 0, locals := 0 }
theorem dd_X1_daysWith : ∀ q ∈ zd_X1_daysWith, decode cX1_daysWith q.1 = .ok (q.2.1, q.2.2) := by decide +kernel
theorem m_X1_daysWith (l : Launch) : zMet l yX1_daysWith cX1_daysWith 7 (some .int) rm_X1_daysWith R_X1_daysWith := z_met (M := M_X1_daysWith) (plainFor_of_name (by decide)) dd_X1_daysWith (by decide +kernel) rfl zfX1_ok zgX1_ok znX1_ok zoX1_ok (fun _ h => absurd h List.not_mem_nil) (Or.inr rfl)
theorem k_X1_daysWith : Cond.code yX1_daysWith cX1_daysWith 7 (some .int) ∈ zTb ∧ Cond.initialized yX1_daysWith.cls ∈ zTb ∧ (yX1_daysWith.cls ≠ "java/lang/invoke/MethodHandle" ∧ yX1_daysWith.cls ≠ "java/lang/invoke/VarHandle") ∧ Cond.instanceMethod yX1_daysWith ∈ zTb ∧ Cond.selects yX1_daysWith.cls yX1_daysWith yX1_daysWith ∈ zTb ∧ (∃ (T : u_T) (N : Nat), vwCl[1]? = some (yX1_daysWith.cls, T, N)) ∧ (parseMethodDescriptor yX1_daysWith.desc).map (fun d => d.parameters.length + 1) = some 5 := ⟨zTb_in 567 (by decide +kernel) (by decide +kernel), zTb_in 43 (by decide +kernel) (by decide +kernel), by decide, zTb_in 565 (by decide +kernel) (by decide +kernel), zTb_in 566 (by decide +kernel) (by decide +kernel), ⟨_, _, rfl⟩, by decide +kernel⟩
def zd_X1_causesSeen : List zI := [(0, .iconst 0, 1), (1, .istore_n 1, 1), (2, .iconst 0, 1), (3, .istore_n 2, 1), (4, .iload_n 2, 1), (5, .aload_n 0, 1), (6, .getfield 21, 3), (9, .if_icmp .ge 18, 3), (12, .iload_n 1, 1), (13, .aload_n 0, 1), (14, .getfield 18, 3), (17, .iload_n 2, 1), (18, .iaload, 1), (19, .ior, 1), (20, .istore_n 1, 1), (21, .iinc 2 1, 3), (24, .goto (-20), 3), (27, .iload_n 1, 1), (28, .ireturn, 1)]
def M_X1_causesSeen : zM := (zd_X1_causesSeen, zfX1, zgX1, znX1, zoX1, [], [])
def R_X1_causesSeen : zRel := zR M_X1_causesSeen 3 (some .int)
def rm_X1_causesSeen : Room := { frames := 0, cells := 0, slots := 0, locals := 0 }
theorem dd_X1_causesSeen : ∀ q ∈ zd_X1_causesSeen, decode cX1_causesSeen q.1 = .ok (q.2.1, q.2.2) := by decide +kernel
theorem m_X1_causesSeen (l : Launch) : zMet l yX1_causesSeen cX1_causesSeen 3 (some .int) rm_X1_causesSeen R_X1_causesSeen := z_met (M := M_X1_causesSeen) (plainFor_of_name (by decide)) dd_X1_causesSeen (by decide +kernel) rfl zfX1_ok zgX1_ok znX1_ok zoX1_ok (fun _ h => absurd h List.not_mem_nil) (Or.inr rfl)
theorem k_X1_causesSeen : Cond.code yX1_causesSeen cX1_causesSeen 3 (some .int) ∈ zTb ∧ Cond.initialized yX1_causesSeen.cls ∈ zTb ∧ (yX1_causesSeen.cls ≠ "java/lang/invoke/MethodHandle" ∧ yX1_causesSeen.cls ≠ "java/lang/invoke/VarHandle") ∧ Cond.instanceMethod yX1_causesSeen ∈ zTb ∧ Cond.selects yX1_causesSeen.cls yX1_causesSeen yX1_causesSeen ∈ zTb ∧ (∃ (T : u_T) (N : Nat), vwCl[1]? = some (yX1_causesSeen.cls, T, N)) ∧ (parseMethodDescriptor yX1_causesSeen.desc).map (fun d => d.parameters.length + 1) = some 1 := ⟨zTb_in 608 (by decide +kernel) (by decide +kernel), zTb_in 43 (by decide +kernel) (by decide +kernel), by decide, zTb_in 606 (by decide +kernel) (by decide +kernel), zTb_in 607 (by decide +kernel) (by decide +kernel), ⟨_, _, rfl⟩, by decide +kernel⟩
def zd_X2_addMark : List zI := [(0, .aload_n 0, 1), (1, .getfield 22, 3), (4, .bipush 12, 2), (6, .if_icmp .lt 6, 3), (9, .bipush (-3), 2), (11, .ireturn, 1), (12, .aload_n 0, 1), (13, .getfield 9, 3), (16, .aload_n 0, 1), (17, .getfield 22, 3), (20, .iconst 4, 1), (21, .imul, 1), (22, .iconst 0, 1), (23, .iadd, 1), (24, .iload_n 1, 1), (25, .iastore, 1), (26, .aload_n 0, 1), (27, .getfield 9, 3), (30, .aload_n 0, 1), (31, .getfield 22, 3), (34, .iconst 4, 1), (35, .imul, 1), (36, .iconst 1, 1), (37, .iadd, 1), (38, .iload_n 2, 1), (39, .iastore, 1), (40, .aload_n 0, 1), (41, .getfield 9, 3), (44, .aload_n 0, 1), (45, .getfield 22, 3), (48, .iconst 4, 1), (49, .imul, 1), (50, .iconst 2, 1), (51, .iadd, 1), (52, .iload_n 3, 1), (53, .iastore, 1), (54, .aload_n 0, 1), (55, .getfield 9, 3), (58, .aload_n 0, 1), (59, .getfield 22, 3), (62, .iconst 4, 1), (63, .imul, 1), (64, .iconst 3, 1), (65, .iadd, 1), (66, .iload 4, 2), (68, .iastore, 1), (69, .aload_n 0, 1), (70, .dup, 1), (71, .getfield 22, 3), (74, .iconst 1, 1), (75, .iadd, 1), (76, .putfield 22, 3), (79, .aload_n 0, 1), (80, .getfield 22, 3), (83, .ireturn, 1)]
def M_X2_addMark : zM := (zd_X2_addMark, zfX2, zgX2, znX2, zoX2, [], [])
def R_X2_addMark : zRel := zR M_X2_addMark 5 (some .int)
def rm_X2_addMark : Room := { frames := 0, cells := 0, slots := 0, locals := 0 }
theorem dd_X2_addMark : ∀ q ∈ zd_X2_addMark, decode cX2_addMark q.1 = .ok (q.2.1, q.2.2) := by decide +kernel
theorem m_X2_addMark (l : Launch) : zMet l yX2_addMark cX2_addMark 5 (some .int) rm_X2_addMark R_X2_addMark := z_met (M := M_X2_addMark) (plainFor_of_name (by decide)) dd_X2_addMark (by decide +kernel) rfl zfX2_ok zgX2_ok znX2_ok zoX2_ok (fun _ h => absurd h List.not_mem_nil) (Or.inr rfl)
theorem k_X2_addMark : Cond.code yX2_addMark cX2_addMark 5 (some .int) ∈ zTb ∧ Cond.initialized yX2_addMark.cls ∈ zTb ∧ (yX2_addMark.cls ≠ "java/lang/invoke/MethodHandle" ∧ yX2_addMark.cls ≠ "java/lang/invoke/VarHandle") ∧ Cond.instanceMethod yX2_addMark ∈ zTb ∧ Cond.selects yX2_addMark.cls yX2_addMark yX2_addMark ∈ zTb ∧ (∃ (T : u_T) (N : Nat), vwCl[2]? = some (yX2_addMark.cls, T, N)) ∧ (parseMethodDescriptor yX2_addMark.desc).map (fun d => d.parameters.length + 1) = some 5 := ⟨zTb_in 431 (by decide +kernel) (by decide +kernel), zTb_in 40 (by decide +kernel) (by decide +kernel), by decide, zTb_in 429 (by decide +kernel) (by decide +kernel), zTb_in 430 (by decide +kernel) (by decide +kernel), ⟨_, _, rfl⟩, by decide +kernel⟩
def zd_X2_allMarks : List zI := [(0, .iconst 1, 1), (1, .aload_n 0, 1), (2, .getfield 22, 3), (5, .ishl, 1), (6, .iconst 1, 1), (7, .isub, 1), (8, .ireturn, 1)]
def M_X2_allMarks : zM := (zd_X2_allMarks, zfX2, zgX2, znX2, zoX2, [], [])
def R_X2_allMarks : zRel := zR M_X2_allMarks 1 (some .int)
def rm_X2_allMarks : Room := { frames := 0, cells := 0, slots := 0, locals := 0 }
theorem dd_X2_allMarks : ∀ q ∈ zd_X2_allMarks, decode cX2_allMarks q.1 = .ok (q.2.1, q.2.2) := by decide +kernel
theorem m_X2_allMarks (l : Launch) : zMet l yX2_allMarks cX2_allMarks 1 (some .int) rm_X2_allMarks R_X2_allMarks := z_met (M := M_X2_allMarks) (plainFor_of_name (by decide)) dd_X2_allMarks (by decide +kernel) rfl zfX2_ok zgX2_ok znX2_ok zoX2_ok (fun _ h => absurd h List.not_mem_nil) (Or.inr rfl)
theorem k_X2_allMarks : Cond.code yX2_allMarks cX2_allMarks 1 (some .int) ∈ zTb ∧ Cond.initialized yX2_allMarks.cls ∈ zTb ∧ (yX2_allMarks.cls ≠ "java/lang/invoke/MethodHandle" ∧ yX2_allMarks.cls ≠ "java/lang/invoke/VarHandle") ∧ Cond.instanceMethod yX2_allMarks ∈ zTb ∧ Cond.selects yX2_allMarks.cls yX2_allMarks yX2_allMarks ∈ zTb ∧ (∃ (T : u_T) (N : Nat), vwCl[2]? = some (yX2_allMarks.cls, T, N)) ∧ (parseMethodDescriptor yX2_allMarks.desc).map (fun d => d.parameters.length + 1) = some 1 := ⟨zTb_in 451 (by decide +kernel) (by decide +kernel), zTb_in 40 (by decide +kernel) (by decide +kernel), by decide, zTb_in 450 (by decide +kernel) (by decide +kernel), zTb_in 4 (by decide +kernel) (by decide +kernel), ⟨_, _, rfl⟩, by decide +kernel⟩
def zd_X2_meets : List zI := [(0, .aload_n 0, 1), (1, .getfield 9, 3), (4, .iload_n 2, 1), (5, .iconst 4, 1), (6, .imul, 1), (7, .iconst 0, 1), (8, .iadd, 1), (9, .iaload, 1), (10, .istore_n 3, 1), (11, .aload_n 0, 1), (12, .getfield 9, 3), (15, .iload_n 2, 1), (16, .iconst 4, 1), (17, .imul, 1), (18, .iconst 1, 1), (19, .iadd, 1), (20, .iaload, 1), (21, .istore 4, 2), (23, .iload_n 3, 1), (24, .iconst (-1), 1), (25, .if_icmp .eq 19, 3), (28, .iload_n 3, 1), (29, .aload_n 0, 1), (30, .getfield 18, 3), (33, .getfield 26, 3), (36, .iload_n 1, 1), (37, .iconst 0, 1), (38, .invokevirtual 32, 3), (41, .if_icmp .ne 64, 3), (44, .iload 4, 2), (46, .iconst (-1), 1), (47, .if_icmp .eq 20, 3), (50, .iload 4, 2), (52, .aload_n 0, 1), (53, .getfield 18, 3), (56, .getfield 26, 3), (59, .iload_n 1, 1), (60, .iconst 1, 1), (61, .invokevirtual 32, 3), (64, .if_icmp .ne 41, 3), (67, .aload_n 0, 1), (68, .getfield 18, 3), (71, .getfield 26, 3), (74, .iload_n 1, 1), (75, .aload_n 0, 1), (76, .getfield 9, 3), (79, .iload_n 2, 1), (80, .iconst 4, 1), (81, .imul, 1), (82, .iconst 2, 1), (83, .iadd, 1), (84, .iaload, 1), (85, .aload_n 0, 1), (86, .getfield 9, 3), (89, .iload_n 2, 1), (90, .iconst 4, 1), (91, .imul, 1), (92, .iconst 3, 1), (93, .iadd, 1), (94, .iaload, 1), (95, .invokevirtual 38, 3), (98, .ifCond .eq 7, 3), (101, .iconst 1, 1), (102, .goto 4, 3), (105, .iconst 0, 1), (106, .ireturn, 1)]
def M_X2_meets : zM := (zd_X2_meets, zfX2, zgX2, znX2, zoX2, [(32, 3, 1, some 5, R_X5_part), (38, 4, 1, some 5, R_X5_isNear)], [])
def R_X2_meets : zRel := zR M_X2_meets 5 (some .boolean)
def rm_X2_meets : Room := { frames := 2, cells := 0, slots := 0, locals := 45 }
theorem dd_X2_meets : ∀ q ∈ zd_X2_meets, decode cX2_meets q.1 = .ok (q.2.1, q.2.2) := by decide +kernel
theorem m_X2_meets (l : Launch) : zMet l yX2_meets cX2_meets 5 (some .boolean) rm_X2_meets R_X2_meets := z_met (M := M_X2_meets) (plainFor_of_name (by decide)) dd_X2_meets (by decide +kernel) rfl zfX2_ok zgX2_ok znX2_ok zoX2_ok (List.forall_mem_cons.mpr ⟨Or.inl ⟨yX5_part, cX5_part, 3, (some .int), rm_X5_part, m_X5_part l, rfl, rfl, by decide, zTb_in 465 (by decide +kernel) (by decide +kernel), k_X5_part⟩,
  List.forall_mem_cons.mpr ⟨Or.inl ⟨yX5_isNear, cX5_isNear, 4, (some .boolean), rm_X5_isNear, m_X5_isNear l, rfl, rfl, by decide, zTb_in 466 (by decide +kernel) (by decide +kernel), k_X5_isNear⟩,
  fun _ h => absurd h List.not_mem_nil⟩⟩) (Or.inr rfl)
theorem k_X2_meets : Cond.code yX2_meets cX2_meets 5 (some .boolean) ∈ zTb ∧ Cond.initialized yX2_meets.cls ∈ zTb ∧ (yX2_meets.cls ≠ "java/lang/invoke/MethodHandle" ∧ yX2_meets.cls ≠ "java/lang/invoke/VarHandle") ∧ Cond.instanceMethod yX2_meets ∈ zTb ∧ Cond.selects yX2_meets.cls yX2_meets yX2_meets ∈ zTb ∧ (∃ (T : u_T) (N : Nat), vwCl[2]? = some (yX2_meets.cls, T, N)) ∧ (parseMethodDescriptor yX2_meets.desc).map (fun d => d.parameters.length + 1) = some 3 := ⟨zTb_in 464 (by decide +kernel) (by decide +kernel), zTb_in 40 (by decide +kernel) (by decide +kernel), by decide, zTb_in 463 (by decide +kernel) (by decide +kernel), zTb_in 7 (by decide +kernel) (by decide +kernel), ⟨_, _, rfl⟩, by decide +kernel⟩
def zd_X2_meetsAny : List zI := [(0, .iconst 0, 1), (1, .istore_n 2, 1), (2, .iload_n 2, 1), (3, .aload_n 0, 1), (4, .getfield 22, 3), (7, .if_icmp .ge 20, 3), (10, .aload_n 0, 1), (11, .iload_n 1, 1), (12, .iload_n 2, 1), (13, .invokevirtual 42, 3), (16, .ifCond .eq 5, 3), (19, .iconst 1, 1), (20, .ireturn, 1), (21, .iinc 2 1, 3), (24, .goto (-22), 3), (27, .iconst 0, 1), (28, .ireturn, 1)]
def M_X2_meetsAny : zM := (zd_X2_meetsAny, zfX2, zgX2, znX2, zoX2, [(42, 3, 1, some 2, R_X2_meets)], [])
def R_X2_meetsAny : zRel := zR M_X2_meetsAny 3 (some .boolean)
def rm_X2_meetsAny : Room := { frames := 3, cells := 0, slots := 0, locals := 69 }
theorem dd_X2_meetsAny : ∀ q ∈ zd_X2_meetsAny, decode cX2_meetsAny q.1 = .ok (q.2.1, q.2.2) := by decide +kernel
theorem m_X2_meetsAny (l : Launch) : zMet l yX2_meetsAny cX2_meetsAny 3 (some .boolean) rm_X2_meetsAny R_X2_meetsAny := z_met (M := M_X2_meetsAny) (plainFor_of_name (by decide)) dd_X2_meetsAny (by decide +kernel) rfl zfX2_ok zgX2_ok znX2_ok zoX2_ok (List.forall_mem_cons.mpr ⟨Or.inl ⟨yX2_meets, cX2_meets, 5, (some .boolean), rm_X2_meets, m_X2_meets l, rfl, rfl, by decide, zTb_in 461 (by decide +kernel) (by decide +kernel), k_X2_meets⟩,
  fun _ h => absurd h List.not_mem_nil⟩) (Or.inr rfl)
theorem k_X2_meetsAny : Cond.code yX2_meetsAny cX2_meetsAny 3 (some .boolean) ∈ zTb ∧ Cond.initialized yX2_meetsAny.cls ∈ zTb ∧ (yX2_meetsAny.cls ≠ "java/lang/invoke/MethodHandle" ∧ yX2_meetsAny.cls ≠ "java/lang/invoke/VarHandle") ∧ Cond.instanceMethod yX2_meetsAny ∈ zTb ∧ Cond.selects yX2_meetsAny.cls yX2_meetsAny yX2_meetsAny ∈ zTb ∧ (∃ (T : u_T) (N : Nat), vwCl[2]? = some (yX2_meetsAny.cls, T, N)) ∧ (parseMethodDescriptor yX2_meetsAny.desc).map (fun d => d.parameters.length + 1) = some 2 := ⟨zTb_in 498 (by decide +kernel) (by decide +kernel), zTb_in 40 (by decide +kernel) (by decide +kernel), by decide, zTb_in 497 (by decide +kernel) (by decide +kernel), zTb_in 9 (by decide +kernel) (by decide +kernel), ⟨_, _, rfl⟩, by decide +kernel⟩
def zd_X2_marksMet : List zI := [(0, .aload_n 0, 1), (1, .getfield 18, 3), (4, .iload_n 1, 1), (5, .iload_n 2, 1), (6, .invokevirtual 46, 3), (9, .iconst 0, 1), (10, .istore 4, 2), (12, .iconst 0, 1), (13, .istore 5, 2), (15, .iload 5, 2), (17, .aload_n 0, 1), (18, .getfield 18, 3), (21, .getfield 26, 3), (24, .getfield 50, 3), (27, .if_icmp .ge 57, 3), (30, .iconst 0, 1), (31, .istore 6, 2), (33, .iload 6, 2), (35, .aload_n 0, 1), (36, .getfield 22, 3), (39, .if_icmp .ge 39, 3), (42, .iload_n 3, 1), (43, .iload 6, 2), (45, .ishr, 1), (46, .iconst 1, 1), (47, .iand, 1), (48, .iconst 1, 1), (49, .if_icmp .ne 23, 3), (52, .aload_n 0, 1), (53, .iload 5, 2), (55, .iload 6, 2), (57, .invokevirtual 42, 3), (60, .ifCond .eq 12, 3), (63, .iload 4, 2), (65, .iconst 1, 1), (66, .iload 6, 2), (68, .ishl, 1), (69, .ior, 1), (70, .istore 4, 2), (72, .iinc 6 1, 3), (75, .goto (-42), 3), (78, .iinc 5 1, 3), (81, .goto (-66), 3), (84, .iload 4, 2), (86, .ireturn, 1)]
def M_X2_marksMet : zM := (zd_X2_marksMet, zfX2, zgX2, znX2, zoX2, [(46, 3, 0, some 4, R_X4_lightUp), (42, 3, 1, some 2, R_X2_meets)], [])
def R_X2_marksMet : zRel := zR M_X2_marksMet 7 (some .int)
def rm_X2_marksMet : Room := { frames := 3, cells := 0, slots := 0, locals := 78 }
theorem dd_X2_marksMet : ∀ q ∈ zd_X2_marksMet, decode cX2_marksMet q.1 = .ok (q.2.1, q.2.2) := by decide +kernel
theorem m_X2_marksMet (l : Launch) : zMet l yX2_marksMet cX2_marksMet 7 (some .int) rm_X2_marksMet R_X2_marksMet := z_met (M := M_X2_marksMet) (plainFor_of_name (by decide)) dd_X2_marksMet (by decide +kernel) rfl zfX2_ok zgX2_ok znX2_ok zoX2_ok (List.forall_mem_cons.mpr ⟨Or.inl ⟨yX4_lightUp, cX4_lightUp, 8, none, rm_X4_lightUp, m_X4_lightUp l, rfl, rfl, by decide, zTb_in 460 (by decide +kernel) (by decide +kernel), k_X4_lightUp⟩,
  List.forall_mem_cons.mpr ⟨Or.inl ⟨yX2_meets, cX2_meets, 5, (some .boolean), rm_X2_meets, m_X2_meets l, rfl, rfl, by decide, zTb_in 461 (by decide +kernel) (by decide +kernel), k_X2_meets⟩,
  fun _ h => absurd h List.not_mem_nil⟩⟩) (Or.inr rfl)
theorem k_X2_marksMet : Cond.code yX2_marksMet cX2_marksMet 7 (some .int) ∈ zTb ∧ Cond.initialized yX2_marksMet.cls ∈ zTb ∧ (yX2_marksMet.cls ≠ "java/lang/invoke/MethodHandle" ∧ yX2_marksMet.cls ≠ "java/lang/invoke/VarHandle") ∧ Cond.instanceMethod yX2_marksMet ∈ zTb ∧ Cond.selects yX2_marksMet.cls yX2_marksMet yX2_marksMet ∈ zTb ∧ (∃ (T : u_T) (N : Nat), vwCl[2]? = some (yX2_marksMet.cls, T, N)) ∧ (parseMethodDescriptor yX2_marksMet.desc).map (fun d => d.parameters.length + 1) = some 4 := ⟨zTb_in 459 (by decide +kernel) (by decide +kernel), zTb_in 40 (by decide +kernel) (by decide +kernel), by decide, zTb_in 458 (by decide +kernel) (by decide +kernel), zTb_in 6 (by decide +kernel) (by decide +kernel), ⟨_, _, rfl⟩, by decide +kernel⟩
def zd_X2_marksLeft : List zI := [(0, .iload_n 3, 1), (1, .istore 4, 2), (3, .iconst 0, 1), (4, .istore 5, 2), (6, .iload 5, 2), (8, .bipush 16, 2), (10, .if_icmp .ge 40, 3), (13, .iload 4, 2), (15, .ifCond .eq 35, 3), (18, .iload_n 1, 1), (19, .iload 5, 2), (21, .ishr, 1), (22, .iconst 1, 1), (23, .iand, 1), (24, .iconst 1, 1), (25, .if_icmp .ne 19, 3), (28, .iload 4, 2), (30, .aload_n 0, 1), (31, .iload 5, 2), (33, .iload_n 2, 1), (34, .iload 4, 2), (36, .invokevirtual 51, 3), (39, .iconst (-1), 1), (40, .ixor, 1), (41, .iand, 1), (42, .istore 4, 2), (44, .iinc 5 1, 3), (47, .goto (-41), 3), (50, .iload 4, 2), (52, .ireturn, 1)]
def M_X2_marksLeft : zM := (zd_X2_marksLeft, zfX2, zgX2, znX2, zoX2, [(51, 4, 1, some 2, R_X2_marksMet)], [])
def R_X2_marksLeft : zRel := zR M_X2_marksLeft 6 (some .int)
def rm_X2_marksLeft : Room := { frames := 4, cells := 0, slots := 0, locals := 104 }
theorem dd_X2_marksLeft : ∀ q ∈ zd_X2_marksLeft, decode cX2_marksLeft q.1 = .ok (q.2.1, q.2.2) := by decide +kernel
theorem m_X2_marksLeft (l : Launch) : zMet l yX2_marksLeft cX2_marksLeft 6 (some .int) rm_X2_marksLeft R_X2_marksLeft := z_met (M := M_X2_marksLeft) (plainFor_of_name (by decide)) dd_X2_marksLeft (by decide +kernel) rfl zfX2_ok zgX2_ok znX2_ok zoX2_ok (List.forall_mem_cons.mpr ⟨Or.inl ⟨yX2_marksMet, cX2_marksMet, 7, (some .int), rm_X2_marksMet, m_X2_marksMet l, rfl, rfl, by decide, zTb_in 456 (by decide +kernel) (by decide +kernel), k_X2_marksMet⟩,
  fun _ h => absurd h List.not_mem_nil⟩) (Or.inr rfl)
theorem k_X2_marksLeft : Cond.code yX2_marksLeft cX2_marksLeft 6 (some .int) ∈ zTb ∧ Cond.initialized yX2_marksLeft.cls ∈ zTb ∧ (yX2_marksLeft.cls ≠ "java/lang/invoke/MethodHandle" ∧ yX2_marksLeft.cls ≠ "java/lang/invoke/VarHandle") ∧ Cond.instanceMethod yX2_marksLeft ∈ zTb ∧ Cond.selects yX2_marksLeft.cls yX2_marksLeft yX2_marksLeft ∈ zTb ∧ (∃ (T : u_T) (N : Nat), vwCl[2]? = some (yX2_marksLeft.cls, T, N)) ∧ (parseMethodDescriptor yX2_marksLeft.desc).map (fun d => d.parameters.length + 1) = some 4 := ⟨zTb_in 455 (by decide +kernel) (by decide +kernel), zTb_in 40 (by decide +kernel) (by decide +kernel), by decide, zTb_in 454 (by decide +kernel) (by decide +kernel), zTb_in 5 (by decide +kernel) (by decide +kernel), ⟨_, _, rfl⟩, by decide +kernel⟩
def zd_X2_isExplained : List zI := [(0, .aload_n 0, 1), (1, .iload_n 1, 1), (2, .iload_n 2, 1), (3, .aload_n 0, 1), (4, .invokevirtual 55, 3), (7, .invokevirtual 59, 3), (10, .ifCond .ne 7, 3), (13, .iconst 1, 1), (14, .goto 4, 3), (17, .iconst 0, 1), (18, .ireturn, 1)]
def M_X2_isExplained : zM := (zd_X2_isExplained, zfX2, zgX2, znX2, zoX2, [(55, 1, 1, some 2, R_X2_allMarks), (59, 4, 1, some 2, R_X2_marksLeft)], [])
def R_X2_isExplained : zRel := zR M_X2_isExplained 3 (some .boolean)
def rm_X2_isExplained : Room := { frames := 5, cells := 0, slots := 0, locals := 129 }
theorem dd_X2_isExplained : ∀ q ∈ zd_X2_isExplained, decode cX2_isExplained q.1 = .ok (q.2.1, q.2.2) := by decide +kernel
theorem m_X2_isExplained (l : Launch) : zMet l yX2_isExplained cX2_isExplained 3 (some .boolean) rm_X2_isExplained R_X2_isExplained := z_met (M := M_X2_isExplained) (plainFor_of_name (by decide)) dd_X2_isExplained (by decide +kernel) rfl zfX2_ok zgX2_ok znX2_ok zoX2_ok (List.forall_mem_cons.mpr ⟨Or.inl ⟨yX2_allMarks, cX2_allMarks, 1, (some .int), rm_X2_allMarks, m_X2_allMarks l, rfl, rfl, by decide, zTb_in 448 (by decide +kernel) (by decide +kernel), k_X2_allMarks⟩,
  List.forall_mem_cons.mpr ⟨Or.inl ⟨yX2_marksLeft, cX2_marksLeft, 6, (some .int), rm_X2_marksLeft, m_X2_marksLeft l, rfl, rfl, by decide, zTb_in 452 (by decide +kernel) (by decide +kernel), k_X2_marksLeft⟩,
  fun _ h => absurd h List.not_mem_nil⟩⟩) (Or.inr rfl)
theorem k_X2_isExplained : Cond.code yX2_isExplained cX2_isExplained 3 (some .boolean) ∈ zTb ∧ Cond.initialized yX2_isExplained.cls ∈ zTb ∧ (yX2_isExplained.cls ≠ "java/lang/invoke/MethodHandle" ∧ yX2_isExplained.cls ≠ "java/lang/invoke/VarHandle") ∧ Cond.instanceMethod yX2_isExplained ∈ zTb ∧ Cond.selects yX2_isExplained.cls yX2_isExplained yX2_isExplained ∈ zTb ∧ (∃ (T : u_T) (N : Nat), vwCl[2]? = some (yX2_isExplained.cls, T, N)) ∧ (parseMethodDescriptor yX2_isExplained.desc).map (fun d => d.parameters.length + 1) = some 3 := ⟨zTb_in 447 (by decide +kernel) (by decide +kernel), zTb_in 40 (by decide +kernel) (by decide +kernel), by decide, zTb_in 445 (by decide +kernel) (by decide +kernel), zTb_in 446 (by decide +kernel) (by decide +kernel), ⟨_, _, rfl⟩, by decide +kernel⟩
def zd_X2_marksNeverMet : List zI := [(0, .aload_n 0, 1), (1, .invokevirtual 55, 3), (4, .istore_n 1, 1), (5, .iconst 0, 1), (6, .istore_n 2, 1), (7, .iload_n 2, 1), (8, .sipush 900, 3), (11, .if_icmp .gt 22, 3), (14, .iload_n 1, 1), (15, .ifCond .eq 18, 3), (18, .aload_n 0, 1), (19, .ldc 62, 2), (21, .iload_n 2, 1), (22, .iload_n 1, 1), (23, .invokevirtual 59, 3), (26, .istore_n 1, 1), (27, .iinc 2 50, 3), (30, .goto (-23), 3), (33, .iload_n 1, 1), (34, .ireturn, 1)]
def M_X2_marksNeverMet : zM := (zd_X2_marksNeverMet, zfX2, zgX2, znX2, zoX2, [(55, 1, 1, some 2, R_X2_allMarks), (59, 4, 1, some 2, R_X2_marksLeft)], [])
def R_X2_marksNeverMet : zRel := zR M_X2_marksNeverMet 3 (some .int)
def rm_X2_marksNeverMet : Room := { frames := 5, cells := 0, slots := 0, locals := 129 }
theorem dd_X2_marksNeverMet : ∀ q ∈ zd_X2_marksNeverMet, decode cX2_marksNeverMet q.1 = .ok (q.2.1, q.2.2) := by decide +kernel
theorem m_X2_marksNeverMet (l : Launch) : zMet l yX2_marksNeverMet cX2_marksNeverMet 3 (some .int) rm_X2_marksNeverMet R_X2_marksNeverMet := z_met (M := M_X2_marksNeverMet) (plainFor_of_name (by decide)) dd_X2_marksNeverMet (by decide +kernel) rfl zfX2_ok zgX2_ok znX2_ok zoX2_ok (List.forall_mem_cons.mpr ⟨Or.inl ⟨yX2_allMarks, cX2_allMarks, 1, (some .int), rm_X2_allMarks, m_X2_allMarks l, rfl, rfl, by decide, zTb_in 448 (by decide +kernel) (by decide +kernel), k_X2_allMarks⟩,
  List.forall_mem_cons.mpr ⟨Or.inl ⟨yX2_marksLeft, cX2_marksLeft, 6, (some .int), rm_X2_marksLeft, m_X2_marksLeft l, rfl, rfl, by decide, zTb_in 452 (by decide +kernel) (by decide +kernel), k_X2_marksLeft⟩,
  fun _ h => absurd h List.not_mem_nil⟩⟩) (Or.inr rfl)
theorem k_X2_marksNeverMet : Cond.code yX2_marksNeverMet cX2_marksNeverMet 3 (some .int) ∈ zTb ∧ Cond.initialized yX2_marksNeverMet.cls ∈ zTb ∧ (yX2_marksNeverMet.cls ≠ "java/lang/invoke/MethodHandle" ∧ yX2_marksNeverMet.cls ≠ "java/lang/invoke/VarHandle") ∧ Cond.instanceMethod yX2_marksNeverMet ∈ zTb ∧ Cond.selects yX2_marksNeverMet.cls yX2_marksNeverMet yX2_marksNeverMet ∈ zTb ∧ (∃ (T : u_T) (N : Nat), vwCl[2]? = some (yX2_marksNeverMet.cls, T, N)) ∧ (parseMethodDescriptor yX2_marksNeverMet.desc).map (fun d => d.parameters.length + 1) = some 1 := ⟨zTb_in 506 (by decide +kernel) (by decide +kernel), zTb_in 40 (by decide +kernel) (by decide +kernel), by decide, zTb_in 504 (by decide +kernel) (by decide +kernel), zTb_in 505 (by decide +kernel) (by decide +kernel), ⟨_, _, rfl⟩, by decide +kernel⟩
def zd_X2_unseen : List zI := [(0, .iconst 0, 1), (1, .istore_n 3, 1), (2, .iconst 0, 1), (3, .istore 4, 2), (5, .iload 4, 2), (7, .bipush 16, 2), (9, .if_icmp .ge 70, 3), (12, .iload_n 1, 1), (13, .iload 4, 2), (15, .ishr, 1), (16, .iconst 1, 1), (17, .iand, 1), (18, .iconst 1, 1), (19, .if_icmp .ne 54, 3), (22, .aload_n 0, 1), (23, .getfield 18, 3), (26, .iload 4, 2), (28, .iload_n 2, 1), (29, .invokevirtual 46, 3), (32, .iconst 0, 1), (33, .istore 5, 2), (35, .iload 5, 2), (37, .aload_n 0, 1), (38, .getfield 18, 3), (41, .getfield 26, 3), (44, .getfield 50, 3), (47, .if_icmp .ge 26, 3), (50, .iload_n 3, 1), (51, .aload_n 0, 1), (52, .iload 5, 2), (54, .invokevirtual 63, 3), (57, .ifCond .eq 7, 3), (60, .iconst 0, 1), (61, .goto 4, 3), (64, .iconst 1, 1), (65, .iadd, 1), (66, .istore_n 3, 1), (67, .iinc 5 1, 3), (70, .goto (-35), 3), (73, .iinc 4 1, 3), (76, .goto (-71), 3), (79, .iload_n 3, 1), (80, .ireturn, 1)]
def M_X2_unseen : zM := (zd_X2_unseen, zfX2, zgX2, znX2, zoX2, [(46, 3, 0, some 4, R_X4_lightUp), (63, 2, 1, some 2, R_X2_meetsAny)], [])
def R_X2_unseen : zRel := zR M_X2_unseen 6 (some .int)
def rm_X2_unseen : Room := { frames := 4, cells := 0, slots := 0, locals := 91 }
theorem dd_X2_unseen : ∀ q ∈ zd_X2_unseen, decode cX2_unseen q.1 = .ok (q.2.1, q.2.2) := by decide +kernel
theorem m_X2_unseen (l : Launch) : zMet l yX2_unseen cX2_unseen 6 (some .int) rm_X2_unseen R_X2_unseen := z_met (M := M_X2_unseen) (plainFor_of_name (by decide)) dd_X2_unseen (by decide +kernel) rfl zfX2_ok zgX2_ok znX2_ok zoX2_ok (List.forall_mem_cons.mpr ⟨Or.inl ⟨yX4_lightUp, cX4_lightUp, 8, none, rm_X4_lightUp, m_X4_lightUp l, rfl, rfl, by decide, zTb_in 460 (by decide +kernel) (by decide +kernel), k_X4_lightUp⟩,
  List.forall_mem_cons.mpr ⟨Or.inl ⟨yX2_meetsAny, cX2_meetsAny, 3, (some .boolean), rm_X2_meetsAny, m_X2_meetsAny l, rfl, rfl, by decide, zTb_in 495 (by decide +kernel) (by decide +kernel), k_X2_meetsAny⟩,
  fun _ h => absurd h List.not_mem_nil⟩⟩) (Or.inr rfl)
theorem k_X2_unseen : Cond.code yX2_unseen cX2_unseen 6 (some .int) ∈ zTb ∧ Cond.initialized yX2_unseen.cls ∈ zTb ∧ (yX2_unseen.cls ≠ "java/lang/invoke/MethodHandle" ∧ yX2_unseen.cls ≠ "java/lang/invoke/VarHandle") ∧ Cond.instanceMethod yX2_unseen ∈ zTb ∧ Cond.selects yX2_unseen.cls yX2_unseen yX2_unseen ∈ zTb ∧ (∃ (T : u_T) (N : Nat), vwCl[2]? = some (yX2_unseen.cls, T, N)) ∧ (parseMethodDescriptor yX2_unseen.desc).map (fun d => d.parameters.length + 1) = some 3 := ⟨zTb_in 494 (by decide +kernel) (by decide +kernel), zTb_in 40 (by decide +kernel) (by decide +kernel), by decide, zTb_in 492 (by decide +kernel) (by decide +kernel), zTb_in 493 (by decide +kernel) (by decide +kernel), ⟨_, _, rfl⟩, by decide +kernel⟩
def zd_J9_min_7cf53 : List zI := [(0, .iload_n 0, 1), (1, .iload_n 1, 1), (2, .if_icmp .gt 7, 3), (5, .iload_n 0, 1), (6, .goto 4, 3), (9, .iload_n 1, 1), (10, .ireturn, 1)]
def M_J9_min_7cf53 : zM := (zd_J9_min_7cf53, zfJ9, zgJ9, znJ9, zoJ9, [], [])
def R_J9_min_7cf53 : zRel := zR M_J9_min_7cf53 2 (some .int)
def rm_J9_min_7cf53 : Room := { frames := 0, cells := 0, slots := 0, locals := 0 }
theorem dd_J9_min_7cf53 : ∀ q ∈ zd_J9_min_7cf53, decode cJ9_min_7cf53 q.1 = .ok (q.2.1, q.2.2) := by decide +kernel
theorem m_J9_min_7cf53 (l : Launch) : zMet l yJ9_min_7cf53 cJ9_min_7cf53 2 (some .int) rm_J9_min_7cf53 R_J9_min_7cf53 := z_met (M := M_J9_min_7cf53) (by decide +kernel) dd_J9_min_7cf53 (by decide +kernel) rfl zfJ9_ok zgJ9_ok znJ9_ok zoJ9_ok (fun _ h => absurd h List.not_mem_nil) (Or.inr rfl)
theorem k_J9_min_7cf53 : Cond.code yJ9_min_7cf53 cJ9_min_7cf53 2 (some .int) ∈ zTb ∧ Cond.initialized yJ9_min_7cf53.cls ∈ zTb ∧ (yJ9_min_7cf53.cls ≠ "java/lang/invoke/MethodHandle" ∧ yJ9_min_7cf53.cls ≠ "java/lang/invoke/VarHandle") ∧ Cond.static yJ9_min_7cf53 ∈ zTb ∧ (parseMethodDescriptor yJ9_min_7cf53.desc).map (fun d => d.parameters.length) = some 2 := ⟨zTb_in 351 (by decide +kernel) (by decide +kernel), zTb_in 45 (by decide +kernel) (by decide +kernel), by decide, zTb_in 350 (by decide +kernel) (by decide +kernel), by decide +kernel⟩
def zd_X2_coverWith : List zI := [(0, .ldc 72, 2), (2, .iconst 1, 1), (3, .iload_n 1, 1), (4, .ishl, 1), (5, .iadd, 1), (6, .istore 4, 2), (8, .iload_n 3, 1), (9, .istore 5, 2), (11, .iload 5, 2), (13, .ifCond .lt 52, 3), (16, .aload_n 0, 1), (17, .getfield 15, 3), (20, .iload 5, 2), (22, .iaload, 1), (23, .ldc 67, 2), (25, .if_icmp .eq 34, 3), (28, .aload_n 0, 1), (29, .getfield 15, 3), (32, .iload 5, 2), (34, .iload_n 2, 1), (35, .ior, 1), (36, .aload_n 0, 1), (37, .getfield 15, 3), (40, .iload 5, 2), (42, .iload_n 2, 1), (43, .ior, 1), (44, .iaload, 1), (45, .aload_n 0, 1), (46, .getfield 15, 3), (49, .iload 5, 2), (51, .iaload, 1), (52, .iload 4, 2), (54, .iadd, 1), (55, .invokestatic 73, 3), (58, .iastore, 1), (59, .iinc 5 (-1), 3), (62, .goto (-51), 3), (65, .return_, 1)]
def M_X2_coverWith : zM := (zd_X2_coverWith, zfX2, zgX2, znX2, zoX2, [(73, 2, 1, none, R_J9_min_7cf53)], [])
def R_X2_coverWith : zRel := zR M_X2_coverWith 6 none
def rm_X2_coverWith : Room := { frames := 1, cells := 0, slots := 0, locals := 21 }
theorem dd_X2_coverWith : ∀ q ∈ zd_X2_coverWith, decode cX2_coverWith q.1 = .ok (q.2.1, q.2.2) := by decide +kernel
theorem m_X2_coverWith (l : Launch) : zMet l yX2_coverWith cX2_coverWith 6 none rm_X2_coverWith R_X2_coverWith := z_met (M := M_X2_coverWith) (plainFor_of_name (by decide)) dd_X2_coverWith (by decide +kernel) rfl zfX2_ok zgX2_ok znX2_ok zoX2_ok (List.forall_mem_cons.mpr ⟨Or.inl ⟨yJ9_min_7cf53, cJ9_min_7cf53, 2, (some .int), rm_J9_min_7cf53, m_J9_min_7cf53 l, rfl, rfl, by decide, zTb_in 485 (by decide +kernel) (by decide +kernel), k_J9_min_7cf53⟩,
  fun _ h => absurd h List.not_mem_nil⟩) (Or.inr rfl)
theorem k_X2_coverWith : Cond.code yX2_coverWith cX2_coverWith 6 none ∈ zTb ∧ Cond.initialized yX2_coverWith.cls ∈ zTb ∧ (yX2_coverWith.cls ≠ "java/lang/invoke/MethodHandle" ∧ yX2_coverWith.cls ≠ "java/lang/invoke/VarHandle") ∧ Cond.instanceMethod yX2_coverWith ∈ zTb ∧ Cond.selects yX2_coverWith.cls yX2_coverWith yX2_coverWith ∈ zTb ∧ (∃ (T : u_T) (N : Nat), vwCl[2]? = some (yX2_coverWith.cls, T, N)) ∧ (parseMethodDescriptor yX2_coverWith.desc).map (fun d => d.parameters.length + 1) = some 4 := ⟨zTb_in 483 (by decide +kernel) (by decide +kernel), zTb_in 40 (by decide +kernel) (by decide +kernel), by decide, zTb_in 482 (by decide +kernel) (by decide +kernel), zTb_in 8 (by decide +kernel) (by decide +kernel), ⟨_, _, rfl⟩, by decide +kernel⟩
def zd_X2_leastCover : List zI := [(0, .aload_n 0, 1), (1, .invokevirtual 55, 3), (4, .istore_n 2, 1), (5, .iconst 0, 1), (6, .istore_n 3, 1), (7, .iload_n 3, 1), (8, .iload_n 2, 1), (9, .if_icmp .gt 25, 3), (12, .aload_n 0, 1), (13, .getfield 15, 3), (16, .iload_n 3, 1), (17, .iload_n 3, 1), (18, .ifCond .ne 7, 3), (21, .iconst 0, 1), (22, .goto 5, 3), (25, .ldc 67, 2), (27, .iastore, 1), (28, .iinc 3 1, 3), (31, .goto (-24), 3), (34, .iconst 0, 1), (35, .istore_n 3, 1), (36, .iload_n 3, 1), (37, .bipush 16, 2), (39, .if_icmp .ge 31, 3), (42, .aload_n 0, 1), (43, .iload_n 3, 1), (44, .iload_n 1, 1), (45, .iload_n 2, 1), (46, .invokevirtual 51, 3), (49, .istore 4, 2), (51, .iload 4, 2), (53, .ifCond .eq 11, 3), (56, .aload_n 0, 1), (57, .iload_n 3, 1), (58, .iload 4, 2), (60, .iload_n 2, 1), (61, .invokevirtual 68, 3), (64, .iinc 3 1, 3), (67, .goto (-31), 3), (70, .aload_n 0, 1), (71, .getfield 15, 3), (74, .iload_n 2, 1), (75, .iaload, 1), (76, .ldc 67, 2), (78, .if_icmp .ne 8, 3), (81, .bipush (-4), 2), (83, .goto 12, 3), (86, .aload_n 0, 1), (87, .getfield 15, 3), (90, .iload_n 2, 1), (91, .iaload, 1), (92, .ldc 62, 2), (94, .iand, 1), (95, .ireturn, 1)]
def M_X2_leastCover : zM := (zd_X2_leastCover, zfX2, zgX2, znX2, zoX2, [(55, 1, 1, some 2, R_X2_allMarks), (51, 4, 1, some 2, R_X2_marksMet), (68, 4, 0, some 2, R_X2_coverWith)], [])
def R_X2_leastCover : zRel := zR M_X2_leastCover 5 (some .int)
def rm_X2_leastCover : Room := { frames := 4, cells := 0, slots := 0, locals := 104 }
theorem dd_X2_leastCover : ∀ q ∈ zd_X2_leastCover, decode cX2_leastCover q.1 = .ok (q.2.1, q.2.2) := by decide +kernel
theorem m_X2_leastCover (l : Launch) : zMet l yX2_leastCover cX2_leastCover 5 (some .int) rm_X2_leastCover R_X2_leastCover := z_met (M := M_X2_leastCover) (plainFor_of_name (by decide)) dd_X2_leastCover (by decide +kernel) rfl zfX2_ok zgX2_ok znX2_ok zoX2_ok (List.forall_mem_cons.mpr ⟨Or.inl ⟨yX2_allMarks, cX2_allMarks, 1, (some .int), rm_X2_allMarks, m_X2_allMarks l, rfl, rfl, by decide, zTb_in 448 (by decide +kernel) (by decide +kernel), k_X2_allMarks⟩,
  List.forall_mem_cons.mpr ⟨Or.inl ⟨yX2_marksMet, cX2_marksMet, 7, (some .int), rm_X2_marksMet, m_X2_marksMet l, rfl, rfl, by decide, zTb_in 456 (by decide +kernel) (by decide +kernel), k_X2_marksMet⟩,
  List.forall_mem_cons.mpr ⟨Or.inl ⟨yX2_coverWith, cX2_coverWith, 6, none, rm_X2_coverWith, m_X2_coverWith l, rfl, rfl, by decide, zTb_in 480 (by decide +kernel) (by decide +kernel), k_X2_coverWith⟩,
  fun _ h => absurd h List.not_mem_nil⟩⟩⟩) (Or.inr rfl)
theorem k_X2_leastCover : Cond.code yX2_leastCover cX2_leastCover 5 (some .int) ∈ zTb ∧ Cond.initialized yX2_leastCover.cls ∈ zTb ∧ (yX2_leastCover.cls ≠ "java/lang/invoke/MethodHandle" ∧ yX2_leastCover.cls ≠ "java/lang/invoke/VarHandle") ∧ Cond.instanceMethod yX2_leastCover ∈ zTb ∧ Cond.selects yX2_leastCover.cls yX2_leastCover yX2_leastCover ∈ zTb ∧ (∃ (T : u_T) (N : Nat), vwCl[2]? = some (yX2_leastCover.cls, T, N)) ∧ (parseMethodDescriptor yX2_leastCover.desc).map (fun d => d.parameters.length + 1) = some 2 := ⟨zTb_in 478 (by decide +kernel) (by decide +kernel), zTb_in 40 (by decide +kernel) (by decide +kernel), by decide, zTb_in 476 (by decide +kernel) (by decide +kernel), zTb_in 477 (by decide +kernel) (by decide +kernel), ⟨_, _, rfl⟩, by decide +kernel⟩
def zd_X3_turnOf : List zI := [(0, .aload_n 0, 1), (1, .getfield 18, 3), (4, .iconst 0, 1), (5, .iload_n 2, 1), (6, .iload_n 3, 1), (7, .invokevirtual 22, 3), (10, .istore 4, 2), (12, .iconst 2, 1), (13, .iload_n 3, 1), (14, .imul, 1), (15, .iconst 2, 1), (16, .iload 4, 2), (18, .imul, 1), (19, .isub, 1), (20, .iload_n 1, 1), (21, .sipush 1800, 3), (24, .iconst 2, 1), (25, .iload 4, 2), (27, .imul, 1), (28, .isub, 1), (29, .aload_n 0, 1), (30, .getfield 18, 3), (33, .getfield 28, 3), (36, .iconst 1, 1), (37, .iaload, 1), (38, .iadd, 1), (39, .imul, 1), (40, .iadd, 1), (41, .ireturn, 1)]
def M_X3_turnOf : zM := (zd_X3_turnOf, zfX3, zgX3, znX3, zoX3, [(22, 4, 1, some 6, R_X6_bent)], [])
def R_X3_turnOf : zRel := zR M_X3_turnOf 5 (some .int)
def rm_X3_turnOf : Room := { frames := 1, cells := 0, slots := 0, locals := 25 }
theorem dd_X3_turnOf : ∀ q ∈ zd_X3_turnOf, decode cX3_turnOf q.1 = .ok (q.2.1, q.2.2) := by decide +kernel
theorem m_X3_turnOf (l : Launch) : zMet l yX3_turnOf cX3_turnOf 5 (some .int) rm_X3_turnOf R_X3_turnOf := z_met (M := M_X3_turnOf) (plainFor_of_name (by decide)) dd_X3_turnOf (by decide +kernel) rfl zfX3_ok zgX3_ok znX3_ok zoX3_ok (List.forall_mem_cons.mpr ⟨Or.inl ⟨yX6_bent, cX6_bent, 6, (some .int), rm_X6_bent, m_X6_bent l, rfl, rfl, by decide, zTb_in 289 (by decide +kernel) (by decide +kernel), k_X6_bent⟩,
  fun _ h => absurd h List.not_mem_nil⟩) (Or.inr rfl)
theorem k_X3_turnOf : Cond.code yX3_turnOf cX3_turnOf 5 (some .int) ∈ zTb ∧ Cond.initialized yX3_turnOf.cls ∈ zTb ∧ (yX3_turnOf.cls ≠ "java/lang/invoke/MethodHandle" ∧ yX3_turnOf.cls ≠ "java/lang/invoke/VarHandle") ∧ Cond.instanceMethod yX3_turnOf ∈ zTb ∧ Cond.selects yX3_turnOf.cls yX3_turnOf yX3_turnOf ∈ zTb ∧ (∃ (T : u_T) (N : Nat), vwCl[3]? = some (yX3_turnOf.cls, T, N)) ∧ (parseMethodDescriptor yX3_turnOf.desc).map (fun d => d.parameters.length + 1) = some 4 := ⟨zTb_in 288 (by decide +kernel) (by decide +kernel), zTb_in 37 (by decide +kernel) (by decide +kernel), by decide, zTb_in 286 (by decide +kernel) (by decide +kernel), zTb_in 287 (by decide +kernel) (by decide +kernel), ⟨_, _, rfl⟩, by decide +kernel⟩
def zd_J9_floorMod_7cf53 : List zI := [(0, .iload_n 0, 1), (1, .iload_n 1, 1), (2, .irem, 1), (3, .istore_n 2, 1), (4, .iload_n 0, 1), (5, .iload_n 1, 1), (6, .ixor, 1), (7, .ifCond .ge 11, 3), (10, .iload_n 2, 1), (11, .ifCond .eq 7, 3), (14, .iload_n 2, 1), (15, .iload_n 1, 1), (16, .iadd, 1), (17, .ireturn, 1), (18, .iload_n 2, 1), (19, .ireturn, 1)]
def M_J9_floorMod_7cf53 : zM := (zd_J9_floorMod_7cf53, zfJ9, zgJ9, znJ9, zoJ9, [], [])
def R_J9_floorMod_7cf53 : zRel := zR M_J9_floorMod_7cf53 3 (some .int)
def rm_J9_floorMod_7cf53 : Room := { frames := 0, cells := 0, slots := 0, locals := 0 }
theorem dd_J9_floorMod_7cf53 : ∀ q ∈ zd_J9_floorMod_7cf53, decode cJ9_floorMod_7cf53 q.1 = .ok (q.2.1, q.2.2) := by decide +kernel
theorem m_J9_floorMod_7cf53 (l : Launch) : zMet l yJ9_floorMod_7cf53 cJ9_floorMod_7cf53 3 (some .int) rm_J9_floorMod_7cf53 R_J9_floorMod_7cf53 := z_met (M := M_J9_floorMod_7cf53) (by decide +kernel) dd_J9_floorMod_7cf53 (by decide +kernel) rfl zfJ9_ok zgJ9_ok znJ9_ok zoJ9_ok (fun _ h => absurd h List.not_mem_nil) (Or.inr rfl)
theorem k_J9_floorMod_7cf53 : Cond.code yJ9_floorMod_7cf53 cJ9_floorMod_7cf53 3 (some .int) ∈ zTb ∧ Cond.initialized yJ9_floorMod_7cf53.cls ∈ zTb ∧ (yJ9_floorMod_7cf53.cls ≠ "java/lang/invoke/MethodHandle" ∧ yJ9_floorMod_7cf53.cls ≠ "java/lang/invoke/VarHandle") ∧ Cond.static yJ9_floorMod_7cf53 ∈ zTb ∧ (parseMethodDescriptor yJ9_floorMod_7cf53.desc).map (fun d => d.parameters.length) = some 2 := ⟨zTb_in 297 (by decide +kernel) (by decide +kernel), zTb_in 45 (by decide +kernel) (by decide +kernel), by decide, zTb_in 296 (by decide +kernel) (by decide +kernel), by decide +kernel⟩
def zd_X3_fromSun : List zI := [(0, .aload_n 0, 1), (1, .iload_n 1, 1), (2, .iload_n 2, 1), (3, .iload_n 3, 1), (4, .invokevirtual 32, 3), (7, .sipush 3600, 3), (10, .invokestatic 35, 3), (13, .istore 4, 2), (15, .iload 4, 2), (17, .sipush 1800, 3), (20, .if_icmp .le 12, 3), (23, .sipush 3600, 3), (26, .iload 4, 2), (28, .isub, 1), (29, .goto 5, 3), (32, .iload 4, 2), (34, .ireturn, 1)]
def M_X3_fromSun : zM := (zd_X3_fromSun, zfX3, zgX3, znX3, zoX3, [(32, 4, 1, some 3, R_X3_turnOf), (35, 2, 1, none, R_J9_floorMod_7cf53)], [])
def R_X3_fromSun : zRel := zR M_X3_fromSun 5 (some .int)
def rm_X3_fromSun : Room := { frames := 2, cells := 0, slots := 0, locals := 49 }
theorem dd_X3_fromSun : ∀ q ∈ zd_X3_fromSun, decode cX3_fromSun q.1 = .ok (q.2.1, q.2.2) := by decide +kernel
theorem m_X3_fromSun (l : Launch) : zMet l yX3_fromSun cX3_fromSun 5 (some .int) rm_X3_fromSun R_X3_fromSun := z_met (M := M_X3_fromSun) (plainFor_of_name (by decide)) dd_X3_fromSun (by decide +kernel) rfl zfX3_ok zgX3_ok znX3_ok zoX3_ok (List.forall_mem_cons.mpr ⟨Or.inl ⟨yX3_turnOf, cX3_turnOf, 5, (some .int), rm_X3_turnOf, m_X3_turnOf l, rfl, rfl, by decide, zTb_in 294 (by decide +kernel) (by decide +kernel), k_X3_turnOf⟩,
  List.forall_mem_cons.mpr ⟨Or.inl ⟨yJ9_floorMod_7cf53, cJ9_floorMod_7cf53, 3, (some .int), rm_J9_floorMod_7cf53, m_J9_floorMod_7cf53 l, rfl, rfl, by decide, zTb_in 295 (by decide +kernel) (by decide +kernel), k_J9_floorMod_7cf53⟩,
  fun _ h => absurd h List.not_mem_nil⟩⟩) (Or.inr rfl)
theorem k_X3_fromSun : Cond.code yX3_fromSun cX3_fromSun 5 (some .int) ∈ zTb ∧ Cond.initialized yX3_fromSun.cls ∈ zTb ∧ (yX3_fromSun.cls ≠ "java/lang/invoke/MethodHandle" ∧ yX3_fromSun.cls ≠ "java/lang/invoke/VarHandle") ∧ Cond.instanceMethod yX3_fromSun ∈ zTb ∧ Cond.selects yX3_fromSun.cls yX3_fromSun yX3_fromSun ∈ zTb ∧ (∃ (T : u_T) (N : Nat), vwCl[3]? = some (yX3_fromSun.cls, T, N)) ∧ (parseMethodDescriptor yX3_fromSun.desc).map (fun d => d.parameters.length + 1) = some 4 := ⟨zTb_in 293 (by decide +kernel) (by decide +kernel), zTb_in 37 (by decide +kernel) (by decide +kernel), by decide, zTb_in 291 (by decide +kernel) (by decide +kernel), zTb_in 292 (by decide +kernel) (by decide +kernel), ⟨_, _, rfl⟩, by decide +kernel⟩
def zd_X3_lightIn : List zI := [(0, .iload_n 1, 1), (1, .sipush 900, 3), (4, .iload_n 1, 1), (5, .isub, 1), (6, .imul, 1), (7, .ireturn, 1)]
def M_X3_lightIn : zM := (zd_X3_lightIn, zfX3, zgX3, znX3, zoX3, [], [])
def R_X3_lightIn : zRel := zR M_X3_lightIn 2 (some .int)
def rm_X3_lightIn : Room := { frames := 0, cells := 0, slots := 0, locals := 0 }
theorem dd_X3_lightIn : ∀ q ∈ zd_X3_lightIn, decode cX3_lightIn q.1 = .ok (q.2.1, q.2.2) := by decide +kernel
theorem m_X3_lightIn (l : Launch) : zMet l yX3_lightIn cX3_lightIn 2 (some .int) rm_X3_lightIn R_X3_lightIn := z_met (M := M_X3_lightIn) (plainFor_of_name (by decide)) dd_X3_lightIn (by decide +kernel) rfl zfX3_ok zgX3_ok znX3_ok zoX3_ok (fun _ h => absurd h List.not_mem_nil) (Or.inr rfl)
theorem k_X3_lightIn : Cond.code yX3_lightIn cX3_lightIn 2 (some .int) ∈ zTb ∧ Cond.initialized yX3_lightIn.cls ∈ zTb ∧ (yX3_lightIn.cls ≠ "java/lang/invoke/MethodHandle" ∧ yX3_lightIn.cls ≠ "java/lang/invoke/VarHandle") ∧ Cond.instanceMethod yX3_lightIn ∈ zTb ∧ Cond.selects yX3_lightIn.cls yX3_lightIn yX3_lightIn ∈ zTb ∧ (∃ (T : u_T) (N : Nat), vwCl[3]? = some (yX3_lightIn.cls, T, N)) ∧ (parseMethodDescriptor yX3_lightIn.desc).map (fun d => d.parameters.length + 1) = some 2 := ⟨zTb_in 301 (by decide +kernel) (by decide +kernel), zTb_in 37 (by decide +kernel) (by decide +kernel), by decide, zTb_in 299 (by decide +kernel) (by decide +kernel), zTb_in 300 (by decide +kernel) (by decide +kernel), ⟨_, _, rfl⟩, by decide +kernel⟩
end
section
def zd_X3_thrownBack : List zI := [(0, .iload_n 1, 1), (1, .aload_n 0, 1), (2, .getfield 18, 3), (5, .getfield 28, 3), (8, .iconst 2, 1), (9, .iaload, 1), (10, .imul, 1), (11, .bipush 100, 2), (13, .idiv, 1), (14, .ireturn, 1)]
def M_X3_thrownBack : zM := (zd_X3_thrownBack, zfX3, zgX3, znX3, zoX3, [], [])
def R_X3_thrownBack : zRel := zR M_X3_thrownBack 2 (some .int)
def rm_X3_thrownBack : Room := { frames := 0, cells := 0, slots := 0, locals := 0 }
theorem dd_X3_thrownBack : ∀ q ∈ zd_X3_thrownBack, decode cX3_thrownBack q.1 = .ok (q.2.1, q.2.2) := by decide +kernel
theorem m_X3_thrownBack (l : Launch) : zMet l yX3_thrownBack cX3_thrownBack 2 (some .int) rm_X3_thrownBack R_X3_thrownBack := z_met (M := M_X3_thrownBack) (plainFor_of_name (by decide)) dd_X3_thrownBack (by decide +kernel) rfl zfX3_ok zgX3_ok znX3_ok zoX3_ok (fun _ h => absurd h List.not_mem_nil) (Or.inr rfl)
theorem k_X3_thrownBack : Cond.code yX3_thrownBack cX3_thrownBack 2 (some .int) ∈ zTb ∧ Cond.initialized yX3_thrownBack.cls ∈ zTb ∧ (yX3_thrownBack.cls ≠ "java/lang/invoke/MethodHandle" ∧ yX3_thrownBack.cls ≠ "java/lang/invoke/VarHandle") ∧ Cond.instanceMethod yX3_thrownBack ∈ zTb ∧ Cond.selects yX3_thrownBack.cls yX3_thrownBack yX3_thrownBack ∈ zTb ∧ (∃ (T : u_T) (N : Nat), vwCl[3]? = some (yX3_thrownBack.cls, T, N)) ∧ (parseMethodDescriptor yX3_thrownBack.desc).map (fun d => d.parameters.length + 1) = some 2 := ⟨zTb_in 310 (by decide +kernel) (by decide +kernel), zTb_in 37 (by decide +kernel) (by decide +kernel), by decide, zTb_in 309 (by decide +kernel) (by decide +kernel), zTb_in 0 (by decide +kernel) (by decide +kernel), ⟨_, _, rfl⟩, by decide +kernel⟩
def zd_X3_lightOut : List zI := [(0, .aload_n 0, 1), (1, .iload_n 2, 1), (2, .invokevirtual 41, 3), (5, .istore_n 3, 1), (6, .iload_n 3, 1), (7, .aload_n 0, 1), (8, .iload_n 3, 1), (9, .invokevirtual 45, 3), (12, .isub, 1), (13, .istore_n 3, 1), (14, .iconst 0, 1), (15, .istore 4, 2), (17, .iload 4, 2), (19, .iload_n 1, 1), (20, .if_icmp .ge 15, 3), (23, .aload_n 0, 1), (24, .iload_n 3, 1), (25, .invokevirtual 45, 3), (28, .istore_n 3, 1), (29, .iinc 4 1, 3), (32, .goto (-15), 3), (35, .iload_n 3, 1), (36, .aload_n 0, 1), (37, .iload_n 3, 1), (38, .invokevirtual 45, 3), (41, .isub, 1), (42, .ireturn, 1)]
def M_X3_lightOut : zM := (zd_X3_lightOut, zfX3, zgX3, znX3, zoX3, [(41, 2, 1, some 3, R_X3_lightIn), (45, 2, 1, some 3, R_X3_thrownBack)], [])
def R_X3_lightOut : zRel := zR M_X3_lightOut 5 (some .int)
def rm_X3_lightOut : Room := { frames := 1, cells := 0, slots := 0, locals := 21 }
theorem dd_X3_lightOut : ∀ q ∈ zd_X3_lightOut, decode cX3_lightOut q.1 = .ok (q.2.1, q.2.2) := by decide +kernel
theorem m_X3_lightOut (l : Launch) : zMet l yX3_lightOut cX3_lightOut 5 (some .int) rm_X3_lightOut R_X3_lightOut := z_met (M := M_X3_lightOut) (plainFor_of_name (by decide)) dd_X3_lightOut (by decide +kernel) rfl zfX3_ok zgX3_ok znX3_ok zoX3_ok (List.forall_mem_cons.mpr ⟨Or.inl ⟨yX3_lightIn, cX3_lightIn, 2, (some .int), rm_X3_lightIn, m_X3_lightIn l, rfl, rfl, by decide, zTb_in 306 (by decide +kernel) (by decide +kernel), k_X3_lightIn⟩,
  List.forall_mem_cons.mpr ⟨Or.inl ⟨yX3_thrownBack, cX3_thrownBack, 2, (some .int), rm_X3_thrownBack, m_X3_thrownBack l, rfl, rfl, by decide, zTb_in 307 (by decide +kernel) (by decide +kernel), k_X3_thrownBack⟩,
  fun _ h => absurd h List.not_mem_nil⟩⟩) (Or.inr rfl)
theorem k_X3_lightOut : Cond.code yX3_lightOut cX3_lightOut 5 (some .int) ∈ zTb ∧ Cond.initialized yX3_lightOut.cls ∈ zTb ∧ (yX3_lightOut.cls ≠ "java/lang/invoke/MethodHandle" ∧ yX3_lightOut.cls ≠ "java/lang/invoke/VarHandle") ∧ Cond.instanceMethod yX3_lightOut ∈ zTb ∧ Cond.selects yX3_lightOut.cls yX3_lightOut yX3_lightOut ∈ zTb ∧ (∃ (T : u_T) (N : Nat), vwCl[3]? = some (yX3_lightOut.cls, T, N)) ∧ (parseMethodDescriptor yX3_lightOut.desc).map (fun d => d.parameters.length + 1) = some 3 := ⟨zTb_in 305 (by decide +kernel) (by decide +kernel), zTb_in 37 (by decide +kernel) (by decide +kernel), by decide, zTb_in 303 (by decide +kernel) (by decide +kernel), zTb_in 304 (by decide +kernel) (by decide +kernel), ⟨_, _, rfl⟩, by decide +kernel⟩
def zd_J7_fill_d0a16 : List zI := [(0, .iconst 0, 1), (1, .istore_n 3, 1), (2, .aload_n 0, 1), (3, .arraylength, 1), (4, .istore 4, 2), (6, .iload_n 3, 1), (7, .iload 4, 2), (9, .if_icmp .ge 13, 3), (12, .aload_n 0, 1), (13, .iload_n 3, 1), (14, .lload_n 1, 1), (15, .lastore, 1), (16, .iinc 3 1, 3), (19, .goto (-13), 3), (22, .return_, 1)]
def M_J7_fill_d0a16 : zM := (zd_J7_fill_d0a16, zfJ7, zgJ7, znJ7, zoJ7, [], [])
def R_J7_fill_d0a16 : zRel := zR M_J7_fill_d0a16 5 none
def rm_J7_fill_d0a16 : Room := { frames := 0, cells := 0, slots := 0, locals := 0 }
theorem dd_J7_fill_d0a16 : ∀ q ∈ zd_J7_fill_d0a16, decode cJ7_fill_d0a16 q.1 = .ok (q.2.1, q.2.2) := by decide +kernel
theorem m_J7_fill_d0a16 (l : Launch) : zMet l yJ7_fill_d0a16 cJ7_fill_d0a16 5 none rm_J7_fill_d0a16 R_J7_fill_d0a16 := z_met (M := M_J7_fill_d0a16) (by decide +kernel) dd_J7_fill_d0a16 (by decide +kernel) rfl zfJ7_ok zgJ7_ok znJ7_ok zoJ7_ok (fun _ h => absurd h List.not_mem_nil) (Or.inr rfl)
theorem k_J7_fill_d0a16 : Cond.code yJ7_fill_d0a16 cJ7_fill_d0a16 5 none ∈ zTb ∧ Cond.initialized yJ7_fill_d0a16.cls ∈ zTb ∧ (yJ7_fill_d0a16.cls ≠ "java/lang/invoke/MethodHandle" ∧ yJ7_fill_d0a16.cls ≠ "java/lang/invoke/VarHandle") ∧ Cond.static yJ7_fill_d0a16 ∈ zTb ∧ (parseMethodDescriptor yJ7_fill_d0a16.desc).map (fun d => d.parameters.length) = some 2 := ⟨zTb_in 322 (by decide +kernel) (by decide +kernel), zTb_in 42 (by decide +kernel) (by decide +kernel), by decide, zTb_in 321 (by decide +kernel) (by decide +kernel), by decide +kernel⟩
def zd_X3_fillSky : List zI := [(0, .aload_n 1, 1), (1, .lconst 0, 1), (2, .invokestatic 48, 3), (5, .iconst 0, 1), (6, .istore 4, 2), (8, .iload 4, 2), (10, .sipush 900, 3), (13, .if_icmp .gt 33, 3), (16, .aload_n 1, 1), (17, .aload_n 0, 1), (18, .iload_n 2, 1), (19, .iload_n 3, 1), (20, .iload 4, 2), (22, .invokevirtual 54, 3), (25, .bipush 10, 2), (27, .idiv, 1), (28, .dup2, 1), (29, .laload, 1), (30, .aload_n 0, 1), (31, .iload_n 2, 1), (32, .iload 4, 2), (34, .invokevirtual 57, 3), (37, .i2l, 1), (38, .ladd, 1), (39, .lastore, 1), (40, .iinc 4 5, 3), (43, .goto (-35), 3), (46, .return_, 1)]
def M_X3_fillSky : zM := (zd_X3_fillSky, zfX3, zgX3, znX3, zoX3, [(48, 2, 0, none, R_J7_fill_d0a16), (54, 4, 1, some 3, R_X3_fromSun), (57, 3, 1, some 3, R_X3_lightOut)], [])
def R_X3_fillSky : zRel := zR M_X3_fillSky 5 none
def rm_X3_fillSky : Room := { frames := 3, cells := 0, slots := 0, locals := 73 }
theorem dd_X3_fillSky : ∀ q ∈ zd_X3_fillSky, decode cX3_fillSky q.1 = .ok (q.2.1, q.2.2) := by decide +kernel
theorem m_X3_fillSky (l : Launch) : zMet l yX3_fillSky cX3_fillSky 5 none rm_X3_fillSky R_X3_fillSky := z_met (M := M_X3_fillSky) (plainFor_of_name (by decide)) dd_X3_fillSky (by decide +kernel) rfl zfX3_ok zgX3_ok znX3_ok zoX3_ok (List.forall_mem_cons.mpr ⟨Or.inl ⟨yJ7_fill_d0a16, cJ7_fill_d0a16, 5, none, rm_J7_fill_d0a16, m_J7_fill_d0a16 l, rfl, rfl, by decide, zTb_in 320 (by decide +kernel) (by decide +kernel), k_J7_fill_d0a16⟩,
  List.forall_mem_cons.mpr ⟨Or.inl ⟨yX3_fromSun, cX3_fromSun, 5, (some .int), rm_X3_fromSun, m_X3_fromSun l, rfl, rfl, by decide, zTb_in 323 (by decide +kernel) (by decide +kernel), k_X3_fromSun⟩,
  List.forall_mem_cons.mpr ⟨Or.inl ⟨yX3_lightOut, cX3_lightOut, 5, (some .int), rm_X3_lightOut, m_X3_lightOut l, rfl, rfl, by decide, zTb_in 324 (by decide +kernel) (by decide +kernel), k_X3_lightOut⟩,
  fun _ h => absurd h List.not_mem_nil⟩⟩⟩) (Or.inr rfl)
theorem k_X3_fillSky : Cond.code yX3_fillSky cX3_fillSky 5 none ∈ zTb ∧ Cond.initialized yX3_fillSky.cls ∈ zTb ∧ (yX3_fillSky.cls ≠ "java/lang/invoke/MethodHandle" ∧ yX3_fillSky.cls ≠ "java/lang/invoke/VarHandle") ∧ Cond.instanceMethod yX3_fillSky ∈ zTb ∧ Cond.selects yX3_fillSky.cls yX3_fillSky yX3_fillSky ∈ zTb ∧ (∃ (T : u_T) (N : Nat), vwCl[3]? = some (yX3_fillSky.cls, T, N)) ∧ (parseMethodDescriptor yX3_fillSky.desc).map (fun d => d.parameters.length + 1) = some 4 := ⟨zTb_in 319 (by decide +kernel) (by decide +kernel), zTb_in 37 (by decide +kernel) (by decide +kernel), by decide, zTb_in 317 (by decide +kernel) (by decide +kernel), zTb_in 318 (by decide +kernel) (by decide +kernel), ⟨_, _, rfl⟩, by decide +kernel⟩
def zd_X3_brightest : List zI := [(0, .iconst 0, 1), (1, .istore_n 2, 1), (2, .iconst 1, 1), (3, .istore_n 3, 1), (4, .iload_n 3, 1), (5, .sipush 181, 3), (8, .if_icmp .ge 21, 3), (11, .aload_n 1, 1), (12, .iload_n 3, 1), (13, .laload, 1), (14, .aload_n 1, 1), (15, .iload_n 2, 1), (16, .laload, 1), (17, .lcmp, 1), (18, .ifCond .le 5, 3), (21, .iload_n 3, 1), (22, .istore_n 2, 1), (23, .iinc 3 1, 3), (26, .goto (-22), 3), (29, .aload_n 1, 1), (30, .iload_n 2, 1), (31, .laload, 1), (32, .lconst 0, 1), (33, .lcmp, 1), (34, .ifCond .le 7, 3), (37, .iload_n 2, 1), (38, .goto 5, 3), (41, .bipush (-4), 2), (43, .ireturn, 1)]
def M_X3_brightest : zM := (zd_X3_brightest, zfX3, zgX3, znX3, zoX3, [], [])
def R_X3_brightest : zRel := zR M_X3_brightest 4 (some .int)
def rm_X3_brightest : Room := { frames := 0, cells := 0, slots := 0, locals := 0 }
theorem dd_X3_brightest : ∀ q ∈ zd_X3_brightest, decode cX3_brightest q.1 = .ok (q.2.1, q.2.2) := by decide +kernel
theorem m_X3_brightest (l : Launch) : zMet l yX3_brightest cX3_brightest 4 (some .int) rm_X3_brightest R_X3_brightest := z_met (M := M_X3_brightest) (plainFor_of_name (by decide)) dd_X3_brightest (by decide +kernel) rfl zfX3_ok zgX3_ok znX3_ok zoX3_ok (fun _ h => absurd h List.not_mem_nil) (Or.inr rfl)
theorem k_X3_brightest : Cond.code yX3_brightest cX3_brightest 4 (some .int) ∈ zTb ∧ Cond.initialized yX3_brightest.cls ∈ zTb ∧ (yX3_brightest.cls ≠ "java/lang/invoke/MethodHandle" ∧ yX3_brightest.cls ≠ "java/lang/invoke/VarHandle") ∧ Cond.instanceMethod yX3_brightest ∈ zTb ∧ Cond.selects yX3_brightest.cls yX3_brightest yX3_brightest ∈ zTb ∧ (∃ (T : u_T) (N : Nat), vwCl[3]? = some (yX3_brightest.cls, T, N)) ∧ (parseMethodDescriptor yX3_brightest.desc).map (fun d => d.parameters.length + 1) = some 2 := ⟨zTb_in 333 (by decide +kernel) (by decide +kernel), zTb_in 37 (by decide +kernel) (by decide +kernel), by decide, zTb_in 331 (by decide +kernel) (by decide +kernel), zTb_in 332 (by decide +kernel) (by decide +kernel), ⟨_, _, rfl⟩, by decide +kernel⟩
def zd_X3_broad : List zI := [(0, .iload_n 2, 1), (1, .istore_n 3, 1), (2, .iload_n 3, 1), (3, .ifCond .le 25, 3), (6, .ldc2_w 60, 3), (9, .aload_n 1, 1), (10, .iload_n 3, 1), (11, .iconst 1, 1), (12, .isub, 1), (13, .laload, 1), (14, .lmul, 1), (15, .aload_n 1, 1), (16, .iload_n 2, 1), (17, .laload, 1), (18, .lcmp, 1), (19, .ifCond .lt 9, 3), (22, .iinc 3 (-1), 3), (25, .goto (-23), 3), (28, .iload_n 2, 1), (29, .istore 4, 2), (31, .iload 4, 2), (33, .sipush 180, 3), (36, .if_icmp .ge 26, 3), (39, .ldc2_w 60, 3), (42, .aload_n 1, 1), (43, .iload 4, 2), (45, .iconst 1, 1), (46, .iadd, 1), (47, .laload, 1), (48, .lmul, 1), (49, .aload_n 1, 1), (50, .iload_n 2, 1), (51, .laload, 1), (52, .lcmp, 1), (53, .ifCond .lt 9, 3), (56, .iinc 4 1, 3), (59, .goto (-28), 3), (62, .iload 4, 2), (64, .iload_n 3, 1), (65, .isub, 1), (66, .iconst 1, 1), (67, .iadd, 1), (68, .ireturn, 1)]
def M_X3_broad : zM := (zd_X3_broad, zfX3, zgX3, znX3, zoX3, [], [])
def R_X3_broad : zRel := zR M_X3_broad 5 (some .int)
def rm_X3_broad : Room := { frames := 0, cells := 0, slots := 0, locals := 0 }
theorem dd_X3_broad : ∀ q ∈ zd_X3_broad, decode cX3_broad q.1 = .ok (q.2.1, q.2.2) := by decide +kernel
theorem m_X3_broad (l : Launch) : zMet l yX3_broad cX3_broad 5 (some .int) rm_X3_broad R_X3_broad := z_met (M := M_X3_broad) (plainFor_of_name (by decide)) dd_X3_broad (by decide +kernel) rfl zfX3_ok zgX3_ok znX3_ok zoX3_ok (fun _ h => absurd h List.not_mem_nil) (Or.inr rfl)
theorem k_X3_broad : Cond.code yX3_broad cX3_broad 5 (some .int) ∈ zTb ∧ Cond.initialized yX3_broad.cls ∈ zTb ∧ (yX3_broad.cls ≠ "java/lang/invoke/MethodHandle" ∧ yX3_broad.cls ≠ "java/lang/invoke/VarHandle") ∧ Cond.instanceMethod yX3_broad ∈ zTb ∧ Cond.selects yX3_broad.cls yX3_broad yX3_broad ∈ zTb ∧ (∃ (T : u_T) (N : Nat), vwCl[3]? = some (yX3_broad.cls, T, N)) ∧ (parseMethodDescriptor yX3_broad.desc).map (fun d => d.parameters.length + 1) = some 3 := ⟨zTb_in 337 (by decide +kernel) (by decide +kernel), zTb_in 37 (by decide +kernel) (by decide +kernel), by decide, zTb_in 335 (by decide +kernel) (by decide +kernel), zTb_in 336 (by decide +kernel) (by decide +kernel), ⟨_, _, rfl⟩, by decide +kernel⟩
def zd_X3_widestDark : List zI := [(0, .aload_n 0, 1), (1, .aload_n 0, 1), (2, .getfield 9, 3), (5, .iload_n 1, 1), (6, .iconst 0, 1), (7, .invokevirtual 62, 3), (10, .aload_n 0, 1), (11, .aload_n 0, 1), (12, .getfield 15, 3), (15, .iload_n 2, 1), (16, .iconst 0, 1), (17, .invokevirtual 62, 3), (20, .aload_n 0, 1), (21, .aload_n 0, 1), (22, .getfield 9, 3), (25, .invokevirtual 66, 3), (28, .istore_n 3, 1), (29, .aload_n 0, 1), (30, .aload_n 0, 1), (31, .getfield 15, 3), (34, .invokevirtual 66, 3), (37, .istore 4, 2), (39, .iload_n 3, 1), (40, .bipush (-4), 2), (42, .if_icmp .eq 10, 3), (45, .iload 4, 2), (47, .bipush (-4), 2), (49, .if_icmp .ne 6, 3), (52, .bipush (-2), 2), (54, .ireturn, 1), (55, .iconst 0, 1), (56, .istore 5, 2), (58, .iconst 0, 1), (59, .istore 6, 2), (61, .iload_n 3, 1), (62, .iload 4, 2), (64, .invokestatic 70, 3), (67, .istore 7, 2), (69, .iload 7, 2), (71, .iload_n 3, 1), (72, .iload 4, 2), (74, .invokestatic 73, 3), (77, .if_icmp .gt 52, 3), (80, .aload_n 0, 1), (81, .getfield 9, 3), (84, .iload 7, 2), (86, .laload, 1), (87, .lconst 0, 1), (88, .lcmp, 1), (89, .ifCond .ne 22, 3), (92, .aload_n 0, 1), (93, .getfield 15, 3), (96, .iload 7, 2), (98, .laload, 1), (99, .lconst 0, 1), (100, .lcmp, 1), (101, .ifCond .ne 10, 3), (104, .iload 6, 2), (106, .iconst 1, 1), (107, .iadd, 1), (108, .goto 4, 3), (111, .iconst 0, 1), (112, .istore 6, 2), (114, .iload 5, 2), (116, .iload 6, 2), (118, .invokestatic 73, 3), (121, .istore 5, 2), (123, .iinc 7 1, 3), (126, .goto (-57), 3), (129, .iload 5, 2), (131, .ireturn, 1)]
def M_X3_widestDark : zM := (zd_X3_widestDark, zfX3, zgX3, znX3, zoX3, [(62, 4, 0, some 3, R_X3_fillSky), (66, 2, 1, some 3, R_X3_brightest), (70, 2, 1, none, R_J9_min_7cf53), (73, 2, 1, none, R_J9_max_7cf53)], [])
def R_X3_widestDark : zRel := zR M_X3_widestDark 8 (some .int)
def rm_X3_widestDark : Room := { frames := 4, cells := 0, slots := 0, locals := 97 }
theorem dd_X3_widestDark : ∀ q ∈ zd_X3_widestDark, decode cX3_widestDark q.1 = .ok (q.2.1, q.2.2) := by decide +kernel
theorem m_X3_widestDark (l : Launch) : zMet l yX3_widestDark cX3_widestDark 8 (some .int) rm_X3_widestDark R_X3_widestDark := z_met (M := M_X3_widestDark) (plainFor_of_name (by decide)) dd_X3_widestDark (by decide +kernel) rfl zfX3_ok zgX3_ok znX3_ok zoX3_ok (List.forall_mem_cons.mpr ⟨Or.inl ⟨yX3_fillSky, cX3_fillSky, 5, none, rm_X3_fillSky, m_X3_fillSky l, rfl, rfl, by decide, zTb_in 347 (by decide +kernel) (by decide +kernel), k_X3_fillSky⟩,
  List.forall_mem_cons.mpr ⟨Or.inl ⟨yX3_brightest, cX3_brightest, 4, (some .int), rm_X3_brightest, m_X3_brightest l, rfl, rfl, by decide, zTb_in 348 (by decide +kernel) (by decide +kernel), k_X3_brightest⟩,
  List.forall_mem_cons.mpr ⟨Or.inl ⟨yJ9_min_7cf53, cJ9_min_7cf53, 2, (some .int), rm_J9_min_7cf53, m_J9_min_7cf53 l, rfl, rfl, by decide, zTb_in 349 (by decide +kernel) (by decide +kernel), k_J9_min_7cf53⟩,
  List.forall_mem_cons.mpr ⟨Or.inl ⟨yJ9_max_7cf53, cJ9_max_7cf53, 2, (some .int), rm_J9_max_7cf53, m_J9_max_7cf53 l, rfl, rfl, by decide, zTb_in 352 (by decide +kernel) (by decide +kernel), k_J9_max_7cf53⟩,
  fun _ h => absurd h List.not_mem_nil⟩⟩⟩⟩) (Or.inr rfl)
theorem k_X3_widestDark : Cond.code yX3_widestDark cX3_widestDark 8 (some .int) ∈ zTb ∧ Cond.initialized yX3_widestDark.cls ∈ zTb ∧ (yX3_widestDark.cls ≠ "java/lang/invoke/MethodHandle" ∧ yX3_widestDark.cls ≠ "java/lang/invoke/VarHandle") ∧ Cond.instanceMethod yX3_widestDark ∈ zTb ∧ Cond.selects yX3_widestDark.cls yX3_widestDark yX3_widestDark ∈ zTb ∧ (∃ (T : u_T) (N : Nat), vwCl[3]? = some (yX3_widestDark.cls, T, N)) ∧ (parseMethodDescriptor yX3_widestDark.desc).map (fun d => d.parameters.length + 1) = some 3 := ⟨zTb_in 346 (by decide +kernel) (by decide +kernel), zTb_in 37 (by decide +kernel) (by decide +kernel), by decide, zTb_in 344 (by decide +kernel) (by decide +kernel), zTb_in 345 (by decide +kernel) (by decide +kernel), ⟨_, _, rfl⟩, by decide +kernel⟩
def zd_X6_unbent : List zI := [(0, .iconst 0, 1), (1, .istore 4, 2), (3, .sipush 512, 3), (6, .istore 5, 2), (8, .iload 5, 2), (10, .ifCond .le 45, 3), (13, .iload 4, 2), (15, .iload 5, 2), (17, .iadd, 1), (18, .istore 6, 2), (20, .iload 6, 2), (22, .sipush 901, 3), (25, .if_icmp .gt 21, 3), (28, .aload_n 0, 1), (29, .iload_n 1, 1), (30, .iload_n 2, 1), (31, .iload 6, 2), (33, .iconst 1, 1), (34, .isub, 1), (35, .invokevirtual 50, 3), (38, .iload_n 3, 1), (39, .if_icmp .ge 7, 3), (42, .iload 6, 2), (44, .istore 4, 2), (46, .iload 5, 2), (48, .iconst 2, 1), (49, .idiv, 1), (50, .istore 5, 2), (52, .goto (-44), 3), (55, .iload 4, 2), (57, .sipush 900, 3), (60, .if_icmp .gt 8, 3), (63, .iload 4, 2), (65, .goto 5, 3), (68, .bipush (-4), 2), (70, .ireturn, 1)]
def M_X6_unbent : zM := (zd_X6_unbent, zfX6, zgX6, znX6, zoX6, [(50, 4, 1, some 6, R_X6_bent)], [])
def R_X6_unbent : zRel := zR M_X6_unbent 7 (some .int)
def rm_X6_unbent : Room := { frames := 1, cells := 0, slots := 0, locals := 25 }
theorem dd_X6_unbent : ∀ q ∈ zd_X6_unbent, decode cX6_unbent q.1 = .ok (q.2.1, q.2.2) := by decide +kernel
theorem m_X6_unbent (l : Launch) : zMet l yX6_unbent cX6_unbent 7 (some .int) rm_X6_unbent R_X6_unbent := z_met (M := M_X6_unbent) (plainFor_of_name (by decide)) dd_X6_unbent (by decide +kernel) rfl zfX6_ok zgX6_ok znX6_ok zoX6_ok (List.forall_mem_cons.mpr ⟨Or.inl ⟨yX6_bent, cX6_bent, 6, (some .int), rm_X6_bent, m_X6_bent l, rfl, rfl, by decide, zTb_in 276 (by decide +kernel) (by decide +kernel), k_X6_bent⟩,
  fun _ h => absurd h List.not_mem_nil⟩) (Or.inr rfl)
theorem k_X6_unbent : Cond.code yX6_unbent cX6_unbent 7 (some .int) ∈ zTb ∧ Cond.initialized yX6_unbent.cls ∈ zTb ∧ (yX6_unbent.cls ≠ "java/lang/invoke/MethodHandle" ∧ yX6_unbent.cls ≠ "java/lang/invoke/VarHandle") ∧ Cond.instanceMethod yX6_unbent ∈ zTb ∧ Cond.selects yX6_unbent.cls yX6_unbent yX6_unbent ∈ zTb ∧ (∃ (T : u_T) (N : Nat), vwCl[6]? = some (yX6_unbent.cls, T, N)) ∧ (parseMethodDescriptor yX6_unbent.desc).map (fun d => d.parameters.length + 1) = some 4 := ⟨zTb_in 275 (by decide +kernel) (by decide +kernel), zTb_in 36 (by decide +kernel) (by decide +kernel), by decide, zTb_in 273 (by decide +kernel) (by decide +kernel), zTb_in 274 (by decide +kernel) (by decide +kernel), ⟨_, _, rfl⟩, by decide +kernel⟩
def zd_X4_turnOf : List zI := [(0, .iload_n 1, 1), (1, .aload_n 0, 1), (2, .getfield 18, 3), (5, .iconst 1, 1), (6, .iload_n 2, 1), (7, .iload_n 3, 1), (8, .invokevirtual 22, 3), (11, .isub, 1), (12, .istore 4, 2), (14, .iload 4, 2), (16, .ifCond .ge 7, 3), (19, .sipush (-10000), 3), (22, .ireturn, 1), (23, .aload_n 0, 1), (24, .getfield 18, 3), (27, .iconst 1, 1), (28, .iload_n 2, 1), (29, .iload 4, 2), (31, .invokevirtual 28, 3), (34, .istore 5, 2), (36, .iload 5, 2), (38, .bipush (-4), 2), (40, .if_icmp .ne 9, 3), (43, .sipush (-10000), 3), (46, .goto 9, 3), (49, .iload_n 3, 1), (50, .iload 5, 2), (52, .iadd, 1), (53, .iload_n 1, 1), (54, .isub, 1), (55, .ireturn, 1)]
def M_X4_turnOf : zM := (zd_X4_turnOf, zfX4, zgX4, znX4, zoX4, [(22, 4, 1, some 6, R_X6_bent), (28, 4, 1, some 6, R_X6_unbent)], [])
def R_X4_turnOf : zRel := zR M_X4_turnOf 6 (some .int)
def rm_X4_turnOf : Room := { frames := 2, cells := 0, slots := 0, locals := 51 }
theorem dd_X4_turnOf : ∀ q ∈ zd_X4_turnOf, decode cX4_turnOf q.1 = .ok (q.2.1, q.2.2) := by decide +kernel
theorem m_X4_turnOf (l : Launch) : zMet l yX4_turnOf cX4_turnOf 6 (some .int) rm_X4_turnOf R_X4_turnOf := z_met (M := M_X4_turnOf) (plainFor_of_name (by decide)) dd_X4_turnOf (by decide +kernel) rfl zfX4_ok zgX4_ok znX4_ok zoX4_ok (List.forall_mem_cons.mpr ⟨Or.inl ⟨yX6_bent, cX6_bent, 6, (some .int), rm_X6_bent, m_X6_bent l, rfl, rfl, by decide, zTb_in 379 (by decide +kernel) (by decide +kernel), k_X6_bent⟩,
  List.forall_mem_cons.mpr ⟨Or.inl ⟨yX6_unbent, cX6_unbent, 7, (some .int), rm_X6_unbent, m_X6_unbent l, rfl, rfl, by decide, zTb_in 380 (by decide +kernel) (by decide +kernel), k_X6_unbent⟩,
  fun _ h => absurd h List.not_mem_nil⟩⟩) (Or.inr rfl)
theorem k_X4_turnOf : Cond.code yX4_turnOf cX4_turnOf 6 (some .int) ∈ zTb ∧ Cond.initialized yX4_turnOf.cls ∈ zTb ∧ (yX4_turnOf.cls ≠ "java/lang/invoke/MethodHandle" ∧ yX4_turnOf.cls ≠ "java/lang/invoke/VarHandle") ∧ Cond.instanceMethod yX4_turnOf ∈ zTb ∧ Cond.selects yX4_turnOf.cls yX4_turnOf yX4_turnOf ∈ zTb ∧ (∃ (T : u_T) (N : Nat), vwCl[4]? = some (yX4_turnOf.cls, T, N)) ∧ (parseMethodDescriptor yX4_turnOf.desc).map (fun d => d.parameters.length + 1) = some 4 := ⟨zTb_in 378 (by decide +kernel) (by decide +kernel), zTb_in 38 (by decide +kernel) (by decide +kernel), by decide, zTb_in 376 (by decide +kernel) (by decide +kernel), zTb_in 377 (by decide +kernel) (by decide +kernel), ⟨_, _, rfl⟩, by decide +kernel⟩
def zd_X6_copyFrom : List zI := [(0, .aload_n 1, 1), (1, .getfield 18, 3), (4, .iconst 0, 1), (5, .aload_n 0, 1), (6, .getfield 18, 3), (9, .iconst 0, 1), (10, .bipush 30, 2), (12, .invokestatic 38, 3), (15, .aload_n 1, 1), (16, .getfield 26, 3), (19, .iconst 0, 1), (20, .aload_n 0, 1), (21, .getfield 26, 3), (24, .iconst 0, 1), (25, .iconst 5, 1), (26, .invokestatic 38, 3), (29, .aload_n 1, 1), (30, .getfield 29, 3), (33, .iconst 0, 1), (34, .aload_n 0, 1), (35, .getfield 29, 3), (38, .iconst 0, 1), (39, .bipush 12, 2), (41, .invokestatic 38, 3), (44, .aload_n 1, 1), (45, .getfield 32, 3), (48, .iconst 0, 1), (49, .aload_n 0, 1), (50, .getfield 32, 3), (53, .iconst 0, 1), (54, .iconst 4, 1), (55, .invokestatic 38, 3), (58, .aload_n 1, 1), (59, .getfield 35, 3), (62, .iconst 0, 1), (63, .aload_n 0, 1), (64, .getfield 35, 3), (67, .iconst 0, 1), (68, .bipush 12, 2), (70, .invokestatic 38, 3), (73, .return_, 1)]
def M_X6_copyFrom : zM := (zd_X6_copyFrom, zfX6, zgX6, znX6, zoX6, [(38, 5, 0, none, zAC)], [])
def R_X6_copyFrom : zRel := zR M_X6_copyFrom 2 none
def rm_X6_copyFrom : Room := { frames := 1, cells := 0, slots := 0, locals := 59 }
theorem dd_X6_copyFrom : ∀ q ∈ zd_X6_copyFrom, decode cX6_copyFrom q.1 = .ok (q.2.1, q.2.2) := by decide +kernel
theorem m_X6_copyFrom (l : Launch) : zMet l yX6_copyFrom cX6_copyFrom 2 none rm_X6_copyFrom R_X6_copyFrom := z_met (M := M_X6_copyFrom) (plainFor_of_name (by decide)) dd_X6_copyFrom (by decide +kernel) rfl zfX6_ok zgX6_ok znX6_ok zoX6_ok (List.forall_mem_cons.mpr ⟨Or.inr ⟨rfl, zTb_in 583 (by decide +kernel) (by decide +kernel), zTb_in 585 (by decide +kernel) (by decide +kernel), zTb_in 584 (by decide +kernel) (by decide +kernel), zTb_in 46 (by decide +kernel) (by decide +kernel), by decide, by decide +kernel⟩,
  fun _ h => absurd h List.not_mem_nil⟩) (Or.inr rfl)
theorem k_X6_copyFrom : Cond.code yX6_copyFrom cX6_copyFrom 2 none ∈ zTb ∧ Cond.initialized yX6_copyFrom.cls ∈ zTb ∧ (yX6_copyFrom.cls ≠ "java/lang/invoke/MethodHandle" ∧ yX6_copyFrom.cls ≠ "java/lang/invoke/VarHandle") ∧ Cond.instanceMethod yX6_copyFrom ∈ zTb ∧ Cond.selects yX6_copyFrom.cls yX6_copyFrom yX6_copyFrom ∈ zTb ∧ (∃ (T : u_T) (N : Nat), vwCl[6]? = some (yX6_copyFrom.cls, T, N)) ∧ (parseMethodDescriptor yX6_copyFrom.desc).map (fun d => d.parameters.length + 1) = some 2 := ⟨zTb_in 582 (by decide +kernel) (by decide +kernel), zTb_in 36 (by decide +kernel) (by decide +kernel), by decide, zTb_in 580 (by decide +kernel) (by decide +kernel), zTb_in 581 (by decide +kernel) (by decide +kernel), ⟨_, _, rfl⟩, by decide +kernel⟩
def zd_J7_fill_53178 : List zI := [(0, .iconst 0, 1), (1, .istore_n 2, 1), (2, .aload_n 0, 1), (3, .arraylength, 1), (4, .istore_n 3, 1), (5, .iload_n 2, 1), (6, .iload_n 3, 1), (7, .if_icmp .ge 13, 3), (10, .aload_n 0, 1), (11, .iload_n 2, 1), (12, .iload_n 1, 1), (13, .iastore, 1), (14, .iinc 2 1, 3), (17, .goto (-12), 3), (20, .return_, 1)]
def M_J7_fill_53178 : zM := (zd_J7_fill_53178, zfJ7, zgJ7, znJ7, zoJ7, [], [])
def R_J7_fill_53178 : zRel := zR M_J7_fill_53178 4 none
def rm_J7_fill_53178 : Room := { frames := 0, cells := 0, slots := 0, locals := 0 }
theorem dd_J7_fill_53178 : ∀ q ∈ zd_J7_fill_53178, decode cJ7_fill_53178 q.1 = .ok (q.2.1, q.2.2) := by decide +kernel
theorem m_J7_fill_53178 (l : Launch) : zMet l yJ7_fill_53178 cJ7_fill_53178 4 none rm_J7_fill_53178 R_J7_fill_53178 := z_met (M := M_J7_fill_53178) (by decide +kernel) dd_J7_fill_53178 (by decide +kernel) rfl zfJ7_ok zgJ7_ok znJ7_ok zoJ7_ok (fun _ h => absurd h List.not_mem_nil) (Or.inr rfl)
theorem k_J7_fill_53178 : Cond.code yJ7_fill_53178 cJ7_fill_53178 4 none ∈ zTb ∧ Cond.initialized yJ7_fill_53178.cls ∈ zTb ∧ (yJ7_fill_53178.cls ≠ "java/lang/invoke/MethodHandle" ∧ yJ7_fill_53178.cls ≠ "java/lang/invoke/VarHandle") ∧ Cond.static yJ7_fill_53178 ∈ zTb ∧ (parseMethodDescriptor yJ7_fill_53178.desc).map (fun d => d.parameters.length) = some 2 := ⟨zTb_in 177 (by decide +kernel) (by decide +kernel), zTb_in 42 (by decide +kernel) (by decide +kernel), by decide, zTb_in 176 (by decide +kernel) (by decide +kernel), by decide +kernel⟩
def zd_X6_changeTable : List zI := [(0, .iload_n 1, 1), (1, .bipush 10, 2), (3, .imul, 1), (4, .iload_n 2, 1), (5, .iadd, 1), (6, .istore 4, 2), (8, .iload_n 3, 1), (9, .aload_n 0, 1), (10, .getfield 18, 3), (13, .iload 4, 2), (15, .iconst 1, 1), (16, .isub, 1), (17, .iaload, 1), (18, .if_icmp .lt 22, 3), (21, .iload_n 2, 1), (22, .bipush 9, 2), (24, .if_icmp .ge 19, 3), (27, .iload_n 3, 1), (28, .aload_n 0, 1), (29, .getfield 18, 3), (32, .iload 4, 2), (34, .iconst 1, 1), (35, .iadd, 1), (36, .iaload, 1), (37, .if_icmp .le 6, 3), (40, .bipush (-2), 2), (42, .ireturn, 1), (43, .aload_n 0, 1), (44, .getfield 18, 3), (47, .iload 4, 2), (49, .iaload, 1), (50, .istore 5, 2), (52, .aload_n 0, 1), (53, .getfield 18, 3), (56, .iload 4, 2), (58, .iload_n 3, 1), (59, .iastore, 1), (60, .iload_n 1, 1), (61, .iconst 1, 1), (62, .if_icmp .ne 11, 3), (65, .aload_n 0, 1), (66, .getfield 35, 3), (69, .iconst (-1), 1), (70, .invokestatic 44, 3), (73, .iload 5, 2), (75, .ireturn, 1)]
def M_X6_changeTable : zM := (zd_X6_changeTable, zfX6, zgX6, znX6, zoX6, [(44, 2, 0, none, R_J7_fill_53178)], [])
def R_X6_changeTable : zRel := zR M_X6_changeTable 6 (some .int)
def rm_X6_changeTable : Room := { frames := 1, cells := 0, slots := 0, locals := 23 }
theorem dd_X6_changeTable : ∀ q ∈ zd_X6_changeTable, decode cX6_changeTable q.1 = .ok (q.2.1, q.2.2) := by decide +kernel
theorem m_X6_changeTable (l : Launch) : zMet l yX6_changeTable cX6_changeTable 6 (some .int) rm_X6_changeTable R_X6_changeTable := z_met (M := M_X6_changeTable) (plainFor_of_name (by decide)) dd_X6_changeTable (by decide +kernel) rfl zfX6_ok zgX6_ok znX6_ok zoX6_ok (List.forall_mem_cons.mpr ⟨Or.inl ⟨yJ7_fill_53178, cJ7_fill_53178, 4, none, rm_J7_fill_53178, m_J7_fill_53178 l, rfl, rfl, by decide, zTb_in 245 (by decide +kernel) (by decide +kernel), k_J7_fill_53178⟩,
  fun _ h => absurd h List.not_mem_nil⟩) (Or.inr rfl)
theorem k_X6_changeTable : Cond.code yX6_changeTable cX6_changeTable 6 (some .int) ∈ zTb ∧ Cond.initialized yX6_changeTable.cls ∈ zTb ∧ (yX6_changeTable.cls ≠ "java/lang/invoke/MethodHandle" ∧ yX6_changeTable.cls ≠ "java/lang/invoke/VarHandle") ∧ Cond.instanceMethod yX6_changeTable ∈ zTb ∧ Cond.selects yX6_changeTable.cls yX6_changeTable yX6_changeTable ∈ zTb ∧ (∃ (T : u_T) (N : Nat), vwCl[6]? = some (yX6_changeTable.cls, T, N)) ∧ (parseMethodDescriptor yX6_changeTable.desc).map (fun d => d.parameters.length + 1) = some 4 := ⟨zTb_in 244 (by decide +kernel) (by decide +kernel), zTb_in 36 (by decide +kernel) (by decide +kernel), by decide, zTb_in 242 (by decide +kernel) (by decide +kernel), zTb_in 243 (by decide +kernel) (by decide +kernel), ⟨_, _, rfl⟩, by decide +kernel⟩
def zd_X6_addWedge : List zI := [(0, .aload_n 0, 1), (1, .iload_n 1, 1), (2, .iload_n 2, 1), (3, .invokevirtual 54, 3), (6, .ifCond .eq 6, 3), (9, .bipush (-2), 2), (11, .ireturn, 1), (12, .aload_n 0, 1), (13, .getfield 32, 3), (16, .iload_n 1, 1), (17, .iaload, 1), (18, .istore_n 3, 1), (19, .iload_n 3, 1), (20, .iconst 3, 1), (21, .if_icmp .lt 6, 3), (24, .bipush (-3), 2), (26, .ireturn, 1), (27, .aload_n 0, 1), (28, .getfield 29, 3), (31, .iload_n 1, 1), (32, .iconst 3, 1), (33, .imul, 1), (34, .iload_n 3, 1), (35, .iadd, 1), (36, .iload_n 2, 1), (37, .iastore, 1), (38, .aload_n 0, 1), (39, .getfield 35, 3), (42, .iload_n 1, 1), (43, .iconst 3, 1), (44, .imul, 1), (45, .iload_n 3, 1), (46, .iadd, 1), (47, .iconst (-1), 1), (48, .iastore, 1), (49, .aload_n 0, 1), (50, .getfield 32, 3), (53, .iload_n 1, 1), (54, .iload_n 3, 1), (55, .iconst 1, 1), (56, .iadd, 1), (57, .iastore, 1), (58, .iload_n 3, 1), (59, .iconst 1, 1), (60, .iadd, 1), (61, .ireturn, 1)]
def M_X6_addWedge : zM := (zd_X6_addWedge, zfX6, zgX6, znX6, zoX6, [(54, 3, 1, some 6, R_X6_hasWedge)], [])
def R_X6_addWedge : zRel := zR M_X6_addWedge 4 (some .int)
def rm_X6_addWedge : Room := { frames := 1, cells := 0, slots := 0, locals := 23 }
theorem dd_X6_addWedge : ∀ q ∈ zd_X6_addWedge, decode cX6_addWedge q.1 = .ok (q.2.1, q.2.2) := by decide +kernel
theorem m_X6_addWedge (l : Launch) : zMet l yX6_addWedge cX6_addWedge 4 (some .int) rm_X6_addWedge R_X6_addWedge := z_met (M := M_X6_addWedge) (plainFor_of_name (by decide)) dd_X6_addWedge (by decide +kernel) rfl zfX6_ok zgX6_ok znX6_ok zoX6_ok (List.forall_mem_cons.mpr ⟨Or.inl ⟨yX6_hasWedge, cX6_hasWedge, 4, (some .boolean), rm_X6_hasWedge, m_X6_hasWedge l, rfl, rfl, by decide, zTb_in 363 (by decide +kernel) (by decide +kernel), k_X6_hasWedge⟩,
  fun _ h => absurd h List.not_mem_nil⟩) (Or.inr rfl)
theorem k_X6_addWedge : Cond.code yX6_addWedge cX6_addWedge 4 (some .int) ∈ zTb ∧ Cond.initialized yX6_addWedge.cls ∈ zTb ∧ (yX6_addWedge.cls ≠ "java/lang/invoke/MethodHandle" ∧ yX6_addWedge.cls ≠ "java/lang/invoke/VarHandle") ∧ Cond.instanceMethod yX6_addWedge ∈ zTb ∧ Cond.selects yX6_addWedge.cls yX6_addWedge yX6_addWedge ∈ zTb ∧ (∃ (T : u_T) (N : Nat), vwCl[6]? = some (yX6_addWedge.cls, T, N)) ∧ (parseMethodDescriptor yX6_addWedge.desc).map (fun d => d.parameters.length + 1) = some 3 := ⟨zTb_in 362 (by decide +kernel) (by decide +kernel), zTb_in 36 (by decide +kernel) (by decide +kernel), by decide, zTb_in 360 (by decide +kernel) (by decide +kernel), zTb_in 361 (by decide +kernel) (by decide +kernel), ⟨_, _, rfl⟩, by decide +kernel⟩
def zd_X6_wedgesInAll : List zI := [(0, .iconst 0, 1), (1, .istore_n 1, 1), (2, .iconst 0, 1), (3, .istore_n 2, 1), (4, .iload_n 2, 1), (5, .iconst 4, 1), (6, .if_icmp .ge 18, 3), (9, .iload_n 1, 1), (10, .aload_n 0, 1), (11, .getfield 32, 3), (14, .iload_n 2, 1), (15, .iaload, 1), (16, .iadd, 1), (17, .istore_n 1, 1), (18, .iinc 2 1, 3), (21, .goto (-17), 3), (24, .iload_n 1, 1), (25, .ireturn, 1)]
def M_X6_wedgesInAll : zM := (zd_X6_wedgesInAll, zfX6, zgX6, znX6, zoX6, [], [])
def R_X6_wedgesInAll : zRel := zR M_X6_wedgesInAll 3 (some .int)
def rm_X6_wedgesInAll : Room := { frames := 0, cells := 0, slots := 0, locals := 0 }
theorem dd_X6_wedgesInAll : ∀ q ∈ zd_X6_wedgesInAll, decode cX6_wedgesInAll q.1 = .ok (q.2.1, q.2.2) := by decide +kernel
theorem m_X6_wedgesInAll (l : Launch) : zMet l yX6_wedgesInAll cX6_wedgesInAll 3 (some .int) rm_X6_wedgesInAll R_X6_wedgesInAll := z_met (M := M_X6_wedgesInAll) (plainFor_of_name (by decide)) dd_X6_wedgesInAll (by decide +kernel) rfl zfX6_ok zgX6_ok znX6_ok zoX6_ok (fun _ h => absurd h List.not_mem_nil) (Or.inr rfl)
theorem k_X6_wedgesInAll : Cond.code yX6_wedgesInAll cX6_wedgesInAll 3 (some .int) ∈ zTb ∧ Cond.initialized yX6_wedgesInAll.cls ∈ zTb ∧ (yX6_wedgesInAll.cls ≠ "java/lang/invoke/MethodHandle" ∧ yX6_wedgesInAll.cls ≠ "java/lang/invoke/VarHandle") ∧ Cond.instanceMethod yX6_wedgesInAll ∈ zTb ∧ Cond.selects yX6_wedgesInAll.cls yX6_wedgesInAll yX6_wedgesInAll ∈ zTb ∧ (∃ (T : u_T) (N : Nat), vwCl[6]? = some (yX6_wedgesInAll.cls, T, N)) ∧ (parseMethodDescriptor yX6_wedgesInAll.desc).map (fun d => d.parameters.length + 1) = some 1 := ⟨zTb_in 597 (by decide +kernel) (by decide +kernel), zTb_in 36 (by decide +kernel) (by decide +kernel), by decide, zTb_in 595 (by decide +kernel) (by decide +kernel), zTb_in 596 (by decide +kernel) (by decide +kernel), ⟨_, _, rfl⟩, by decide +kernel⟩
def zd_X7_within : List zI := [(0, .iload_n 0, 1), (1, .iload_n 1, 1), (2, .if_icmp .lt 12, 3), (5, .iload_n 0, 1), (6, .iload_n 2, 1), (7, .if_icmp .gt 7, 3), (10, .iconst 1, 1), (11, .goto 4, 3), (14, .iconst 0, 1), (15, .ireturn, 1)]
def M_X7_within : zM := (zd_X7_within, zfX7, zgX7, znX7, zoX7, [], [])
def R_X7_within : zRel := zR M_X7_within 3 (some .boolean)
def rm_X7_within : Room := { frames := 0, cells := 0, slots := 0, locals := 0 }
theorem dd_X7_within : ∀ q ∈ zd_X7_within, decode cX7_within q.1 = .ok (q.2.1, q.2.2) := by decide +kernel
theorem m_X7_within (l : Launch) : zMet l yX7_within cX7_within 3 (some .boolean) rm_X7_within R_X7_within := z_met (M := M_X7_within) (plainFor_of_name (by decide)) dd_X7_within (by decide +kernel) rfl zfX7_ok zgX7_ok znX7_ok zoX7_ok (fun _ h => absurd h List.not_mem_nil) (Or.inr rfl)
theorem k_X7_within : Cond.code yX7_within cX7_within 3 (some .boolean) ∈ zTb ∧ Cond.initialized yX7_within.cls ∈ zTb ∧ (yX7_within.cls ≠ "java/lang/invoke/MethodHandle" ∧ yX7_within.cls ≠ "java/lang/invoke/VarHandle") ∧ Cond.static yX7_within ∈ zTb ∧ (parseMethodDescriptor yX7_within.desc).map (fun d => d.parameters.length) = some 3 := ⟨zTb_in 240 (by decide +kernel) (by decide +kernel), zTb_in 35 (by decide +kernel) (by decide +kernel), by decide, zTb_in 239 (by decide +kernel) (by decide +kernel), by decide +kernel⟩
def zd_X7_table : List zI := [(0, .iload_n 1, 1), (1, .iconst 0, 1), (2, .iconst 2, 1), (3, .invokestatic 63, 3), (6, .ifCond .eq 25, 3), (9, .iload_n 2, 1), (10, .iconst 1, 1), (11, .bipush 9, 2), (13, .invokestatic 63, 3), (16, .ifCond .eq 15, 3), (19, .iload_n 3, 1), (20, .iconst 0, 1), (21, .bipush 100, 2), (23, .iload_n 2, 1), (24, .imul, 1), (25, .invokestatic 63, 3), (28, .ifCond .ne 5, 3), (31, .iconst (-1), 1), (32, .ireturn, 1), (33, .aload_n 0, 1), (34, .getfield 12, 3), (37, .iload_n 1, 1), (38, .iload_n 2, 1), (39, .iload_n 3, 1), (40, .invokevirtual 67, 3), (43, .ireturn, 1)]
def M_X7_table : zM := (zd_X7_table, zfX7, zgX7, znX7, zoX7, [(63, 3, 1, none, R_X7_within), (67, 4, 1, some 6, R_X6_changeTable)], [])
def R_X7_table : zRel := zR M_X7_table 4 (some .int)
def rm_X7_table : Room := { frames := 2, cells := 0, slots := 0, locals := 48 }
theorem dd_X7_table : ∀ q ∈ zd_X7_table, decode cX7_table q.1 = .ok (q.2.1, q.2.2) := by decide +kernel
theorem m_X7_table (l : Launch) : zMet l yX7_table cX7_table 4 (some .int) rm_X7_table R_X7_table := z_met (M := M_X7_table) (plainFor_of_name (by decide)) dd_X7_table (by decide +kernel) rfl zfX7_ok zgX7_ok znX7_ok zoX7_ok (List.forall_mem_cons.mpr ⟨Or.inl ⟨yX7_within, cX7_within, 3, (some .boolean), rm_X7_within, m_X7_within l, rfl, rfl, by decide, zTb_in 238 (by decide +kernel) (by decide +kernel), k_X7_within⟩,
  List.forall_mem_cons.mpr ⟨Or.inl ⟨yX6_changeTable, cX6_changeTable, 6, (some .int), rm_X6_changeTable, m_X6_changeTable l, rfl, rfl, by decide, zTb_in 241 (by decide +kernel) (by decide +kernel), k_X6_changeTable⟩,
  fun _ h => absurd h List.not_mem_nil⟩⟩) (Or.inr rfl)
theorem k_X7_table : Cond.code yX7_table cX7_table 4 (some .int) ∈ zTb ∧ Cond.initialized yX7_table.cls ∈ zTb ∧ (yX7_table.cls ≠ "java/lang/invoke/MethodHandle" ∧ yX7_table.cls ≠ "java/lang/invoke/VarHandle") ∧ Cond.instanceMethod yX7_table ∈ zTb ∧ Cond.selects yX7_table.cls yX7_table yX7_table ∈ zTb ∧ (∃ (T : u_T) (N : Nat), vwCl[7]? = some (yX7_table.cls, T, N)) ∧ (parseMethodDescriptor yX7_table.desc).map (fun d => d.parameters.length + 1) = some 4 := ⟨zTb_in 237 (by decide +kernel) (by decide +kernel), zTb_in 35 (by decide +kernel) (by decide +kernel), by decide, zTb_in 235 (by decide +kernel) (by decide +kernel), zTb_in 236 (by decide +kernel) (by decide +kernel), ⟨_, _, rfl⟩, by decide +kernel⟩
def zd_X7_rule : List zI := [(0, .iload_n 1, 1), (1, .iconst 0, 1), (2, .iconst 4, 1), (3, .invokestatic 63, 3), (6, .ifCond .eq 20, 3), (9, .iload_n 2, 1), (10, .getstatic 71, 3), (13, .iload_n 1, 1), (14, .iaload, 1), (15, .getstatic 75, 3), (18, .iload_n 1, 1), (19, .iaload, 1), (20, .invokestatic 63, 3), (23, .ifCond .ne 7, 3), (26, .sipush (-1000), 3), (29, .ireturn, 1), (30, .aload_n 0, 1), (31, .getfield 12, 3), (34, .getfield 78, 3), (37, .iload_n 1, 1), (38, .iaload, 1), (39, .istore_n 3, 1), (40, .aload_n 0, 1), (41, .getfield 12, 3), (44, .getfield 78, 3), (47, .iload_n 1, 1), (48, .iload_n 2, 1), (49, .iastore, 1), (50, .iload_n 3, 1), (51, .ireturn, 1)]
def M_X7_rule : zM := (zd_X7_rule, zfX7, zgX7, znX7, zoX7, [(63, 3, 1, none, R_X7_within)], zExs)
def R_X7_rule : zRel := zR M_X7_rule 4 (some .int)
def rm_X7_rule : Room := { frames := 1, cells := 0, slots := 0, locals := 22 }
theorem dd_X7_rule : ∀ q ∈ zd_X7_rule, decode cX7_rule q.1 = .ok (q.2.1, q.2.2) := by decide +kernel
theorem m_X7_rule (l : Launch) : zMet l yX7_rule cX7_rule 4 (some .int) rm_X7_rule R_X7_rule := z_met (M := M_X7_rule) (plainFor_of_name (by decide)) dd_X7_rule (by decide +kernel) rfl zfX7_ok zgX7_ok znX7_ok zoX7_ok (List.forall_mem_cons.mpr ⟨Or.inl ⟨yX7_within, cX7_within, 3, (some .boolean), rm_X7_within, m_X7_within l, rfl, rfl, by decide, zTb_in 238 (by decide +kernel) (by decide +kernel), k_X7_within⟩,
  fun _ h => absurd h List.not_mem_nil⟩) (Or.inl rfl)
theorem k_X7_rule : Cond.code yX7_rule cX7_rule 4 (some .int) ∈ zTb ∧ Cond.initialized yX7_rule.cls ∈ zTb ∧ (yX7_rule.cls ≠ "java/lang/invoke/MethodHandle" ∧ yX7_rule.cls ≠ "java/lang/invoke/VarHandle") ∧ Cond.instanceMethod yX7_rule ∈ zTb ∧ Cond.selects yX7_rule.cls yX7_rule yX7_rule ∈ zTb ∧ (∃ (T : u_T) (N : Nat), vwCl[7]? = some (yX7_rule.cls, T, N)) ∧ (parseMethodDescriptor yX7_rule.desc).map (fun d => d.parameters.length + 1) = some 3 := ⟨zTb_in 249 (by decide +kernel) (by decide +kernel), zTb_in 35 (by decide +kernel) (by decide +kernel), by decide, zTb_in 247 (by decide +kernel) (by decide +kernel), zTb_in 248 (by decide +kernel) (by decide +kernel), ⟨_, _, rfl⟩, by decide +kernel⟩
def zd_X7_isColour : List zI := [(0, .iload_n 0, 1), (1, .iconst 0, 1), (2, .iconst 3, 1), (3, .invokestatic 63, 3), (6, .ireturn, 1)]
def M_X7_isColour : zM := (zd_X7_isColour, zfX7, zgX7, znX7, zoX7, [(63, 3, 1, none, R_X7_within)], [])
def R_X7_isColour : zRel := zR M_X7_isColour 1 (some .boolean)
def rm_X7_isColour : Room := { frames := 1, cells := 0, slots := 0, locals := 22 }
theorem dd_X7_isColour : ∀ q ∈ zd_X7_isColour, decode cX7_isColour q.1 = .ok (q.2.1, q.2.2) := by decide +kernel
theorem m_X7_isColour (l : Launch) : zMet l yX7_isColour cX7_isColour 1 (some .boolean) rm_X7_isColour R_X7_isColour := z_met (M := M_X7_isColour) (plainFor_of_name (by decide)) dd_X7_isColour (by decide +kernel) rfl zfX7_ok zgX7_ok znX7_ok zoX7_ok (List.forall_mem_cons.mpr ⟨Or.inl ⟨yX7_within, cX7_within, 3, (some .boolean), rm_X7_within, m_X7_within l, rfl, rfl, by decide, zTb_in 238 (by decide +kernel) (by decide +kernel), k_X7_within⟩,
  fun _ h => absurd h List.not_mem_nil⟩) (Or.inr rfl)
theorem k_X7_isColour : Cond.code yX7_isColour cX7_isColour 1 (some .boolean) ∈ zTb ∧ Cond.initialized yX7_isColour.cls ∈ zTb ∧ (yX7_isColour.cls ≠ "java/lang/invoke/MethodHandle" ∧ yX7_isColour.cls ≠ "java/lang/invoke/VarHandle") ∧ Cond.static yX7_isColour ∈ zTb ∧ (parseMethodDescriptor yX7_isColour.desc).map (fun d => d.parameters.length) = some 1 := ⟨zTb_in 260 (by decide +kernel) (by decide +kernel), zTb_in 35 (by decide +kernel) (by decide +kernel), by decide, zTb_in 259 (by decide +kernel) (by decide +kernel), by decide +kernel⟩
end
section
def zd_X7_isRight : List zI := [(0, .iload_n 0, 1), (1, .iconst 0, 1), (2, .sipush 900, 3), (5, .invokestatic 63, 3), (8, .ireturn, 1)]
def M_X7_isRight : zM := (zd_X7_isRight, zfX7, zgX7, znX7, zoX7, [(63, 3, 1, none, R_X7_within)], [])
def R_X7_isRight : zRel := zR M_X7_isRight 1 (some .boolean)
def rm_X7_isRight : Room := { frames := 1, cells := 0, slots := 0, locals := 22 }
theorem dd_X7_isRight : ∀ q ∈ zd_X7_isRight, decode cX7_isRight q.1 = .ok (q.2.1, q.2.2) := by decide +kernel
theorem m_X7_isRight (l : Launch) : zMet l yX7_isRight cX7_isRight 1 (some .boolean) rm_X7_isRight R_X7_isRight := z_met (M := M_X7_isRight) (plainFor_of_name (by decide)) dd_X7_isRight (by decide +kernel) rfl zfX7_ok zgX7_ok znX7_ok zoX7_ok (List.forall_mem_cons.mpr ⟨Or.inl ⟨yX7_within, cX7_within, 3, (some .boolean), rm_X7_within, m_X7_within l, rfl, rfl, by decide, zTb_in 238 (by decide +kernel) (by decide +kernel), k_X7_within⟩,
  fun _ h => absurd h List.not_mem_nil⟩) (Or.inr rfl)
theorem k_X7_isRight : Cond.code yX7_isRight cX7_isRight 1 (some .boolean) ∈ zTb ∧ Cond.initialized yX7_isRight.cls ∈ zTb ∧ (yX7_isRight.cls ≠ "java/lang/invoke/MethodHandle" ∧ yX7_isRight.cls ≠ "java/lang/invoke/VarHandle") ∧ Cond.static yX7_isRight ∈ zTb ∧ (parseMethodDescriptor yX7_isRight.desc).map (fun d => d.parameters.length) = some 1 := ⟨zTb_in 263 (by decide +kernel) (by decide +kernel), zTb_in 35 (by decide +kernel) (by decide +kernel), by decide, zTb_in 262 (by decide +kernel) (by decide +kernel), by decide +kernel⟩
def zd_X7_inside : List zI := [(0, .iload_n 1, 1), (1, .iconst 0, 1), (2, .iconst 2, 1), (3, .invokestatic 63, 3), (6, .ifCond .eq 17, 3), (9, .iload_n 2, 1), (10, .invokestatic 81, 3), (13, .ifCond .eq 10, 3), (16, .iload_n 3, 1), (17, .invokestatic 85, 3), (20, .ifCond .ne 5, 3), (23, .iconst (-1), 1), (24, .ireturn, 1), (25, .aload_n 0, 1), (26, .getfield 12, 3), (29, .iload_n 1, 1), (30, .iload_n 2, 1), (31, .iload_n 3, 1), (32, .invokevirtual 88, 3), (35, .ireturn, 1)]
def M_X7_inside : zM := (zd_X7_inside, zfX7, zgX7, znX7, zoX7, [(63, 3, 1, none, R_X7_within), (81, 1, 1, none, R_X7_isColour), (85, 1, 1, none, R_X7_isRight), (88, 4, 1, some 6, R_X6_bent)], [])
def R_X7_inside : zRel := zR M_X7_inside 4 (some .int)
def rm_X7_inside : Room := { frames := 2, cells := 0, slots := 0, locals := 42 }
theorem dd_X7_inside : ∀ q ∈ zd_X7_inside, decode cX7_inside q.1 = .ok (q.2.1, q.2.2) := by decide +kernel
theorem m_X7_inside (l : Launch) : zMet l yX7_inside cX7_inside 4 (some .int) rm_X7_inside R_X7_inside := z_met (M := M_X7_inside) (plainFor_of_name (by decide)) dd_X7_inside (by decide +kernel) rfl zfX7_ok zgX7_ok znX7_ok zoX7_ok (List.forall_mem_cons.mpr ⟨Or.inl ⟨yX7_within, cX7_within, 3, (some .boolean), rm_X7_within, m_X7_within l, rfl, rfl, by decide, zTb_in 238 (by decide +kernel) (by decide +kernel), k_X7_within⟩,
  List.forall_mem_cons.mpr ⟨Or.inl ⟨yX7_isColour, cX7_isColour, 1, (some .boolean), rm_X7_isColour, m_X7_isColour l, rfl, rfl, by decide, zTb_in 258 (by decide +kernel) (by decide +kernel), k_X7_isColour⟩,
  List.forall_mem_cons.mpr ⟨Or.inl ⟨yX7_isRight, cX7_isRight, 1, (some .boolean), rm_X7_isRight, m_X7_isRight l, rfl, rfl, by decide, zTb_in 261 (by decide +kernel) (by decide +kernel), k_X7_isRight⟩,
  List.forall_mem_cons.mpr ⟨Or.inl ⟨yX6_bent, cX6_bent, 6, (some .int), rm_X6_bent, m_X6_bent l, rfl, rfl, by decide, zTb_in 264 (by decide +kernel) (by decide +kernel), k_X6_bent⟩,
  fun _ h => absurd h List.not_mem_nil⟩⟩⟩⟩) (Or.inr rfl)
theorem k_X7_inside : Cond.code yX7_inside cX7_inside 4 (some .int) ∈ zTb ∧ Cond.initialized yX7_inside.cls ∈ zTb ∧ (yX7_inside.cls ≠ "java/lang/invoke/MethodHandle" ∧ yX7_inside.cls ≠ "java/lang/invoke/VarHandle") ∧ Cond.instanceMethod yX7_inside ∈ zTb ∧ Cond.selects yX7_inside.cls yX7_inside yX7_inside ∈ zTb ∧ (∃ (T : u_T) (N : Nat), vwCl[7]? = some (yX7_inside.cls, T, N)) ∧ (parseMethodDescriptor yX7_inside.desc).map (fun d => d.parameters.length + 1) = some 4 := ⟨zTb_in 257 (by decide +kernel) (by decide +kernel), zTb_in 35 (by decide +kernel) (by decide +kernel), by decide, zTb_in 255 (by decide +kernel) (by decide +kernel), zTb_in 256 (by decide +kernel) (by decide +kernel), ⟨_, _, rfl⟩, by decide +kernel⟩
def zd_X7_outside : List zI := [(0, .iload_n 1, 1), (1, .iconst 0, 1), (2, .iconst 2, 1), (3, .invokestatic 63, 3), (6, .ifCond .eq 17, 3), (9, .iload_n 2, 1), (10, .invokestatic 81, 3), (13, .ifCond .eq 10, 3), (16, .iload_n 3, 1), (17, .invokestatic 85, 3), (20, .ifCond .ne 5, 3), (23, .iconst (-1), 1), (24, .ireturn, 1), (25, .aload_n 0, 1), (26, .getfield 12, 3), (29, .iload_n 1, 1), (30, .iload_n 2, 1), (31, .iload_n 3, 1), (32, .invokevirtual 91, 3), (35, .ireturn, 1)]
def M_X7_outside : zM := (zd_X7_outside, zfX7, zgX7, znX7, zoX7, [(63, 3, 1, none, R_X7_within), (81, 1, 1, none, R_X7_isColour), (85, 1, 1, none, R_X7_isRight), (91, 4, 1, some 6, R_X6_unbent)], [])
def R_X7_outside : zRel := zR M_X7_outside 4 (some .int)
def rm_X7_outside : Room := { frames := 2, cells := 0, slots := 0, locals := 51 }
theorem dd_X7_outside : ∀ q ∈ zd_X7_outside, decode cX7_outside q.1 = .ok (q.2.1, q.2.2) := by decide +kernel
theorem m_X7_outside (l : Launch) : zMet l yX7_outside cX7_outside 4 (some .int) rm_X7_outside R_X7_outside := z_met (M := M_X7_outside) (plainFor_of_name (by decide)) dd_X7_outside (by decide +kernel) rfl zfX7_ok zgX7_ok znX7_ok zoX7_ok (List.forall_mem_cons.mpr ⟨Or.inl ⟨yX7_within, cX7_within, 3, (some .boolean), rm_X7_within, m_X7_within l, rfl, rfl, by decide, zTb_in 238 (by decide +kernel) (by decide +kernel), k_X7_within⟩,
  List.forall_mem_cons.mpr ⟨Or.inl ⟨yX7_isColour, cX7_isColour, 1, (some .boolean), rm_X7_isColour, m_X7_isColour l, rfl, rfl, by decide, zTb_in 258 (by decide +kernel) (by decide +kernel), k_X7_isColour⟩,
  List.forall_mem_cons.mpr ⟨Or.inl ⟨yX7_isRight, cX7_isRight, 1, (some .boolean), rm_X7_isRight, m_X7_isRight l, rfl, rfl, by decide, zTb_in 261 (by decide +kernel) (by decide +kernel), k_X7_isRight⟩,
  List.forall_mem_cons.mpr ⟨Or.inl ⟨yX6_unbent, cX6_unbent, 7, (some .int), rm_X6_unbent, m_X6_unbent l, rfl, rfl, by decide, zTb_in 272 (by decide +kernel) (by decide +kernel), k_X6_unbent⟩,
  fun _ h => absurd h List.not_mem_nil⟩⟩⟩⟩) (Or.inr rfl)
theorem k_X7_outside : Cond.code yX7_outside cX7_outside 4 (some .int) ∈ zTb ∧ Cond.initialized yX7_outside.cls ∈ zTb ∧ (yX7_outside.cls ≠ "java/lang/invoke/MethodHandle" ∧ yX7_outside.cls ≠ "java/lang/invoke/VarHandle") ∧ Cond.instanceMethod yX7_outside ∈ zTb ∧ Cond.selects yX7_outside.cls yX7_outside yX7_outside ∈ zTb ∧ (∃ (T : u_T) (N : Nat), vwCl[7]? = some (yX7_outside.cls, T, N)) ∧ (parseMethodDescriptor yX7_outside.desc).map (fun d => d.parameters.length + 1) = some 4 := ⟨zTb_in 271 (by decide +kernel) (by decide +kernel), zTb_in 35 (by decide +kernel) (by decide +kernel), by decide, zTb_in 269 (by decide +kernel) (by decide +kernel), zTb_in 270 (by decide +kernel) (by decide +kernel), ⟨_, _, rfl⟩, by decide +kernel⟩
def zd_X7_isMirrors : List zI := [(0, .iload_n 0, 1), (1, .iconst 0, 1), (2, .iconst 5, 1), (3, .invokestatic 63, 3), (6, .ireturn, 1)]
def M_X7_isMirrors : zM := (zd_X7_isMirrors, zfX7, zgX7, znX7, zoX7, [(63, 3, 1, none, R_X7_within)], [])
def R_X7_isMirrors : zRel := zR M_X7_isMirrors 1 (some .boolean)
def rm_X7_isMirrors : Room := { frames := 1, cells := 0, slots := 0, locals := 22 }
theorem dd_X7_isMirrors : ∀ q ∈ zd_X7_isMirrors, decode cX7_isMirrors q.1 = .ok (q.2.1, q.2.2) := by decide +kernel
theorem m_X7_isMirrors (l : Launch) : zMet l yX7_isMirrors cX7_isMirrors 1 (some .boolean) rm_X7_isMirrors R_X7_isMirrors := z_met (M := M_X7_isMirrors) (plainFor_of_name (by decide)) dd_X7_isMirrors (by decide +kernel) rfl zfX7_ok zgX7_ok znX7_ok zoX7_ok (List.forall_mem_cons.mpr ⟨Or.inl ⟨yX7_within, cX7_within, 3, (some .boolean), rm_X7_within, m_X7_within l, rfl, rfl, by decide, zTb_in 238 (by decide +kernel) (by decide +kernel), k_X7_within⟩,
  fun _ h => absurd h List.not_mem_nil⟩) (Or.inr rfl)
theorem k_X7_isMirrors : Cond.code yX7_isMirrors cX7_isMirrors 1 (some .boolean) ∈ zTb ∧ Cond.initialized yX7_isMirrors.cls ∈ zTb ∧ (yX7_isMirrors.cls ≠ "java/lang/invoke/MethodHandle" ∧ yX7_isMirrors.cls ≠ "java/lang/invoke/VarHandle") ∧ Cond.static yX7_isMirrors ∈ zTb ∧ (parseMethodDescriptor yX7_isMirrors.desc).map (fun d => d.parameters.length) = some 1 := ⟨zTb_in 283 (by decide +kernel) (by decide +kernel), zTb_in 35 (by decide +kernel) (by decide +kernel), by decide, zTb_in 282 (by decide +kernel) (by decide +kernel), by decide +kernel⟩
def zd_X7_ray : List zI := [(0, .iload_n 1, 1), (1, .invokestatic 94, 3), (4, .ifCond .eq 27, 3), (7, .iload_n 2, 1), (8, .invokestatic 81, 3), (11, .ifCond .eq 20, 3), (14, .iload_n 3, 1), (15, .invokestatic 85, 3), (18, .ifCond .eq 13, 3), (21, .iload 4, 2), (23, .iconst 0, 1), (24, .iconst 4, 1), (25, .invokestatic 63, 3), (28, .ifCond .ne 6, 3), (31, .ldc 97, 2), (33, .ireturn, 1), (34, .iload 4, 2), (36, .tableswitch 73 0 3 #[32, 43, 54, 63], 32), (68, .aload_n 0, 1), (69, .getfield 29, 3), (72, .iload_n 1, 1), (73, .iload_n 2, 1), (74, .iload_n 3, 1), (75, .invokevirtual 98, 3), (78, .ireturn, 1), (79, .aload_n 0, 1), (80, .getfield 29, 3), (83, .iload_n 1, 1), (84, .iload_n 2, 1), (85, .iload_n 3, 1), (86, .invokevirtual 101, 3), (89, .ireturn, 1), (90, .aload_n 0, 1), (91, .getfield 29, 3), (94, .iload_n 3, 1), (95, .invokevirtual 104, 3), (98, .ireturn, 1), (99, .aload_n 0, 1), (100, .getfield 29, 3), (103, .iload_n 1, 1), (104, .iload_n 3, 1), (105, .invokevirtual 108, 3), (108, .ireturn, 1), (109, .aload_n 0, 1), (110, .getfield 29, 3), (113, .iload_n 3, 1), (114, .invokevirtual 104, 3), (117, .aload_n 0, 1), (118, .getfield 29, 3), (121, .iload_n 1, 1), (122, .iload_n 3, 1), (123, .invokevirtual 108, 3), (126, .isub, 1), (127, .ireturn, 1)]
def M_X7_ray : zM := (zd_X7_ray, zfX7, zgX7, znX7, zoX7, [(94, 1, 1, none, R_X7_isMirrors), (81, 1, 1, none, R_X7_isColour), (85, 1, 1, none, R_X7_isRight), (63, 3, 1, none, R_X7_within), (98, 4, 1, some 3, R_X3_turnOf), (101, 4, 1, some 3, R_X3_fromSun), (104, 2, 1, some 3, R_X3_lightIn), (108, 3, 1, some 3, R_X3_lightOut)], [])
def R_X7_ray : zRel := zR M_X7_ray 5 (some .int)
def rm_X7_ray : Room := { frames := 3, cells := 0, slots := 0, locals := 73 }
theorem dd_X7_ray : ∀ q ∈ zd_X7_ray, decode cX7_ray q.1 = .ok (q.2.1, q.2.2) := by decide +kernel
theorem m_X7_ray (l : Launch) : zMet l yX7_ray cX7_ray 5 (some .int) rm_X7_ray R_X7_ray := z_met (M := M_X7_ray) (plainFor_of_name (by decide)) dd_X7_ray (by decide +kernel) rfl zfX7_ok zgX7_ok znX7_ok zoX7_ok (List.forall_mem_cons.mpr ⟨Or.inl ⟨yX7_isMirrors, cX7_isMirrors, 1, (some .boolean), rm_X7_isMirrors, m_X7_isMirrors l, rfl, rfl, by decide, zTb_in 281 (by decide +kernel) (by decide +kernel), k_X7_isMirrors⟩,
  List.forall_mem_cons.mpr ⟨Or.inl ⟨yX7_isColour, cX7_isColour, 1, (some .boolean), rm_X7_isColour, m_X7_isColour l, rfl, rfl, by decide, zTb_in 258 (by decide +kernel) (by decide +kernel), k_X7_isColour⟩,
  List.forall_mem_cons.mpr ⟨Or.inl ⟨yX7_isRight, cX7_isRight, 1, (some .boolean), rm_X7_isRight, m_X7_isRight l, rfl, rfl, by decide, zTb_in 261 (by decide +kernel) (by decide +kernel), k_X7_isRight⟩,
  List.forall_mem_cons.mpr ⟨Or.inl ⟨yX7_within, cX7_within, 3, (some .boolean), rm_X7_within, m_X7_within l, rfl, rfl, by decide, zTb_in 238 (by decide +kernel) (by decide +kernel), k_X7_within⟩,
  List.forall_mem_cons.mpr ⟨Or.inl ⟨yX3_turnOf, cX3_turnOf, 5, (some .int), rm_X3_turnOf, m_X3_turnOf l, rfl, rfl, by decide, zTb_in 285 (by decide +kernel) (by decide +kernel), k_X3_turnOf⟩,
  List.forall_mem_cons.mpr ⟨Or.inl ⟨yX3_fromSun, cX3_fromSun, 5, (some .int), rm_X3_fromSun, m_X3_fromSun l, rfl, rfl, by decide, zTb_in 290 (by decide +kernel) (by decide +kernel), k_X3_fromSun⟩,
  List.forall_mem_cons.mpr ⟨Or.inl ⟨yX3_lightIn, cX3_lightIn, 2, (some .int), rm_X3_lightIn, m_X3_lightIn l, rfl, rfl, by decide, zTb_in 298 (by decide +kernel) (by decide +kernel), k_X3_lightIn⟩,
  List.forall_mem_cons.mpr ⟨Or.inl ⟨yX3_lightOut, cX3_lightOut, 5, (some .int), rm_X3_lightOut, m_X3_lightOut l, rfl, rfl, by decide, zTb_in 302 (by decide +kernel) (by decide +kernel), k_X3_lightOut⟩,
  fun _ h => absurd h List.not_mem_nil⟩⟩⟩⟩⟩⟩⟩⟩) (Or.inr rfl)
theorem k_X7_ray : Cond.code yX7_ray cX7_ray 5 (some .int) ∈ zTb ∧ Cond.initialized yX7_ray.cls ∈ zTb ∧ (yX7_ray.cls ≠ "java/lang/invoke/MethodHandle" ∧ yX7_ray.cls ≠ "java/lang/invoke/VarHandle") ∧ Cond.instanceMethod yX7_ray ∈ zTb ∧ Cond.selects yX7_ray.cls yX7_ray yX7_ray ∈ zTb ∧ (∃ (T : u_T) (N : Nat), vwCl[7]? = some (yX7_ray.cls, T, N)) ∧ (parseMethodDescriptor yX7_ray.desc).map (fun d => d.parameters.length + 1) = some 5 := ⟨zTb_in 280 (by decide +kernel) (by decide +kernel), zTb_in 35 (by decide +kernel) (by decide +kernel), by decide, zTb_in 278 (by decide +kernel) (by decide +kernel), zTb_in 279 (by decide +kernel) (by decide +kernel), ⟨_, _, rfl⟩, by decide +kernel⟩
def zd_X7_map : List zI := [(0, .iload_n 1, 1), (1, .invokestatic 94, 3), (4, .ifCond .eq 21, 3), (7, .iload_n 2, 1), (8, .invokestatic 81, 3), (11, .ifCond .eq 14, 3), (14, .iload_n 3, 1), (15, .iconst 0, 1), (16, .sipush 180, 3), (19, .invokestatic 63, 3), (22, .ifCond .ne 7, 3), (25, .ldc2_w 112, 3), (28, .lreturn, 1), (29, .aload_n 0, 1), (30, .getfield 29, 3), (33, .aload_n 0, 1), (34, .getfield 29, 3), (37, .getfield 114, 3), (40, .iload_n 1, 1), (41, .iload_n 2, 1), (42, .invokevirtual 118, 3), (45, .aload_n 0, 1), (46, .getfield 29, 3), (49, .getfield 114, 3), (52, .iload_n 3, 1), (53, .laload, 1), (54, .lreturn, 1)]
def M_X7_map : zM := (zd_X7_map, zfX7, zgX7, znX7, zoX7, [(94, 1, 1, none, R_X7_isMirrors), (81, 1, 1, none, R_X7_isColour), (63, 3, 1, none, R_X7_within), (118, 4, 0, some 3, R_X3_fillSky)], [])
def R_X7_map : zRel := zR M_X7_map 4 (some .long)
def rm_X7_map : Room := { frames := 4, cells := 0, slots := 0, locals := 97 }
theorem dd_X7_map : ∀ q ∈ zd_X7_map, decode cX7_map q.1 = .ok (q.2.1, q.2.2) := by decide +kernel
theorem m_X7_map (l : Launch) : zMet l yX7_map cX7_map 4 (some .long) rm_X7_map R_X7_map := z_met (M := M_X7_map) (plainFor_of_name (by decide)) dd_X7_map (by decide +kernel) rfl zfX7_ok zgX7_ok znX7_ok zoX7_ok (List.forall_mem_cons.mpr ⟨Or.inl ⟨yX7_isMirrors, cX7_isMirrors, 1, (some .boolean), rm_X7_isMirrors, m_X7_isMirrors l, rfl, rfl, by decide, zTb_in 281 (by decide +kernel) (by decide +kernel), k_X7_isMirrors⟩,
  List.forall_mem_cons.mpr ⟨Or.inl ⟨yX7_isColour, cX7_isColour, 1, (some .boolean), rm_X7_isColour, m_X7_isColour l, rfl, rfl, by decide, zTb_in 258 (by decide +kernel) (by decide +kernel), k_X7_isColour⟩,
  List.forall_mem_cons.mpr ⟨Or.inl ⟨yX7_within, cX7_within, 3, (some .boolean), rm_X7_within, m_X7_within l, rfl, rfl, by decide, zTb_in 238 (by decide +kernel) (by decide +kernel), k_X7_within⟩,
  List.forall_mem_cons.mpr ⟨Or.inl ⟨yX3_fillSky, cX3_fillSky, 5, none, rm_X3_fillSky, m_X3_fillSky l, rfl, rfl, by decide, zTb_in 316 (by decide +kernel) (by decide +kernel), k_X3_fillSky⟩,
  fun _ h => absurd h List.not_mem_nil⟩⟩⟩⟩) (Or.inr rfl)
theorem k_X7_map : Cond.code yX7_map cX7_map 4 (some .long) ∈ zTb ∧ Cond.initialized yX7_map.cls ∈ zTb ∧ (yX7_map.cls ≠ "java/lang/invoke/MethodHandle" ∧ yX7_map.cls ≠ "java/lang/invoke/VarHandle") ∧ Cond.instanceMethod yX7_map ∈ zTb ∧ Cond.selects yX7_map.cls yX7_map yX7_map ∈ zTb ∧ (∃ (T : u_T) (N : Nat), vwCl[7]? = some (yX7_map.cls, T, N)) ∧ (parseMethodDescriptor yX7_map.desc).map (fun d => d.parameters.length + 1) = some 4 := ⟨zTb_in 314 (by decide +kernel) (by decide +kernel), zTb_in 35 (by decide +kernel) (by decide +kernel), by decide, zTb_in 312 (by decide +kernel) (by decide +kernel), zTb_in 313 (by decide +kernel) (by decide +kernel), ⟨_, _, rfl⟩, by decide +kernel⟩
def zd_X7_bow : List zI := [(0, .iload_n 1, 1), (1, .invokestatic 94, 3), (4, .ifCond .eq 27, 3), (7, .iload_n 2, 1), (8, .invokestatic 81, 3), (11, .ifCond .eq 20, 3), (14, .iload_n 3, 1), (15, .invokestatic 85, 3), (18, .ifCond .eq 13, 3), (21, .iload 4, 2), (23, .iconst 0, 1), (24, .iconst 2, 1), (25, .invokestatic 63, 3), (28, .ifCond .ne 6, 3), (31, .ldc 122, 2), (33, .ireturn, 1), (34, .aload_n 0, 1), (35, .getfield 29, 3), (38, .aload_n 0, 1), (39, .getfield 29, 3), (42, .getfield 114, 3), (45, .iload_n 1, 1), (46, .iload_n 2, 1), (47, .invokevirtual 118, 3), (50, .aload_n 0, 1), (51, .getfield 29, 3), (54, .aload_n 0, 1), (55, .getfield 29, 3), (58, .getfield 114, 3), (61, .invokevirtual 123, 3), (64, .istore 5, 2), (66, .iload 4, 2), (68, .iconst 2, 1), (69, .if_icmp .ne 36, 3), (72, .sipush 1800, 3), (75, .bipush 10, 2), (77, .iload 5, 2), (79, .imul, 1), (80, .isub, 1), (81, .iload_n 3, 1), (82, .isub, 1), (83, .istore 6, 2), (85, .iload 5, 2), (87, .bipush (-4), 2), (89, .if_icmp .eq 8, 3), (92, .iload 6, 2), (94, .ifCond .ge 8, 3), (97, .ldc 97, 2), (99, .goto 5, 3), (102, .iload 6, 2), (104, .ireturn, 1), (105, .iload 5, 2), (107, .bipush (-4), 2), (109, .if_icmp .eq 8, 3), (112, .iload 4, 2), (114, .ifCond .ne 8, 3), (117, .iload 5, 2), (119, .goto 19, 3), (122, .aload_n 0, 1), (123, .getfield 29, 3), (126, .aload_n 0, 1), (127, .getfield 29, 3), (130, .getfield 114, 3), (133, .iload 5, 2), (135, .invokevirtual 127, 3), (138, .ireturn, 1)]
def M_X7_bow : zM := (zd_X7_bow, zfX7, zgX7, znX7, zoX7, [(94, 1, 1, none, R_X7_isMirrors), (81, 1, 1, none, R_X7_isColour), (85, 1, 1, none, R_X7_isRight), (63, 3, 1, none, R_X7_within), (118, 4, 0, some 3, R_X3_fillSky), (123, 2, 1, some 3, R_X3_brightest), (127, 3, 1, some 3, R_X3_broad)], [])
def R_X7_bow : zRel := zR M_X7_bow 7 (some .int)
def rm_X7_bow : Room := { frames := 4, cells := 0, slots := 0, locals := 97 }
theorem dd_X7_bow : ∀ q ∈ zd_X7_bow, decode cX7_bow q.1 = .ok (q.2.1, q.2.2) := by decide +kernel
theorem m_X7_bow (l : Launch) : zMet l yX7_bow cX7_bow 7 (some .int) rm_X7_bow R_X7_bow := z_met (M := M_X7_bow) (plainFor_of_name (by decide)) dd_X7_bow (by decide +kernel) rfl zfX7_ok zgX7_ok znX7_ok zoX7_ok (List.forall_mem_cons.mpr ⟨Or.inl ⟨yX7_isMirrors, cX7_isMirrors, 1, (some .boolean), rm_X7_isMirrors, m_X7_isMirrors l, rfl, rfl, by decide, zTb_in 281 (by decide +kernel) (by decide +kernel), k_X7_isMirrors⟩,
  List.forall_mem_cons.mpr ⟨Or.inl ⟨yX7_isColour, cX7_isColour, 1, (some .boolean), rm_X7_isColour, m_X7_isColour l, rfl, rfl, by decide, zTb_in 258 (by decide +kernel) (by decide +kernel), k_X7_isColour⟩,
  List.forall_mem_cons.mpr ⟨Or.inl ⟨yX7_isRight, cX7_isRight, 1, (some .boolean), rm_X7_isRight, m_X7_isRight l, rfl, rfl, by decide, zTb_in 261 (by decide +kernel) (by decide +kernel), k_X7_isRight⟩,
  List.forall_mem_cons.mpr ⟨Or.inl ⟨yX7_within, cX7_within, 3, (some .boolean), rm_X7_within, m_X7_within l, rfl, rfl, by decide, zTb_in 238 (by decide +kernel) (by decide +kernel), k_X7_within⟩,
  List.forall_mem_cons.mpr ⟨Or.inl ⟨yX3_fillSky, cX3_fillSky, 5, none, rm_X3_fillSky, m_X3_fillSky l, rfl, rfl, by decide, zTb_in 316 (by decide +kernel) (by decide +kernel), k_X3_fillSky⟩,
  List.forall_mem_cons.mpr ⟨Or.inl ⟨yX3_brightest, cX3_brightest, 4, (some .int), rm_X3_brightest, m_X3_brightest l, rfl, rfl, by decide, zTb_in 330 (by decide +kernel) (by decide +kernel), k_X3_brightest⟩,
  List.forall_mem_cons.mpr ⟨Or.inl ⟨yX3_broad, cX3_broad, 5, (some .int), rm_X3_broad, m_X3_broad l, rfl, rfl, by decide, zTb_in 334 (by decide +kernel) (by decide +kernel), k_X3_broad⟩,
  fun _ h => absurd h List.not_mem_nil⟩⟩⟩⟩⟩⟩⟩) (Or.inr rfl)
theorem k_X7_bow : Cond.code yX7_bow cX7_bow 7 (some .int) ∈ zTb ∧ Cond.initialized yX7_bow.cls ∈ zTb ∧ (yX7_bow.cls ≠ "java/lang/invoke/MethodHandle" ∧ yX7_bow.cls ≠ "java/lang/invoke/VarHandle") ∧ Cond.instanceMethod yX7_bow ∈ zTb ∧ Cond.selects yX7_bow.cls yX7_bow yX7_bow ∈ zTb ∧ (∃ (T : u_T) (N : Nat), vwCl[7]? = some (yX7_bow.cls, T, N)) ∧ (parseMethodDescriptor yX7_bow.desc).map (fun d => d.parameters.length + 1) = some 5 := ⟨zTb_in 328 (by decide +kernel) (by decide +kernel), zTb_in 35 (by decide +kernel) (by decide +kernel), by decide, zTb_in 326 (by decide +kernel) (by decide +kernel), zTb_in 327 (by decide +kernel) (by decide +kernel), ⟨_, _, rfl⟩, by decide +kernel⟩
def zd_X7_dark : List zI := [(0, .iload_n 1, 1), (1, .invokestatic 94, 3), (4, .ifCond .eq 15, 3), (7, .iload_n 2, 1), (8, .invokestatic 94, 3), (11, .ifCond .eq 8, 3), (14, .iload_n 1, 1), (15, .iload_n 2, 1), (16, .if_icmp .ne 5, 3), (19, .iconst (-1), 1), (20, .ireturn, 1), (21, .aload_n 0, 1), (22, .getfield 29, 3), (25, .iload_n 1, 1), (26, .iload_n 2, 1), (27, .invokevirtual 131, 3), (30, .ireturn, 1)]
def M_X7_dark : zM := (zd_X7_dark, zfX7, zgX7, znX7, zoX7, [(94, 1, 1, none, R_X7_isMirrors), (131, 3, 1, some 3, R_X3_widestDark)], [])
def R_X7_dark : zRel := zR M_X7_dark 3 (some .int)
def rm_X7_dark : Room := { frames := 5, cells := 0, slots := 0, locals := 124 }
theorem dd_X7_dark : ∀ q ∈ zd_X7_dark, decode cX7_dark q.1 = .ok (q.2.1, q.2.2) := by decide +kernel
theorem m_X7_dark (l : Launch) : zMet l yX7_dark cX7_dark 3 (some .int) rm_X7_dark R_X7_dark := z_met (M := M_X7_dark) (plainFor_of_name (by decide)) dd_X7_dark (by decide +kernel) rfl zfX7_ok zgX7_ok znX7_ok zoX7_ok (List.forall_mem_cons.mpr ⟨Or.inl ⟨yX7_isMirrors, cX7_isMirrors, 1, (some .boolean), rm_X7_isMirrors, m_X7_isMirrors l, rfl, rfl, by decide, zTb_in 281 (by decide +kernel) (by decide +kernel), k_X7_isMirrors⟩,
  List.forall_mem_cons.mpr ⟨Or.inl ⟨yX3_widestDark, cX3_widestDark, 8, (some .int), rm_X3_widestDark, m_X3_widestDark l, rfl, rfl, by decide, zTb_in 343 (by decide +kernel) (by decide +kernel), k_X3_widestDark⟩,
  fun _ h => absurd h List.not_mem_nil⟩⟩) (Or.inr rfl)
theorem k_X7_dark : Cond.code yX7_dark cX7_dark 3 (some .int) ∈ zTb ∧ Cond.initialized yX7_dark.cls ∈ zTb ∧ (yX7_dark.cls ≠ "java/lang/invoke/MethodHandle" ∧ yX7_dark.cls ≠ "java/lang/invoke/VarHandle") ∧ Cond.instanceMethod yX7_dark ∈ zTb ∧ Cond.selects yX7_dark.cls yX7_dark yX7_dark ∈ zTb ∧ (∃ (T : u_T) (N : Nat), vwCl[7]? = some (yX7_dark.cls, T, N)) ∧ (parseMethodDescriptor yX7_dark.desc).map (fun d => d.parameters.length + 1) = some 3 := ⟨zTb_in 342 (by decide +kernel) (by decide +kernel), zTb_in 35 (by decide +kernel) (by decide +kernel), by decide, zTb_in 340 (by decide +kernel) (by decide +kernel), zTb_in 341 (by decide +kernel) (by decide +kernel), ⟨_, _, rfl⟩, by decide +kernel⟩
def zd_X7_wedge : List zI := [(0, .iload_n 1, 1), (1, .iconst 0, 1), (2, .iconst 3, 1), (3, .invokestatic 63, 3), (6, .ifCond .eq 16, 3), (9, .iload_n 2, 1), (10, .sipush 200, 3), (13, .sipush 1200, 3), (16, .invokestatic 63, 3), (19, .ifCond .ne 5, 3), (22, .iconst (-1), 1), (23, .ireturn, 1), (24, .aload_n 0, 1), (25, .getfield 12, 3), (28, .iload_n 1, 1), (29, .iload_n 2, 1), (30, .invokevirtual 134, 3), (33, .ireturn, 1)]
def M_X7_wedge : zM := (zd_X7_wedge, zfX7, zgX7, znX7, zoX7, [(63, 3, 1, none, R_X7_within), (134, 3, 1, some 6, R_X6_addWedge)], [])
def R_X7_wedge : zRel := zR M_X7_wedge 3 (some .int)
def rm_X7_wedge : Room := { frames := 2, cells := 0, slots := 0, locals := 46 }
theorem dd_X7_wedge : ∀ q ∈ zd_X7_wedge, decode cX7_wedge q.1 = .ok (q.2.1, q.2.2) := by decide +kernel
theorem m_X7_wedge (l : Launch) : zMet l yX7_wedge cX7_wedge 3 (some .int) rm_X7_wedge R_X7_wedge := z_met (M := M_X7_wedge) (plainFor_of_name (by decide)) dd_X7_wedge (by decide +kernel) rfl zfX7_ok zgX7_ok znX7_ok zoX7_ok (List.forall_mem_cons.mpr ⟨Or.inl ⟨yX7_within, cX7_within, 3, (some .boolean), rm_X7_within, m_X7_within l, rfl, rfl, by decide, zTb_in 238 (by decide +kernel) (by decide +kernel), k_X7_within⟩,
  List.forall_mem_cons.mpr ⟨Or.inl ⟨yX6_addWedge, cX6_addWedge, 4, (some .int), rm_X6_addWedge, m_X6_addWedge l, rfl, rfl, by decide, zTb_in 359 (by decide +kernel) (by decide +kernel), k_X6_addWedge⟩,
  fun _ h => absurd h List.not_mem_nil⟩⟩) (Or.inr rfl)
theorem k_X7_wedge : Cond.code yX7_wedge cX7_wedge 3 (some .int) ∈ zTb ∧ Cond.initialized yX7_wedge.cls ∈ zTb ∧ (yX7_wedge.cls ≠ "java/lang/invoke/MethodHandle" ∧ yX7_wedge.cls ≠ "java/lang/invoke/VarHandle") ∧ Cond.instanceMethod yX7_wedge ∈ zTb ∧ Cond.selects yX7_wedge.cls yX7_wedge yX7_wedge ∈ zTb ∧ (∃ (T : u_T) (N : Nat), vwCl[7]? = some (yX7_wedge.cls, T, N)) ∧ (parseMethodDescriptor yX7_wedge.desc).map (fun d => d.parameters.length + 1) = some 3 := ⟨zTb_in 358 (by decide +kernel) (by decide +kernel), zTb_in 35 (by decide +kernel) (by decide +kernel), by decide, zTb_in 356 (by decide +kernel) (by decide +kernel), zTb_in 357 (by decide +kernel) (by decide +kernel), ⟨_, _, rfl⟩, by decide +kernel⟩
def zd_X7_noWedges : List zI := [(0, .iload_n 1, 1), (1, .iconst 0, 1), (2, .iconst 3, 1), (3, .invokestatic 63, 3), (6, .ifCond .ne 5, 3), (9, .iconst (-1), 1), (10, .ireturn, 1), (11, .aload_n 0, 1), (12, .getfield 12, 3), (15, .getfield 137, 3), (18, .iload_n 1, 1), (19, .iaload, 1), (20, .istore_n 2, 1), (21, .aload_n 0, 1), (22, .getfield 12, 3), (25, .getfield 137, 3), (28, .iload_n 1, 1), (29, .iconst 0, 1), (30, .iastore, 1), (31, .iload_n 2, 1), (32, .ireturn, 1)]
def M_X7_noWedges : zM := (zd_X7_noWedges, zfX7, zgX7, znX7, zoX7, [(63, 3, 1, none, R_X7_within)], [])
def R_X7_noWedges : zRel := zR M_X7_noWedges 3 (some .int)
def rm_X7_noWedges : Room := { frames := 1, cells := 0, slots := 0, locals := 22 }
theorem dd_X7_noWedges : ∀ q ∈ zd_X7_noWedges, decode cX7_noWedges q.1 = .ok (q.2.1, q.2.2) := by decide +kernel
theorem m_X7_noWedges (l : Launch) : zMet l yX7_noWedges cX7_noWedges 3 (some .int) rm_X7_noWedges R_X7_noWedges := z_met (M := M_X7_noWedges) (plainFor_of_name (by decide)) dd_X7_noWedges (by decide +kernel) rfl zfX7_ok zgX7_ok znX7_ok zoX7_ok (List.forall_mem_cons.mpr ⟨Or.inl ⟨yX7_within, cX7_within, 3, (some .boolean), rm_X7_within, m_X7_within l, rfl, rfl, by decide, zTb_in 238 (by decide +kernel) (by decide +kernel), k_X7_within⟩,
  fun _ h => absurd h List.not_mem_nil⟩) (Or.inr rfl)
theorem k_X7_noWedges : Cond.code yX7_noWedges cX7_noWedges 3 (some .int) ∈ zTb ∧ Cond.initialized yX7_noWedges.cls ∈ zTb ∧ (yX7_noWedges.cls ≠ "java/lang/invoke/MethodHandle" ∧ yX7_noWedges.cls ≠ "java/lang/invoke/VarHandle") ∧ Cond.instanceMethod yX7_noWedges ∈ zTb ∧ Cond.selects yX7_noWedges.cls yX7_noWedges yX7_noWedges ∈ zTb ∧ (∃ (T : u_T) (N : Nat), vwCl[7]? = some (yX7_noWedges.cls, T, N)) ∧ (parseMethodDescriptor yX7_noWedges.desc).map (fun d => d.parameters.length + 1) = some 2 := ⟨zTb_in 370 (by decide +kernel) (by decide +kernel), zTb_in 35 (by decide +kernel) (by decide +kernel), by decide, zTb_in 368 (by decide +kernel) (by decide +kernel), zTb_in 369 (by decide +kernel) (by decide +kernel), ⟨_, _, rfl⟩, by decide +kernel⟩
def zd_X7_turned : List zI := [(0, .iload_n 1, 1), (1, .sipush 200, 3), (4, .sipush 1200, 3), (7, .invokestatic 63, 3), (10, .ifCond .eq 17, 3), (13, .iload_n 2, 1), (14, .invokestatic 81, 3), (17, .ifCond .eq 10, 3), (20, .iload_n 3, 1), (21, .invokestatic 85, 3), (24, .ifCond .ne 6, 3), (27, .ldc 97, 2), (29, .ireturn, 1), (30, .aload_n 0, 1), (31, .getfield 36, 3), (34, .iload_n 1, 1), (35, .iload_n 2, 1), (36, .iload_n 3, 1), (37, .invokevirtual 140, 3), (40, .ireturn, 1)]
def M_X7_turned : zM := (zd_X7_turned, zfX7, zgX7, znX7, zoX7, [(63, 3, 1, none, R_X7_within), (81, 1, 1, none, R_X7_isColour), (85, 1, 1, none, R_X7_isRight), (140, 4, 1, some 4, R_X4_turnOf)], [])
def R_X7_turned : zRel := zR M_X7_turned 4 (some .int)
def rm_X7_turned : Room := { frames := 3, cells := 0, slots := 0, locals := 76 }
theorem dd_X7_turned : ∀ q ∈ zd_X7_turned, decode cX7_turned q.1 = .ok (q.2.1, q.2.2) := by decide +kernel
theorem m_X7_turned (l : Launch) : zMet l yX7_turned cX7_turned 4 (some .int) rm_X7_turned R_X7_turned := z_met (M := M_X7_turned) (plainFor_of_name (by decide)) dd_X7_turned (by decide +kernel) rfl zfX7_ok zgX7_ok znX7_ok zoX7_ok (List.forall_mem_cons.mpr ⟨Or.inl ⟨yX7_within, cX7_within, 3, (some .boolean), rm_X7_within, m_X7_within l, rfl, rfl, by decide, zTb_in 238 (by decide +kernel) (by decide +kernel), k_X7_within⟩,
  List.forall_mem_cons.mpr ⟨Or.inl ⟨yX7_isColour, cX7_isColour, 1, (some .boolean), rm_X7_isColour, m_X7_isColour l, rfl, rfl, by decide, zTb_in 258 (by decide +kernel) (by decide +kernel), k_X7_isColour⟩,
  List.forall_mem_cons.mpr ⟨Or.inl ⟨yX7_isRight, cX7_isRight, 1, (some .boolean), rm_X7_isRight, m_X7_isRight l, rfl, rfl, by decide, zTb_in 261 (by decide +kernel) (by decide +kernel), k_X7_isRight⟩,
  List.forall_mem_cons.mpr ⟨Or.inl ⟨yX4_turnOf, cX4_turnOf, 6, (some .int), rm_X4_turnOf, m_X4_turnOf l, rfl, rfl, by decide, zTb_in 375 (by decide +kernel) (by decide +kernel), k_X4_turnOf⟩,
  fun _ h => absurd h List.not_mem_nil⟩⟩⟩⟩) (Or.inr rfl)
theorem k_X7_turned : Cond.code yX7_turned cX7_turned 4 (some .int) ∈ zTb ∧ Cond.initialized yX7_turned.cls ∈ zTb ∧ (yX7_turned.cls ≠ "java/lang/invoke/MethodHandle" ∧ yX7_turned.cls ≠ "java/lang/invoke/VarHandle") ∧ Cond.instanceMethod yX7_turned ∈ zTb ∧ Cond.selects yX7_turned.cls yX7_turned yX7_turned ∈ zTb ∧ (∃ (T : u_T) (N : Nat), vwCl[7]? = some (yX7_turned.cls, T, N)) ∧ (parseMethodDescriptor yX7_turned.desc).map (fun d => d.parameters.length + 1) = some 4 := ⟨zTb_in 374 (by decide +kernel) (by decide +kernel), zTb_in 35 (by decide +kernel) (by decide +kernel), by decide, zTb_in 372 (by decide +kernel) (by decide +kernel), zTb_in 373 (by decide +kernel) (by decide +kernel), ⟨_, _, rfl⟩, by decide +kernel⟩
def zd_X7_ring : List zI := [(0, .iload_n 1, 1), (1, .sipush 200, 3), (4, .sipush 1200, 3), (7, .invokestatic 63, 3), (10, .ifCond .eq 10, 3), (13, .iload_n 2, 1), (14, .invokestatic 81, 3), (17, .ifCond .ne 6, 3), (20, .ldc 97, 2), (22, .ireturn, 1), (23, .aload_n 0, 1), (24, .getfield 36, 3), (27, .iload_n 1, 1), (28, .iload_n 2, 1), (29, .invokevirtual 141, 3), (32, .ireturn, 1)]
def M_X7_ring : zM := (zd_X7_ring, zfX7, zgX7, znX7, zoX7, [(63, 3, 1, none, R_X7_within), (81, 1, 1, none, R_X7_isColour), (141, 3, 1, some 4, R_X4_leastTurn)], [])
def R_X7_ring : zRel := zR M_X7_ring 3 (some .int)
def rm_X7_ring : Room := { frames := 2, cells := 0, slots := 0, locals := 51 }
theorem dd_X7_ring : ∀ q ∈ zd_X7_ring, decode cX7_ring q.1 = .ok (q.2.1, q.2.2) := by decide +kernel
theorem m_X7_ring (l : Launch) : zMet l yX7_ring cX7_ring 3 (some .int) rm_X7_ring R_X7_ring := z_met (M := M_X7_ring) (plainFor_of_name (by decide)) dd_X7_ring (by decide +kernel) rfl zfX7_ok zgX7_ok znX7_ok zoX7_ok (List.forall_mem_cons.mpr ⟨Or.inl ⟨yX7_within, cX7_within, 3, (some .boolean), rm_X7_within, m_X7_within l, rfl, rfl, by decide, zTb_in 238 (by decide +kernel) (by decide +kernel), k_X7_within⟩,
  List.forall_mem_cons.mpr ⟨Or.inl ⟨yX7_isColour, cX7_isColour, 1, (some .boolean), rm_X7_isColour, m_X7_isColour l, rfl, rfl, by decide, zTb_in 258 (by decide +kernel) (by decide +kernel), k_X7_isColour⟩,
  List.forall_mem_cons.mpr ⟨Or.inl ⟨yX4_leastTurn, cX4_leastTurn, 7, (some .int), rm_X4_leastTurn, m_X4_leastTurn l, rfl, rfl, by decide, zTb_in 385 (by decide +kernel) (by decide +kernel), k_X4_leastTurn⟩,
  fun _ h => absurd h List.not_mem_nil⟩⟩⟩) (Or.inr rfl)
theorem k_X7_ring : Cond.code yX7_ring cX7_ring 3 (some .int) ∈ zTb ∧ Cond.initialized yX7_ring.cls ∈ zTb ∧ (yX7_ring.cls ≠ "java/lang/invoke/MethodHandle" ∧ yX7_ring.cls ≠ "java/lang/invoke/VarHandle") ∧ Cond.instanceMethod yX7_ring ∈ zTb ∧ Cond.selects yX7_ring.cls yX7_ring yX7_ring ∈ zTb ∧ (∃ (T : u_T) (N : Nat), vwCl[7]? = some (yX7_ring.cls, T, N)) ∧ (parseMethodDescriptor yX7_ring.desc).map (fun d => d.parameters.length + 1) = some 3 := ⟨zTb_in 384 (by decide +kernel) (by decide +kernel), zTb_in 35 (by decide +kernel) (by decide +kernel), by decide, zTb_in 382 (by decide +kernel) (by decide +kernel), zTb_in 383 (by decide +kernel) (by decide +kernel), ⟨_, _, rfl⟩, by decide +kernel⟩
def zd_X7_isCause : List zI := [(0, .iload_n 0, 1), (1, .iconst 0, 1), (2, .bipush 15, 2), (4, .invokestatic 63, 3), (7, .ireturn, 1)]
def M_X7_isCause : zM := (zd_X7_isCause, zfX7, zgX7, znX7, zoX7, [(63, 3, 1, none, R_X7_within)], [])
def R_X7_isCause : zRel := zR M_X7_isCause 1 (some .boolean)
def rm_X7_isCause : Room := { frames := 1, cells := 0, slots := 0, locals := 22 }
theorem dd_X7_isCause : ∀ q ∈ zd_X7_isCause, decode cX7_isCause q.1 = .ok (q.2.1, q.2.2) := by decide +kernel
theorem m_X7_isCause (l : Launch) : zMet l yX7_isCause cX7_isCause 1 (some .boolean) rm_X7_isCause R_X7_isCause := z_met (M := M_X7_isCause) (plainFor_of_name (by decide)) dd_X7_isCause (by decide +kernel) rfl zfX7_ok zgX7_ok znX7_ok zoX7_ok (List.forall_mem_cons.mpr ⟨Or.inl ⟨yX7_within, cX7_within, 3, (some .boolean), rm_X7_within, m_X7_within l, rfl, rfl, by decide, zTb_in 238 (by decide +kernel) (by decide +kernel), k_X7_within⟩,
  fun _ h => absurd h List.not_mem_nil⟩) (Or.inr rfl)
theorem k_X7_isCause : Cond.code yX7_isCause cX7_isCause 1 (some .boolean) ∈ zTb ∧ Cond.initialized yX7_isCause.cls ∈ zTb ∧ (yX7_isCause.cls ≠ "java/lang/invoke/MethodHandle" ∧ yX7_isCause.cls ≠ "java/lang/invoke/VarHandle") ∧ Cond.static yX7_isCause ∈ zTb ∧ (parseMethodDescriptor yX7_isCause.desc).map (fun d => d.parameters.length) = some 1 := ⟨zTb_in 395 (by decide +kernel) (by decide +kernel), zTb_in 35 (by decide +kernel) (by decide +kernel), by decide, zTb_in 394 (by decide +kernel) (by decide +kernel), by decide +kernel⟩
def zd_X7_light : List zI := [(0, .iload_n 1, 1), (1, .invokestatic 144, 3), (4, .ifCond .eq 25, 3), (7, .iload_n 2, 1), (8, .invokestatic 85, 3), (11, .ifCond .eq 18, 3), (14, .iload_n 3, 1), (15, .iconst (-1), 1), (16, .if_icmp .lt 13, 3), (19, .iload 4, 2), (21, .iconst 0, 1), (22, .iconst 3, 1), (23, .invokestatic 63, 3), (26, .ifCond .ne 5, 3), (29, .iconst (-1), 1), (30, .ireturn, 1), (31, .aload_n 0, 1), (32, .getfield 36, 3), (35, .iload_n 1, 1), (36, .iload_n 2, 1), (37, .invokevirtual 147, 3), (40, .iload_n 3, 1), (41, .iconst (-1), 1), (42, .if_icmp .ne 14, 3), (45, .aload_n 0, 1), (46, .getfield 36, 3), (49, .getfield 151, 3), (52, .getfield 155, 3), (55, .ireturn, 1), (56, .iload_n 3, 1), (57, .aload_n 0, 1), (58, .getfield 36, 3), (61, .getfield 151, 3), (64, .getfield 155, 3), (67, .if_icmp .ge 19, 3), (70, .aload_n 0, 1), (71, .getfield 36, 3), (74, .getfield 151, 3), (77, .iload_n 3, 1), (78, .iload 4, 2), (80, .invokevirtual 160, 3), (83, .goto 5, 3), (86, .bipush (-4), 2), (88, .ireturn, 1)]
def M_X7_light : zM := (zd_X7_light, zfX7, zgX7, znX7, zoX7, [(144, 1, 1, none, R_X7_isCause), (85, 1, 1, none, R_X7_isRight), (63, 3, 1, none, R_X7_within), (147, 3, 0, some 4, R_X4_lightUp), (160, 3, 1, some 5, R_X5_part)], [])
def R_X7_light : zRel := zR M_X7_light 5 (some .int)
def rm_X7_light : Room := { frames := 3, cells := 0, slots := 0, locals := 78 }
theorem dd_X7_light : ∀ q ∈ zd_X7_light, decode cX7_light q.1 = .ok (q.2.1, q.2.2) := by decide +kernel
theorem m_X7_light (l : Launch) : zMet l yX7_light cX7_light 5 (some .int) rm_X7_light R_X7_light := z_met (M := M_X7_light) (plainFor_of_name (by decide)) dd_X7_light (by decide +kernel) rfl zfX7_ok zgX7_ok znX7_ok zoX7_ok (List.forall_mem_cons.mpr ⟨Or.inl ⟨yX7_isCause, cX7_isCause, 1, (some .boolean), rm_X7_isCause, m_X7_isCause l, rfl, rfl, by decide, zTb_in 393 (by decide +kernel) (by decide +kernel), k_X7_isCause⟩,
  List.forall_mem_cons.mpr ⟨Or.inl ⟨yX7_isRight, cX7_isRight, 1, (some .boolean), rm_X7_isRight, m_X7_isRight l, rfl, rfl, by decide, zTb_in 261 (by decide +kernel) (by decide +kernel), k_X7_isRight⟩,
  List.forall_mem_cons.mpr ⟨Or.inl ⟨yX7_within, cX7_within, 3, (some .boolean), rm_X7_within, m_X7_within l, rfl, rfl, by decide, zTb_in 238 (by decide +kernel) (by decide +kernel), k_X7_within⟩,
  List.forall_mem_cons.mpr ⟨Or.inl ⟨yX4_lightUp, cX4_lightUp, 8, none, rm_X4_lightUp, m_X4_lightUp l, rfl, rfl, by decide, zTb_in 396 (by decide +kernel) (by decide +kernel), k_X4_lightUp⟩,
  List.forall_mem_cons.mpr ⟨Or.inl ⟨yX5_part, cX5_part, 3, (some .int), rm_X5_part, m_X5_part l, rfl, rfl, by decide, zTb_in 420 (by decide +kernel) (by decide +kernel), k_X5_part⟩,
  fun _ h => absurd h List.not_mem_nil⟩⟩⟩⟩⟩) (Or.inr rfl)
theorem k_X7_light : Cond.code yX7_light cX7_light 5 (some .int) ∈ zTb ∧ Cond.initialized yX7_light.cls ∈ zTb ∧ (yX7_light.cls ≠ "java/lang/invoke/MethodHandle" ∧ yX7_light.cls ≠ "java/lang/invoke/VarHandle") ∧ Cond.instanceMethod yX7_light ∈ zTb ∧ Cond.selects yX7_light.cls yX7_light yX7_light ∈ zTb ∧ (∃ (T : u_T) (N : Nat), vwCl[7]? = some (yX7_light.cls, T, N)) ∧ (parseMethodDescriptor yX7_light.desc).map (fun d => d.parameters.length + 1) = some 5 := ⟨zTb_in 392 (by decide +kernel) (by decide +kernel), zTb_in 35 (by decide +kernel) (by decide +kernel), by decide, zTb_in 390 (by decide +kernel) (by decide +kernel), zTb_in 391 (by decide +kernel) (by decide +kernel), ⟨_, _, rfl⟩, by decide +kernel⟩
def zd_X7_mark : List zI := [(0, .iload_n 1, 1), (1, .iconst (-1), 1), (2, .iconst 3, 1), (3, .invokestatic 63, 3), (6, .ifCond .eq 35, 3), (9, .iload_n 2, 1), (10, .iconst (-1), 1), (11, .iconst 3, 1), (12, .invokestatic 63, 3), (15, .ifCond .eq 26, 3), (18, .iload_n 3, 1), (19, .iconst 0, 1), (20, .sipush 1800, 3), (23, .invokestatic 63, 3), (26, .ifCond .eq 15, 3), (29, .iload 4, 2), (31, .iconst 0, 1), (32, .sipush 200, 3), (35, .invokestatic 63, 3), (38, .ifCond .ne 5, 3), (41, .iconst (-1), 1), (42, .ireturn, 1), (43, .aload_n 0, 1), (44, .getfield 45, 3), (47, .iload_n 1, 1), (48, .iload_n 2, 1), (49, .iload_n 3, 1), (50, .iload 4, 2), (52, .invokevirtual 163, 3), (55, .ireturn, 1)]
def M_X7_mark : zM := (zd_X7_mark, zfX7, zgX7, znX7, zoX7, [(63, 3, 1, none, R_X7_within), (163, 5, 1, some 2, R_X2_addMark)], [])
def R_X7_mark : zRel := zR M_X7_mark 5 (some .int)
def rm_X7_mark : Room := { frames := 1, cells := 0, slots := 0, locals := 24 }
theorem dd_X7_mark : ∀ q ∈ zd_X7_mark, decode cX7_mark q.1 = .ok (q.2.1, q.2.2) := by decide +kernel
theorem m_X7_mark (l : Launch) : zMet l yX7_mark cX7_mark 5 (some .int) rm_X7_mark R_X7_mark := z_met (M := M_X7_mark) (plainFor_of_name (by decide)) dd_X7_mark (by decide +kernel) rfl zfX7_ok zgX7_ok znX7_ok zoX7_ok (List.forall_mem_cons.mpr ⟨Or.inl ⟨yX7_within, cX7_within, 3, (some .boolean), rm_X7_within, m_X7_within l, rfl, rfl, by decide, zTb_in 238 (by decide +kernel) (by decide +kernel), k_X7_within⟩,
  List.forall_mem_cons.mpr ⟨Or.inl ⟨yX2_addMark, cX2_addMark, 5, (some .int), rm_X2_addMark, m_X2_addMark l, rfl, rfl, by decide, zTb_in 428 (by decide +kernel) (by decide +kernel), k_X2_addMark⟩,
  fun _ h => absurd h List.not_mem_nil⟩⟩) (Or.inr rfl)
theorem k_X7_mark : Cond.code yX7_mark cX7_mark 5 (some .int) ∈ zTb ∧ Cond.initialized yX7_mark.cls ∈ zTb ∧ (yX7_mark.cls ≠ "java/lang/invoke/MethodHandle" ∧ yX7_mark.cls ≠ "java/lang/invoke/VarHandle") ∧ Cond.instanceMethod yX7_mark ∈ zTb ∧ Cond.selects yX7_mark.cls yX7_mark yX7_mark ∈ zTb ∧ (∃ (T : u_T) (N : Nat), vwCl[7]? = some (yX7_mark.cls, T, N)) ∧ (parseMethodDescriptor yX7_mark.desc).map (fun d => d.parameters.length + 1) = some 5 := ⟨zTb_in 427 (by decide +kernel) (by decide +kernel), zTb_in 35 (by decide +kernel) (by decide +kernel), by decide, zTb_in 425 (by decide +kernel) (by decide +kernel), zTb_in 426 (by decide +kernel) (by decide +kernel), ⟨_, _, rfl⟩, by decide +kernel⟩
def zd_X7_wipe : List zI := [(0, .aload_n 0, 1), (1, .getfield 45, 3), (4, .getfield 167, 3), (7, .istore_n 1, 1), (8, .aload_n 0, 1), (9, .getfield 45, 3), (12, .iconst 0, 1), (13, .putfield 167, 3), (16, .iload_n 1, 1), (17, .ireturn, 1)]
def M_X7_wipe : zM := (zd_X7_wipe, zfX7, zgX7, znX7, zoX7, [], [])
def R_X7_wipe : zRel := zR M_X7_wipe 2 (some .int)
def rm_X7_wipe : Room := { frames := 0, cells := 0, slots := 0, locals := 0 }
theorem dd_X7_wipe : ∀ q ∈ zd_X7_wipe, decode cX7_wipe q.1 = .ok (q.2.1, q.2.2) := by decide +kernel
theorem m_X7_wipe (l : Launch) : zMet l yX7_wipe cX7_wipe 2 (some .int) rm_X7_wipe R_X7_wipe := z_met (M := M_X7_wipe) (plainFor_of_name (by decide)) dd_X7_wipe (by decide +kernel) rfl zfX7_ok zgX7_ok znX7_ok zoX7_ok (fun _ h => absurd h List.not_mem_nil) (Or.inr rfl)
theorem k_X7_wipe : Cond.code yX7_wipe cX7_wipe 2 (some .int) ∈ zTb ∧ Cond.initialized yX7_wipe.cls ∈ zTb ∧ (yX7_wipe.cls ≠ "java/lang/invoke/MethodHandle" ∧ yX7_wipe.cls ≠ "java/lang/invoke/VarHandle") ∧ Cond.instanceMethod yX7_wipe ∈ zTb ∧ Cond.selects yX7_wipe.cls yX7_wipe yX7_wipe ∈ zTb ∧ (∃ (T : u_T) (N : Nat), vwCl[7]? = some (yX7_wipe.cls, T, N)) ∧ (parseMethodDescriptor yX7_wipe.desc).map (fun d => d.parameters.length + 1) = some 1 := ⟨zTb_in 435 (by decide +kernel) (by decide +kernel), zTb_in 35 (by decide +kernel) (by decide +kernel), by decide, zTb_in 433 (by decide +kernel) (by decide +kernel), zTb_in 434 (by decide +kernel) (by decide +kernel), ⟨_, _, rfl⟩, by decide +kernel⟩
def zd_X7_isSet : List zI := [(0, .iload_n 0, 1), (1, .iconst 0, 1), (2, .ldc 224, 2), (4, .invokestatic 63, 3), (7, .ireturn, 1)]
def M_X7_isSet : zM := (zd_X7_isSet, zfX7, zgX7, znX7, zoX7, [(63, 3, 1, none, R_X7_within)], [])
def R_X7_isSet : zRel := zR M_X7_isSet 1 (some .boolean)
def rm_X7_isSet : Room := { frames := 1, cells := 0, slots := 0, locals := 22 }
theorem dd_X7_isSet : ∀ q ∈ zd_X7_isSet, decode cX7_isSet q.1 = .ok (q.2.1, q.2.2) := by decide +kernel
theorem m_X7_isSet (l : Launch) : zMet l yX7_isSet cX7_isSet 1 (some .boolean) rm_X7_isSet R_X7_isSet := z_met (M := M_X7_isSet) (plainFor_of_name (by decide)) dd_X7_isSet (by decide +kernel) rfl zfX7_ok zgX7_ok znX7_ok zoX7_ok (List.forall_mem_cons.mpr ⟨Or.inl ⟨yX7_within, cX7_within, 3, (some .boolean), rm_X7_within, m_X7_within l, rfl, rfl, by decide, zTb_in 238 (by decide +kernel) (by decide +kernel), k_X7_within⟩,
  fun _ h => absurd h List.not_mem_nil⟩) (Or.inr rfl)
theorem k_X7_isSet : Cond.code yX7_isSet cX7_isSet 1 (some .boolean) ∈ zTb ∧ Cond.initialized yX7_isSet.cls ∈ zTb ∧ (yX7_isSet.cls ≠ "java/lang/invoke/MethodHandle" ∧ yX7_isSet.cls ≠ "java/lang/invoke/VarHandle") ∧ Cond.static yX7_isSet ∈ zTb ∧ (parseMethodDescriptor yX7_isSet.desc).map (fun d => d.parameters.length) = some 1 := ⟨zTb_in 442 (by decide +kernel) (by decide +kernel), zTb_in 35 (by decide +kernel) (by decide +kernel), by decide, zTb_in 441 (by decide +kernel) (by decide +kernel), by decide +kernel⟩
def zd_X7_explains : List zI := [(0, .iload_n 1, 1), (1, .invokestatic 168, 3), (4, .ifCond .eq 10, 3), (7, .iload_n 2, 1), (8, .invokestatic 85, 3), (11, .ifCond .ne 5, 3), (14, .iconst (-1), 1), (15, .ireturn, 1), (16, .aload_n 0, 1), (17, .getfield 45, 3), (20, .iload_n 1, 1), (21, .iload_n 2, 1), (22, .invokevirtual 171, 3), (25, .ifCond .eq 7, 3), (28, .iconst 1, 1), (29, .goto 4, 3), (32, .iconst 0, 1), (33, .ireturn, 1)]
def M_X7_explains : zM := (zd_X7_explains, zfX7, zgX7, znX7, zoX7, [(168, 1, 1, none, R_X7_isSet), (85, 1, 1, none, R_X7_isRight), (171, 3, 1, some 2, R_X2_isExplained)], [])
def R_X7_explains : zRel := zR M_X7_explains 3 (some .int)
def rm_X7_explains : Room := { frames := 6, cells := 0, slots := 0, locals := 151 }
theorem dd_X7_explains : ∀ q ∈ zd_X7_explains, decode cX7_explains q.1 = .ok (q.2.1, q.2.2) := by decide +kernel
theorem m_X7_explains (l : Launch) : zMet l yX7_explains cX7_explains 3 (some .int) rm_X7_explains R_X7_explains := z_met (M := M_X7_explains) (plainFor_of_name (by decide)) dd_X7_explains (by decide +kernel) rfl zfX7_ok zgX7_ok znX7_ok zoX7_ok (List.forall_mem_cons.mpr ⟨Or.inl ⟨yX7_isSet, cX7_isSet, 1, (some .boolean), rm_X7_isSet, m_X7_isSet l, rfl, rfl, by decide, zTb_in 440 (by decide +kernel) (by decide +kernel), k_X7_isSet⟩,
  List.forall_mem_cons.mpr ⟨Or.inl ⟨yX7_isRight, cX7_isRight, 1, (some .boolean), rm_X7_isRight, m_X7_isRight l, rfl, rfl, by decide, zTb_in 261 (by decide +kernel) (by decide +kernel), k_X7_isRight⟩,
  List.forall_mem_cons.mpr ⟨Or.inl ⟨yX2_isExplained, cX2_isExplained, 3, (some .boolean), rm_X2_isExplained, m_X2_isExplained l, rfl, rfl, by decide, zTb_in 444 (by decide +kernel) (by decide +kernel), k_X2_isExplained⟩,
  fun _ h => absurd h List.not_mem_nil⟩⟩⟩) (Or.inr rfl)
theorem k_X7_explains : Cond.code yX7_explains cX7_explains 3 (some .int) ∈ zTb ∧ Cond.initialized yX7_explains.cls ∈ zTb ∧ (yX7_explains.cls ≠ "java/lang/invoke/MethodHandle" ∧ yX7_explains.cls ≠ "java/lang/invoke/VarHandle") ∧ Cond.instanceMethod yX7_explains ∈ zTb ∧ Cond.selects yX7_explains.cls yX7_explains yX7_explains ∈ zTb ∧ (∃ (T : u_T) (N : Nat), vwCl[7]? = some (yX7_explains.cls, T, N)) ∧ (parseMethodDescriptor yX7_explains.desc).map (fun d => d.parameters.length + 1) = some 3 := ⟨zTb_in 439 (by decide +kernel) (by decide +kernel), zTb_in 35 (by decide +kernel) (by decide +kernel), by decide, zTb_in 437 (by decide +kernel) (by decide +kernel), zTb_in 438 (by decide +kernel) (by decide +kernel), ⟨_, _, rfl⟩, by decide +kernel⟩
end
section
def zd_X7_fewest : List zI := [(0, .iload_n 1, 1), (1, .invokestatic 85, 3), (4, .ifCond .ne 5, 3), (7, .iconst (-1), 1), (8, .ireturn, 1), (9, .aload_n 0, 1), (10, .getfield 45, 3), (13, .iload_n 1, 1), (14, .invokevirtual 175, 3), (17, .ireturn, 1)]
def M_X7_fewest : zM := (zd_X7_fewest, zfX7, zgX7, znX7, zoX7, [(85, 1, 1, none, R_X7_isRight), (175, 2, 1, some 2, R_X2_leastCover)], [])
def R_X7_fewest : zRel := zR M_X7_fewest 2 (some .int)
def rm_X7_fewest : Room := { frames := 5, cells := 0, slots := 0, locals := 128 }
theorem dd_X7_fewest : ∀ q ∈ zd_X7_fewest, decode cX7_fewest q.1 = .ok (q.2.1, q.2.2) := by decide +kernel
theorem m_X7_fewest (l : Launch) : zMet l yX7_fewest cX7_fewest 2 (some .int) rm_X7_fewest R_X7_fewest := z_met (M := M_X7_fewest) (plainFor_of_name (by decide)) dd_X7_fewest (by decide +kernel) rfl zfX7_ok zgX7_ok znX7_ok zoX7_ok (List.forall_mem_cons.mpr ⟨Or.inl ⟨yX7_isRight, cX7_isRight, 1, (some .boolean), rm_X7_isRight, m_X7_isRight l, rfl, rfl, by decide, zTb_in 261 (by decide +kernel) (by decide +kernel), k_X7_isRight⟩,
  List.forall_mem_cons.mpr ⟨Or.inl ⟨yX2_leastCover, cX2_leastCover, 5, (some .int), rm_X2_leastCover, m_X2_leastCover l, rfl, rfl, by decide, zTb_in 475 (by decide +kernel) (by decide +kernel), k_X2_leastCover⟩,
  fun _ h => absurd h List.not_mem_nil⟩⟩) (Or.inr rfl)
theorem k_X7_fewest : Cond.code yX7_fewest cX7_fewest 2 (some .int) ∈ zTb ∧ Cond.initialized yX7_fewest.cls ∈ zTb ∧ (yX7_fewest.cls ≠ "java/lang/invoke/MethodHandle" ∧ yX7_fewest.cls ≠ "java/lang/invoke/VarHandle") ∧ Cond.instanceMethod yX7_fewest ∈ zTb ∧ Cond.selects yX7_fewest.cls yX7_fewest yX7_fewest ∈ zTb ∧ (∃ (T : u_T) (N : Nat), vwCl[7]? = some (yX7_fewest.cls, T, N)) ∧ (parseMethodDescriptor yX7_fewest.desc).map (fun d => d.parameters.length + 1) = some 2 := ⟨zTb_in 474 (by decide +kernel) (by decide +kernel), zTb_in 35 (by decide +kernel) (by decide +kernel), by decide, zTb_in 472 (by decide +kernel) (by decide +kernel), zTb_in 473 (by decide +kernel) (by decide +kernel), ⟨_, _, rfl⟩, by decide +kernel⟩
def zd_X7_owed : List zI := [(0, .iload_n 1, 1), (1, .invokestatic 168, 3), (4, .ifCond .eq 10, 3), (7, .iload_n 2, 1), (8, .invokestatic 85, 3), (11, .ifCond .ne 5, 3), (14, .iconst (-1), 1), (15, .ireturn, 1), (16, .aload_n 0, 1), (17, .getfield 45, 3), (20, .iload_n 1, 1), (21, .iload_n 2, 1), (22, .invokevirtual 178, 3), (25, .ireturn, 1)]
def M_X7_owed : zM := (zd_X7_owed, zfX7, zgX7, znX7, zoX7, [(168, 1, 1, none, R_X7_isSet), (85, 1, 1, none, R_X7_isRight), (178, 3, 1, some 2, R_X2_unseen)], [])
def R_X7_owed : zRel := zR M_X7_owed 3 (some .int)
def rm_X7_owed : Room := { frames := 5, cells := 0, slots := 0, locals := 116 }
theorem dd_X7_owed : ∀ q ∈ zd_X7_owed, decode cX7_owed q.1 = .ok (q.2.1, q.2.2) := by decide +kernel
theorem m_X7_owed (l : Launch) : zMet l yX7_owed cX7_owed 3 (some .int) rm_X7_owed R_X7_owed := z_met (M := M_X7_owed) (plainFor_of_name (by decide)) dd_X7_owed (by decide +kernel) rfl zfX7_ok zgX7_ok znX7_ok zoX7_ok (List.forall_mem_cons.mpr ⟨Or.inl ⟨yX7_isSet, cX7_isSet, 1, (some .boolean), rm_X7_isSet, m_X7_isSet l, rfl, rfl, by decide, zTb_in 440 (by decide +kernel) (by decide +kernel), k_X7_isSet⟩,
  List.forall_mem_cons.mpr ⟨Or.inl ⟨yX7_isRight, cX7_isRight, 1, (some .boolean), rm_X7_isRight, m_X7_isRight l, rfl, rfl, by decide, zTb_in 261 (by decide +kernel) (by decide +kernel), k_X7_isRight⟩,
  List.forall_mem_cons.mpr ⟨Or.inl ⟨yX2_unseen, cX2_unseen, 6, (some .int), rm_X2_unseen, m_X2_unseen l, rfl, rfl, by decide, zTb_in 491 (by decide +kernel) (by decide +kernel), k_X2_unseen⟩,
  fun _ h => absurd h List.not_mem_nil⟩⟩⟩) (Or.inr rfl)
theorem k_X7_owed : Cond.code yX7_owed cX7_owed 3 (some .int) ∈ zTb ∧ Cond.initialized yX7_owed.cls ∈ zTb ∧ (yX7_owed.cls ≠ "java/lang/invoke/MethodHandle" ∧ yX7_owed.cls ≠ "java/lang/invoke/VarHandle") ∧ Cond.instanceMethod yX7_owed ∈ zTb ∧ Cond.selects yX7_owed.cls yX7_owed yX7_owed ∈ zTb ∧ (∃ (T : u_T) (N : Nat), vwCl[7]? = some (yX7_owed.cls, T, N)) ∧ (parseMethodDescriptor yX7_owed.desc).map (fun d => d.parameters.length + 1) = some 3 := ⟨zTb_in 490 (by decide +kernel) (by decide +kernel), zTb_in 35 (by decide +kernel) (by decide +kernel), by decide, zTb_in 488 (by decide +kernel) (by decide +kernel), zTb_in 489 (by decide +kernel) (by decide +kernel), ⟨_, _, rfl⟩, by decide +kernel⟩
def zd_X7_never : List zI := [(0, .aload_n 0, 1), (1, .getfield 45, 3), (4, .invokevirtual 181, 3), (7, .ireturn, 1)]
def M_X7_never : zM := (zd_X7_never, zfX7, zgX7, znX7, zoX7, [(181, 1, 1, some 2, R_X2_marksNeverMet)], [])
def R_X7_never : zRel := zR M_X7_never 1 (some .int)
def rm_X7_never : Room := { frames := 6, cells := 0, slots := 0, locals := 151 }
theorem dd_X7_never : ∀ q ∈ zd_X7_never, decode cX7_never q.1 = .ok (q.2.1, q.2.2) := by decide +kernel
theorem m_X7_never (l : Launch) : zMet l yX7_never cX7_never 1 (some .int) rm_X7_never R_X7_never := z_met (M := M_X7_never) (plainFor_of_name (by decide)) dd_X7_never (by decide +kernel) rfl zfX7_ok zgX7_ok znX7_ok zoX7_ok (List.forall_mem_cons.mpr ⟨Or.inl ⟨yX2_marksNeverMet, cX2_marksNeverMet, 3, (some .int), rm_X2_marksNeverMet, m_X2_marksNeverMet l, rfl, rfl, by decide, zTb_in 503 (by decide +kernel) (by decide +kernel), k_X2_marksNeverMet⟩,
  fun _ h => absurd h List.not_mem_nil⟩) (Or.inr rfl)
theorem k_X7_never : Cond.code yX7_never cX7_never 1 (some .int) ∈ zTb ∧ Cond.initialized yX7_never.cls ∈ zTb ∧ (yX7_never.cls ≠ "java/lang/invoke/MethodHandle" ∧ yX7_never.cls ≠ "java/lang/invoke/VarHandle") ∧ Cond.instanceMethod yX7_never ∈ zTb ∧ Cond.selects yX7_never.cls yX7_never yX7_never ∈ zTb ∧ (∃ (T : u_T) (N : Nat), vwCl[7]? = some (yX7_never.cls, T, N)) ∧ (parseMethodDescriptor yX7_never.desc).map (fun d => d.parameters.length + 1) = some 1 := ⟨zTb_in 502 (by decide +kernel) (by decide +kernel), zTb_in 35 (by decide +kernel) (by decide +kernel), by decide, zTb_in 500 (by decide +kernel) (by decide +kernel), zTb_in 501 (by decide +kernel) (by decide +kernel), ⟨_, _, rfl⟩, by decide +kernel⟩
def zd_X7_heights : List zI := [(0, .iload_n 1, 1), (1, .invokestatic 168, 3), (4, .ifCond .eq 8, 3), (7, .iload_n 2, 1), (8, .iconst (-1), 1), (9, .if_icmp .ge 5, 3), (12, .iconst (-1), 1), (13, .ireturn, 1), (14, .iconst 0, 1), (15, .istore_n 3, 1), (16, .iconst 0, 1), (17, .istore 4, 2), (19, .iload 4, 2), (21, .sipush 900, 3), (24, .if_icmp .gt 33, 3), (27, .aload_n 0, 1), (28, .getfield 45, 3), (31, .iload_n 1, 1), (32, .iload 4, 2), (34, .invokevirtual 171, 3), (37, .ifCond .eq 14, 3), (40, .iload_n 3, 1), (41, .iload_n 2, 1), (42, .if_icmp .ne 6, 3), (45, .iload 4, 2), (47, .ireturn, 1), (48, .iinc 3 1, 3), (51, .iinc 4 50, 3), (54, .goto (-35), 3), (57, .iload_n 2, 1), (58, .iconst (-1), 1), (59, .if_icmp .ne 7, 3), (62, .iload_n 3, 1), (63, .goto 5, 3), (66, .bipush (-4), 2), (68, .ireturn, 1)]
def M_X7_heights : zM := (zd_X7_heights, zfX7, zgX7, znX7, zoX7, [(168, 1, 1, none, R_X7_isSet), (171, 3, 1, some 2, R_X2_isExplained)], [])
def R_X7_heights : zRel := zR M_X7_heights 5 (some .int)
def rm_X7_heights : Room := { frames := 6, cells := 0, slots := 0, locals := 151 }
theorem dd_X7_heights : ∀ q ∈ zd_X7_heights, decode cX7_heights q.1 = .ok (q.2.1, q.2.2) := by decide +kernel
theorem m_X7_heights (l : Launch) : zMet l yX7_heights cX7_heights 5 (some .int) rm_X7_heights R_X7_heights := z_met (M := M_X7_heights) (plainFor_of_name (by decide)) dd_X7_heights (by decide +kernel) rfl zfX7_ok zgX7_ok znX7_ok zoX7_ok (List.forall_mem_cons.mpr ⟨Or.inl ⟨yX7_isSet, cX7_isSet, 1, (some .boolean), rm_X7_isSet, m_X7_isSet l, rfl, rfl, by decide, zTb_in 440 (by decide +kernel) (by decide +kernel), k_X7_isSet⟩,
  List.forall_mem_cons.mpr ⟨Or.inl ⟨yX2_isExplained, cX2_isExplained, 3, (some .boolean), rm_X2_isExplained, m_X2_isExplained l, rfl, rfl, by decide, zTb_in 444 (by decide +kernel) (by decide +kernel), k_X2_isExplained⟩,
  fun _ h => absurd h List.not_mem_nil⟩⟩) (Or.inr rfl)
theorem k_X7_heights : Cond.code yX7_heights cX7_heights 5 (some .int) ∈ zTb ∧ Cond.initialized yX7_heights.cls ∈ zTb ∧ (yX7_heights.cls ≠ "java/lang/invoke/MethodHandle" ∧ yX7_heights.cls ≠ "java/lang/invoke/VarHandle") ∧ Cond.instanceMethod yX7_heights ∈ zTb ∧ Cond.selects yX7_heights.cls yX7_heights yX7_heights ∈ zTb ∧ (∃ (T : u_T) (N : Nat), vwCl[7]? = some (yX7_heights.cls, T, N)) ∧ (parseMethodDescriptor yX7_heights.desc).map (fun d => d.parameters.length + 1) = some 3 := ⟨zTb_in 510 (by decide +kernel) (by decide +kernel), zTb_in 35 (by decide +kernel) (by decide +kernel), by decide, zTb_in 508 (by decide +kernel) (by decide +kernel), zTb_in 509 (by decide +kernel) (by decide +kernel), ⟨_, _, rfl⟩, by decide +kernel⟩
def zd_X7_cut : List zI := [(0, .iload_n 1, 1), (1, .iconst 0, 1), (2, .bipush 11, 2), (4, .invokestatic 63, 3), (7, .ifCond .eq 12, 3), (10, .iload_n 2, 1), (11, .iconst (-1), 1), (12, .iconst 1, 1), (13, .invokestatic 63, 3), (16, .ifCond .ne 6, 3), (19, .bipush (-100), 2), (21, .ireturn, 1), (22, .aload_n 0, 1), (23, .getfield 52, 3), (26, .getfield 185, 3), (29, .iload_n 1, 1), (30, .iaload, 1), (31, .istore_n 3, 1), (32, .aload_n 0, 1), (33, .getfield 52, 3), (36, .getfield 185, 3), (39, .iload_n 1, 1), (40, .iload_n 2, 1), (41, .iastore, 1), (42, .iload_n 3, 1), (43, .ireturn, 1)]
def M_X7_cut : zM := (zd_X7_cut, zfX7, zgX7, znX7, zoX7, [(63, 3, 1, none, R_X7_within)], [])
def R_X7_cut : zRel := zR M_X7_cut 4 (some .int)
def rm_X7_cut : Room := { frames := 1, cells := 0, slots := 0, locals := 22 }
theorem dd_X7_cut : ∀ q ∈ zd_X7_cut, decode cX7_cut q.1 = .ok (q.2.1, q.2.2) := by decide +kernel
theorem m_X7_cut (l : Launch) : zMet l yX7_cut cX7_cut 4 (some .int) rm_X7_cut R_X7_cut := z_met (M := M_X7_cut) (plainFor_of_name (by decide)) dd_X7_cut (by decide +kernel) rfl zfX7_ok zgX7_ok znX7_ok zoX7_ok (List.forall_mem_cons.mpr ⟨Or.inl ⟨yX7_within, cX7_within, 3, (some .boolean), rm_X7_within, m_X7_within l, rfl, rfl, by decide, zTb_in 238 (by decide +kernel) (by decide +kernel), k_X7_within⟩,
  fun _ h => absurd h List.not_mem_nil⟩) (Or.inr rfl)
theorem k_X7_cut : Cond.code yX7_cut cX7_cut 4 (some .int) ∈ zTb ∧ Cond.initialized yX7_cut.cls ∈ zTb ∧ (yX7_cut.cls ≠ "java/lang/invoke/MethodHandle" ∧ yX7_cut.cls ≠ "java/lang/invoke/VarHandle") ∧ Cond.instanceMethod yX7_cut ∈ zTb ∧ Cond.selects yX7_cut.cls yX7_cut yX7_cut ∈ zTb ∧ (∃ (T : u_T) (N : Nat), vwCl[7]? = some (yX7_cut.cls, T, N)) ∧ (parseMethodDescriptor yX7_cut.desc).map (fun d => d.parameters.length + 1) = some 3 := ⟨zTb_in 514 (by decide +kernel) (by decide +kernel), zTb_in 35 (by decide +kernel) (by decide +kernel), by decide, zTb_in 512 (by decide +kernel) (by decide +kernel), zTb_in 513 (by decide +kernel) (by decide +kernel), ⟨_, _, rfl⟩, by decide +kernel⟩
def zd_X7_made : List zI := [(0, .iload_n 1, 1), (1, .invokestatic 168, 3), (4, .ifCond .eq 10, 3), (7, .iload_n 2, 1), (8, .invokestatic 85, 3), (11, .ifCond .ne 5, 3), (14, .iconst (-1), 1), (15, .ireturn, 1), (16, .aload_n 0, 1), (17, .getfield 52, 3), (20, .iload_n 1, 1), (21, .iload_n 2, 1), (22, .invokevirtual 188, 3), (25, .ifCond .eq 7, 3), (28, .iconst 1, 1), (29, .goto 4, 3), (32, .iconst 0, 1), (33, .ireturn, 1)]
def M_X7_made : zM := (zd_X7_made, zfX7, zgX7, znX7, zoX7, [(168, 1, 1, none, R_X7_isSet), (85, 1, 1, none, R_X7_isRight), (188, 3, 1, some 0, R_X0_isMade)], [])
def R_X7_made : zRel := zR M_X7_made 3 (some .int)
def rm_X7_made : Room := { frames := 5, cells := 0, slots := 0, locals := 126 }
theorem dd_X7_made : ∀ q ∈ zd_X7_made, decode cX7_made q.1 = .ok (q.2.1, q.2.2) := by decide +kernel
theorem m_X7_made (l : Launch) : zMet l yX7_made cX7_made 3 (some .int) rm_X7_made R_X7_made := z_met (M := M_X7_made) (plainFor_of_name (by decide)) dd_X7_made (by decide +kernel) rfl zfX7_ok zgX7_ok znX7_ok zoX7_ok (List.forall_mem_cons.mpr ⟨Or.inl ⟨yX7_isSet, cX7_isSet, 1, (some .boolean), rm_X7_isSet, m_X7_isSet l, rfl, rfl, by decide, zTb_in 440 (by decide +kernel) (by decide +kernel), k_X7_isSet⟩,
  List.forall_mem_cons.mpr ⟨Or.inl ⟨yX7_isRight, cX7_isRight, 1, (some .boolean), rm_X7_isRight, m_X7_isRight l, rfl, rfl, by decide, zTb_in 261 (by decide +kernel) (by decide +kernel), k_X7_isRight⟩,
  List.forall_mem_cons.mpr ⟨Or.inl ⟨yX0_isMade, cX0_isMade, 5, (some .boolean), rm_X0_isMade, m_X0_isMade l, rfl, rfl, by decide, zTb_in 519 (by decide +kernel) (by decide +kernel), k_X0_isMade⟩,
  fun _ h => absurd h List.not_mem_nil⟩⟩⟩) (Or.inr rfl)
theorem k_X7_made : Cond.code yX7_made cX7_made 3 (some .int) ∈ zTb ∧ Cond.initialized yX7_made.cls ∈ zTb ∧ (yX7_made.cls ≠ "java/lang/invoke/MethodHandle" ∧ yX7_made.cls ≠ "java/lang/invoke/VarHandle") ∧ Cond.instanceMethod yX7_made ∈ zTb ∧ Cond.selects yX7_made.cls yX7_made yX7_made ∈ zTb ∧ (∃ (T : u_T) (N : Nat), vwCl[7]? = some (yX7_made.cls, T, N)) ∧ (parseMethodDescriptor yX7_made.desc).map (fun d => d.parameters.length + 1) = some 3 := ⟨zTb_in 518 (by decide +kernel) (by decide +kernel), zTb_in 35 (by decide +kernel) (by decide +kernel), by decide, zTb_in 516 (by decide +kernel) (by decide +kernel), zTb_in 517 (by decide +kernel) (by decide +kernel), ⟨_, _, rfl⟩, by decide +kernel⟩
def zd_X7_maker : List zI := [(0, .iload_n 1, 1), (1, .invokestatic 85, 3), (4, .ifCond .ne 5, 3), (7, .iconst (-1), 1), (8, .ireturn, 1), (9, .aload_n 0, 1), (10, .getfield 52, 3), (13, .iload_n 1, 1), (14, .invokevirtual 191, 3), (17, .ireturn, 1)]
def M_X7_maker : zM := (zd_X7_maker, zfX7, zgX7, znX7, zoX7, [(85, 1, 1, none, R_X7_isRight), (191, 2, 1, some 0, R_X0_firstMaker)], [])
def R_X7_maker : zRel := zR M_X7_maker 2 (some .int)
def rm_X7_maker : Room := { frames := 5, cells := 0, slots := 0, locals := 127 }
theorem dd_X7_maker : ∀ q ∈ zd_X7_maker, decode cX7_maker q.1 = .ok (q.2.1, q.2.2) := by decide +kernel
theorem m_X7_maker (l : Launch) : zMet l yX7_maker cX7_maker 2 (some .int) rm_X7_maker R_X7_maker := z_met (M := M_X7_maker) (plainFor_of_name (by decide)) dd_X7_maker (by decide +kernel) rfl zfX7_ok zgX7_ok znX7_ok zoX7_ok (List.forall_mem_cons.mpr ⟨Or.inl ⟨yX7_isRight, cX7_isRight, 1, (some .boolean), rm_X7_isRight, m_X7_isRight l, rfl, rfl, by decide, zTb_in 261 (by decide +kernel) (by decide +kernel), k_X7_isRight⟩,
  List.forall_mem_cons.mpr ⟨Or.inl ⟨yX0_firstMaker, cX0_firstMaker, 6, (some .int), rm_X0_firstMaker, m_X0_firstMaker l, rfl, rfl, by decide, zTb_in 545 (by decide +kernel) (by decide +kernel), k_X0_firstMaker⟩,
  fun _ h => absurd h List.not_mem_nil⟩⟩) (Or.inr rfl)
theorem k_X7_maker : Cond.code yX7_maker cX7_maker 2 (some .int) ∈ zTb ∧ Cond.initialized yX7_maker.cls ∈ zTb ∧ (yX7_maker.cls ≠ "java/lang/invoke/MethodHandle" ∧ yX7_maker.cls ≠ "java/lang/invoke/VarHandle") ∧ Cond.instanceMethod yX7_maker ∈ zTb ∧ Cond.selects yX7_maker.cls yX7_maker yX7_maker ∈ zTb ∧ (∃ (T : u_T) (N : Nat), vwCl[7]? = some (yX7_maker.cls, T, N)) ∧ (parseMethodDescriptor yX7_maker.desc).map (fun d => d.parameters.length + 1) = some 2 := ⟨zTb_in 544 (by decide +kernel) (by decide +kernel), zTb_in 35 (by decide +kernel) (by decide +kernel), by decide, zTb_in 542 (by decide +kernel) (by decide +kernel), zTb_in 543 (by decide +kernel) (by decide +kernel), ⟨_, _, rfl⟩, by decide +kernel⟩
def zd_X7_isCold : List zI := [(0, .iload_n 0, 1), (1, .bipush (-60), 2), (3, .bipush 40, 2), (5, .invokestatic 63, 3), (8, .ireturn, 1)]
def M_X7_isCold : zM := (zd_X7_isCold, zfX7, zgX7, znX7, zoX7, [(63, 3, 1, none, R_X7_within)], [])
def R_X7_isCold : zRel := zR M_X7_isCold 1 (some .boolean)
def rm_X7_isCold : Room := { frames := 1, cells := 0, slots := 0, locals := 22 }
theorem dd_X7_isCold : ∀ q ∈ zd_X7_isCold, decode cX7_isCold q.1 = .ok (q.2.1, q.2.2) := by decide +kernel
theorem m_X7_isCold (l : Launch) : zMet l yX7_isCold cX7_isCold 1 (some .boolean) rm_X7_isCold R_X7_isCold := z_met (M := M_X7_isCold) (plainFor_of_name (by decide)) dd_X7_isCold (by decide +kernel) rfl zfX7_ok zgX7_ok znX7_ok zoX7_ok (List.forall_mem_cons.mpr ⟨Or.inl ⟨yX7_within, cX7_within, 3, (some .boolean), rm_X7_within, m_X7_within l, rfl, rfl, by decide, zTb_in 238 (by decide +kernel) (by decide +kernel), k_X7_within⟩,
  fun _ h => absurd h List.not_mem_nil⟩) (Or.inr rfl)
theorem k_X7_isCold : Cond.code yX7_isCold cX7_isCold 1 (some .boolean) ∈ zTb ∧ Cond.initialized yX7_isCold.cls ∈ zTb ∧ (yX7_isCold.cls ≠ "java/lang/invoke/MethodHandle" ∧ yX7_isCold.cls ≠ "java/lang/invoke/VarHandle") ∧ Cond.static yX7_isCold ∈ zTb ∧ (parseMethodDescriptor yX7_isCold.desc).map (fun d => d.parameters.length) = some 1 := ⟨zTb_in 555 (by decide +kernel) (by decide +kernel), zTb_in 35 (by decide +kernel) (by decide +kernel), by decide, zTb_in 554 (by decide +kernel) (by decide +kernel), by decide +kernel⟩
def zd_X7_day : List zI := [(0, .iload_n 1, 1), (1, .invokestatic 194, 3), (4, .ifCond .eq 19, 3), (7, .iload_n 2, 1), (8, .iconst 0, 1), (9, .iconst 3, 1), (10, .invokestatic 63, 3), (13, .ifCond .eq 10, 3), (16, .iload_n 3, 1), (17, .invokestatic 168, 3), (20, .ifCond .ne 5, 3), (23, .iconst (-1), 1), (24, .ireturn, 1), (25, .aload_n 0, 1), (26, .getfield 59, 3), (29, .iload_n 1, 1), (30, .iload_n 2, 1), (31, .iload_n 3, 1), (32, .invokevirtual 197, 3), (35, .ireturn, 1)]
def M_X7_day : zM := (zd_X7_day, zfX7, zgX7, znX7, zoX7, [(194, 1, 1, none, R_X7_isCold), (63, 3, 1, none, R_X7_within), (168, 1, 1, none, R_X7_isSet), (197, 4, 1, some 1, R_X1_addDay)], [])
def R_X7_day : zRel := zR M_X7_day 4 (some .int)
def rm_X7_day : Room := { frames := 2, cells := 0, slots := 0, locals := 42 }
theorem dd_X7_day : ∀ q ∈ zd_X7_day, decode cX7_day q.1 = .ok (q.2.1, q.2.2) := by decide +kernel
theorem m_X7_day (l : Launch) : zMet l yX7_day cX7_day 4 (some .int) rm_X7_day R_X7_day := z_met (M := M_X7_day) (plainFor_of_name (by decide)) dd_X7_day (by decide +kernel) rfl zfX7_ok zgX7_ok znX7_ok zoX7_ok (List.forall_mem_cons.mpr ⟨Or.inl ⟨yX7_isCold, cX7_isCold, 1, (some .boolean), rm_X7_isCold, m_X7_isCold l, rfl, rfl, by decide, zTb_in 553 (by decide +kernel) (by decide +kernel), k_X7_isCold⟩,
  List.forall_mem_cons.mpr ⟨Or.inl ⟨yX7_within, cX7_within, 3, (some .boolean), rm_X7_within, m_X7_within l, rfl, rfl, by decide, zTb_in 238 (by decide +kernel) (by decide +kernel), k_X7_within⟩,
  List.forall_mem_cons.mpr ⟨Or.inl ⟨yX7_isSet, cX7_isSet, 1, (some .boolean), rm_X7_isSet, m_X7_isSet l, rfl, rfl, by decide, zTb_in 440 (by decide +kernel) (by decide +kernel), k_X7_isSet⟩,
  List.forall_mem_cons.mpr ⟨Or.inl ⟨yX1_addDay, cX1_addDay, 4, (some .int), rm_X1_addDay, m_X1_addDay l, rfl, rfl, by decide, zTb_in 556 (by decide +kernel) (by decide +kernel), k_X1_addDay⟩,
  fun _ h => absurd h List.not_mem_nil⟩⟩⟩⟩) (Or.inr rfl)
theorem k_X7_day : Cond.code yX7_day cX7_day 4 (some .int) ∈ zTb ∧ Cond.initialized yX7_day.cls ∈ zTb ∧ (yX7_day.cls ≠ "java/lang/invoke/MethodHandle" ∧ yX7_day.cls ≠ "java/lang/invoke/VarHandle") ∧ Cond.instanceMethod yX7_day ∈ zTb ∧ Cond.selects yX7_day.cls yX7_day yX7_day ∈ zTb ∧ (∃ (T : u_T) (N : Nat), vwCl[7]? = some (yX7_day.cls, T, N)) ∧ (parseMethodDescriptor yX7_day.desc).map (fun d => d.parameters.length + 1) = some 4 := ⟨zTb_in 552 (by decide +kernel) (by decide +kernel), zTb_in 35 (by decide +kernel) (by decide +kernel), by decide, zTb_in 550 (by decide +kernel) (by decide +kernel), zTb_in 551 (by decide +kernel) (by decide +kernel), ⟨_, _, rfl⟩, by decide +kernel⟩
def zd_X7_commonDivisor : List zI := [(0, .iload_n 0, 1), (1, .istore_n 2, 1), (2, .iload_n 2, 1), (3, .iconst 1, 1), (4, .if_icmp .le 23, 3), (7, .iload_n 0, 1), (8, .iload_n 2, 1), (9, .irem, 1), (10, .ifCond .ne 11, 3), (13, .iload_n 1, 1), (14, .iload_n 2, 1), (15, .irem, 1), (16, .ifCond .ne 5, 3), (19, .iload_n 2, 1), (20, .ireturn, 1), (21, .iinc 2 (-1), 3), (24, .goto (-22), 3), (27, .iconst 1, 1), (28, .ireturn, 1)]
def M_X7_commonDivisor : zM := (zd_X7_commonDivisor, zfX7, zgX7, znX7, zoX7, [], [])
def R_X7_commonDivisor : zRel := zR M_X7_commonDivisor 3 (some .int)
def rm_X7_commonDivisor : Room := { frames := 0, cells := 0, slots := 0, locals := 0 }
theorem dd_X7_commonDivisor : ∀ q ∈ zd_X7_commonDivisor, decode cX7_commonDivisor q.1 = .ok (q.2.1, q.2.2) := by decide +kernel
theorem m_X7_commonDivisor (l : Launch) : zMet l yX7_commonDivisor cX7_commonDivisor 3 (some .int) rm_X7_commonDivisor R_X7_commonDivisor := z_met (M := M_X7_commonDivisor) (plainFor_of_name (by decide)) dd_X7_commonDivisor (by decide +kernel) rfl zfX7_ok zgX7_ok znX7_ok zoX7_ok (fun _ h => absurd h List.not_mem_nil) (Or.inr rfl)
theorem k_X7_commonDivisor : Cond.code yX7_commonDivisor cX7_commonDivisor 3 (some .int) ∈ zTb ∧ Cond.initialized yX7_commonDivisor.cls ∈ zTb ∧ (yX7_commonDivisor.cls ≠ "java/lang/invoke/MethodHandle" ∧ yX7_commonDivisor.cls ≠ "java/lang/invoke/VarHandle") ∧ Cond.static yX7_commonDivisor ∈ zTb ∧ (parseMethodDescriptor yX7_commonDivisor.desc).map (fun d => d.parameters.length) = some 2 := ⟨zTb_in 570 (by decide +kernel) (by decide +kernel), zTb_in 35 (by decide +kernel) (by decide +kernel), by decide, zTb_in 569 (by decide +kernel) (by decide +kernel), by decide +kernel⟩
def zd_X7_odds : List zI := [(0, .iload_n 1, 1), (1, .invokestatic 144, 3), (4, .ifCond .eq 42, 3), (7, .iload_n 2, 1), (8, .invokestatic 194, 3), (11, .ifCond .eq 35, 3), (14, .iload_n 3, 1), (15, .invokestatic 194, 3), (18, .ifCond .eq 28, 3), (21, .iload_n 2, 1), (22, .iload_n 3, 1), (23, .if_icmp .gt 23, 3), (26, .iload 4, 2), (28, .iconst (-1), 1), (29, .iconst 3, 1), (30, .invokestatic 63, 3), (33, .ifCond .eq 13, 3), (36, .iload 5, 2), (38, .iconst 0, 1), (39, .iconst 1, 1), (40, .invokestatic 63, 3), (43, .ifCond .ne 5, 3), (46, .iconst (-1), 1), (47, .ireturn, 1), (48, .aload_n 0, 1), (49, .getfield 59, 3), (52, .iconst 0, 1), (53, .iload_n 2, 1), (54, .iload_n 3, 1), (55, .iload 4, 2), (57, .invokevirtual 200, 3), (60, .istore 6, 2), (62, .iload 6, 2), (64, .ifCond .ne 6, 3), (67, .bipush (-4), 2), (69, .ireturn, 1), (70, .aload_n 0, 1), (71, .getfield 59, 3), (74, .iconst 1, 1), (75, .iload_n 1, 1), (76, .ishl, 1), (77, .iload_n 2, 1), (78, .iload_n 3, 1), (79, .iload 4, 2), (81, .invokevirtual 200, 3), (84, .istore 7, 2), (86, .iload 7, 2), (88, .ifCond .ne 6, 3), (91, .iload 5, 2), (93, .ireturn, 1), (94, .iload 5, 2), (96, .ifCond .ne 8, 3), (99, .iload 7, 2), (101, .goto 5, 3), (104, .iload 6, 2), (106, .iload 7, 2), (108, .iload 6, 2), (110, .invokestatic 203, 3), (113, .idiv, 1), (114, .ireturn, 1)]
def M_X7_odds : zM := (zd_X7_odds, zfX7, zgX7, znX7, zoX7, [(144, 1, 1, none, R_X7_isCause), (194, 1, 1, none, R_X7_isCold), (63, 3, 1, none, R_X7_within), (200, 5, 1, some 1, R_X1_daysWith), (203, 2, 1, none, R_X7_commonDivisor)], [])
def R_X7_odds : zRel := zR M_X7_odds 8 (some .int)
def rm_X7_odds : Room := { frames := 2, cells := 0, slots := 0, locals := 42 }
theorem dd_X7_odds : ∀ q ∈ zd_X7_odds, decode cX7_odds q.1 = .ok (q.2.1, q.2.2) := by decide +kernel
theorem m_X7_odds (l : Launch) : zMet l yX7_odds cX7_odds 8 (some .int) rm_X7_odds R_X7_odds := z_met (M := M_X7_odds) (plainFor_of_name (by decide)) dd_X7_odds (by decide +kernel) rfl zfX7_ok zgX7_ok znX7_ok zoX7_ok (List.forall_mem_cons.mpr ⟨Or.inl ⟨yX7_isCause, cX7_isCause, 1, (some .boolean), rm_X7_isCause, m_X7_isCause l, rfl, rfl, by decide, zTb_in 393 (by decide +kernel) (by decide +kernel), k_X7_isCause⟩,
  List.forall_mem_cons.mpr ⟨Or.inl ⟨yX7_isCold, cX7_isCold, 1, (some .boolean), rm_X7_isCold, m_X7_isCold l, rfl, rfl, by decide, zTb_in 553 (by decide +kernel) (by decide +kernel), k_X7_isCold⟩,
  List.forall_mem_cons.mpr ⟨Or.inl ⟨yX7_within, cX7_within, 3, (some .boolean), rm_X7_within, m_X7_within l, rfl, rfl, by decide, zTb_in 238 (by decide +kernel) (by decide +kernel), k_X7_within⟩,
  List.forall_mem_cons.mpr ⟨Or.inl ⟨yX1_daysWith, cX1_daysWith, 7, (some .int), rm_X1_daysWith, m_X1_daysWith l, rfl, rfl, by decide, zTb_in 564 (by decide +kernel) (by decide +kernel), k_X1_daysWith⟩,
  List.forall_mem_cons.mpr ⟨Or.inl ⟨yX7_commonDivisor, cX7_commonDivisor, 3, (some .int), rm_X7_commonDivisor, m_X7_commonDivisor l, rfl, rfl, by decide, zTb_in 568 (by decide +kernel) (by decide +kernel), k_X7_commonDivisor⟩,
  fun _ h => absurd h List.not_mem_nil⟩⟩⟩⟩⟩) (Or.inr rfl)
theorem k_X7_odds : Cond.code yX7_odds cX7_odds 8 (some .int) ∈ zTb ∧ Cond.initialized yX7_odds.cls ∈ zTb ∧ (yX7_odds.cls ≠ "java/lang/invoke/MethodHandle" ∧ yX7_odds.cls ≠ "java/lang/invoke/VarHandle") ∧ Cond.instanceMethod yX7_odds ∈ zTb ∧ Cond.selects yX7_odds.cls yX7_odds yX7_odds ∈ zTb ∧ (∃ (T : u_T) (N : Nat), vwCl[7]? = some (yX7_odds.cls, T, N)) ∧ (parseMethodDescriptor yX7_odds.desc).map (fun d => d.parameters.length + 1) = some 6 := ⟨zTb_in 563 (by decide +kernel) (by decide +kernel), zTb_in 35 (by decide +kernel) (by decide +kernel), by decide, zTb_in 561 (by decide +kernel) (by decide +kernel), zTb_in 562 (by decide +kernel) (by decide +kernel), ⟨_, _, rfl⟩, by decide +kernel⟩
def zd_X7_together : List zI := [(0, .iload_n 1, 1), (1, .invokestatic 144, 3), (4, .ifCond .eq 15, 3), (7, .iload_n 2, 1), (8, .invokestatic 144, 3), (11, .ifCond .eq 8, 3), (14, .iload_n 1, 1), (15, .iload_n 2, 1), (16, .if_icmp .ne 5, 3), (19, .iconst (-1), 1), (20, .ireturn, 1), (21, .aload_n 0, 1), (22, .getfield 59, 3), (25, .iconst 1, 1), (26, .iload_n 1, 1), (27, .ishl, 1), (28, .iconst 1, 1), (29, .iload_n 2, 1), (30, .ishl, 1), (31, .ior, 1), (32, .bipush (-60), 2), (34, .bipush 40, 2), (36, .iconst (-1), 1), (37, .invokevirtual 200, 3), (40, .ireturn, 1)]
def M_X7_together : zM := (zd_X7_together, zfX7, zgX7, znX7, zoX7, [(144, 1, 1, none, R_X7_isCause), (200, 5, 1, some 1, R_X1_daysWith)], [])
def R_X7_together : zRel := zR M_X7_together 3 (some .int)
def rm_X7_together : Room := { frames := 2, cells := 0, slots := 0, locals := 42 }
theorem dd_X7_together : ∀ q ∈ zd_X7_together, decode cX7_together q.1 = .ok (q.2.1, q.2.2) := by decide +kernel
theorem m_X7_together (l : Launch) : zMet l yX7_together cX7_together 3 (some .int) rm_X7_together R_X7_together := z_met (M := M_X7_together) (plainFor_of_name (by decide)) dd_X7_together (by decide +kernel) rfl zfX7_ok zgX7_ok znX7_ok zoX7_ok (List.forall_mem_cons.mpr ⟨Or.inl ⟨yX7_isCause, cX7_isCause, 1, (some .boolean), rm_X7_isCause, m_X7_isCause l, rfl, rfl, by decide, zTb_in 393 (by decide +kernel) (by decide +kernel), k_X7_isCause⟩,
  List.forall_mem_cons.mpr ⟨Or.inl ⟨yX1_daysWith, cX1_daysWith, 7, (some .int), rm_X1_daysWith, m_X1_daysWith l, rfl, rfl, by decide, zTb_in 564 (by decide +kernel) (by decide +kernel), k_X1_daysWith⟩,
  fun _ h => absurd h List.not_mem_nil⟩⟩) (Or.inr rfl)
theorem k_X7_together : Cond.code yX7_together cX7_together 3 (some .int) ∈ zTb ∧ Cond.initialized yX7_together.cls ∈ zTb ∧ (yX7_together.cls ≠ "java/lang/invoke/MethodHandle" ∧ yX7_together.cls ≠ "java/lang/invoke/VarHandle") ∧ Cond.instanceMethod yX7_together ∈ zTb ∧ Cond.selects yX7_together.cls yX7_together yX7_together ∈ zTb ∧ (∃ (T : u_T) (N : Nat), vwCl[7]? = some (yX7_together.cls, T, N)) ∧ (parseMethodDescriptor yX7_together.desc).map (fun d => d.parameters.length + 1) = some 3 := ⟨zTb_in 574 (by decide +kernel) (by decide +kernel), zTb_in 35 (by decide +kernel) (by decide +kernel), by decide, zTb_in 572 (by decide +kernel) (by decide +kernel), zTb_in 573 (by decide +kernel) (by decide +kernel), ⟨_, _, rfl⟩, by decide +kernel⟩
def zd_X7_keep : List zI := [(0, .aload_n 0, 1), (1, .getfield 20, 3), (4, .iconst 3, 1), (5, .if_icmp .lt 6, 3), (8, .bipush (-3), 2), (10, .ireturn, 1), (11, .aload_n 0, 1), (12, .getfield 16, 3), (15, .aload_n 0, 1), (16, .getfield 20, 3), (19, .aaload, 1), (20, .aload_n 0, 1), (21, .getfield 12, 3), (24, .invokevirtual 206, 3), (27, .aload_n 0, 1), (28, .dup, 1), (29, .getfield 20, 3), (32, .iconst 1, 1), (33, .iadd, 1), (34, .putfield 20, 3), (37, .aload_n 0, 1), (38, .getfield 20, 3), (41, .ireturn, 1)]
def M_X7_keep : zM := (zd_X7_keep, zfX7, zgX7, znX7, zoX7, [(206, 2, 0, some 6, R_X6_copyFrom)], [])
def R_X7_keep : zRel := zR M_X7_keep 1 (some .int)
def rm_X7_keep : Room := { frames := 2, cells := 0, slots := 0, locals := 80 }
theorem dd_X7_keep : ∀ q ∈ zd_X7_keep, decode cX7_keep q.1 = .ok (q.2.1, q.2.2) := by decide +kernel
theorem m_X7_keep (l : Launch) : zMet l yX7_keep cX7_keep 1 (some .int) rm_X7_keep R_X7_keep := z_met (M := M_X7_keep) (plainFor_of_name (by decide)) dd_X7_keep (by decide +kernel) rfl zfX7_ok zgX7_ok znX7_ok zoX7_ok (List.forall_mem_cons.mpr ⟨Or.inl ⟨yX6_copyFrom, cX6_copyFrom, 2, none, rm_X6_copyFrom, m_X6_copyFrom l, rfl, rfl, by decide, zTb_in 579 (by decide +kernel) (by decide +kernel), k_X6_copyFrom⟩,
  fun _ h => absurd h List.not_mem_nil⟩) (Or.inr rfl)
theorem k_X7_keep : Cond.code yX7_keep cX7_keep 1 (some .int) ∈ zTb ∧ Cond.initialized yX7_keep.cls ∈ zTb ∧ (yX7_keep.cls ≠ "java/lang/invoke/MethodHandle" ∧ yX7_keep.cls ≠ "java/lang/invoke/VarHandle") ∧ Cond.instanceMethod yX7_keep ∈ zTb ∧ Cond.selects yX7_keep.cls yX7_keep yX7_keep ∈ zTb ∧ (∃ (T : u_T) (N : Nat), vwCl[7]? = some (yX7_keep.cls, T, N)) ∧ (parseMethodDescriptor yX7_keep.desc).map (fun d => d.parameters.length + 1) = some 1 := ⟨zTb_in 578 (by decide +kernel) (by decide +kernel), zTb_in 35 (by decide +kernel) (by decide +kernel), by decide, zTb_in 576 (by decide +kernel) (by decide +kernel), zTb_in 577 (by decide +kernel) (by decide +kernel), ⟨_, _, rfl⟩, by decide +kernel⟩
def zd_X7_back : List zI := [(0, .aload_n 0, 1), (1, .getfield 20, 3), (4, .ifCond .gt 6, 3), (7, .bipush (-2), 2), (9, .ireturn, 1), (10, .aload_n 0, 1), (11, .dup, 1), (12, .getfield 20, 3), (15, .iconst 1, 1), (16, .isub, 1), (17, .putfield 20, 3), (20, .aload_n 0, 1), (21, .getfield 12, 3), (24, .aload_n 0, 1), (25, .getfield 16, 3), (28, .aload_n 0, 1), (29, .getfield 20, 3), (32, .aaload, 1), (33, .invokevirtual 206, 3), (36, .aload_n 0, 1), (37, .getfield 20, 3), (40, .ireturn, 1)]
def M_X7_back : zM := (zd_X7_back, zfX7, zgX7, znX7, zoX7, [(206, 2, 0, some 6, R_X6_copyFrom)], [])
def R_X7_back : zRel := zR M_X7_back 1 (some .int)
def rm_X7_back : Room := { frames := 2, cells := 0, slots := 0, locals := 80 }
theorem dd_X7_back : ∀ q ∈ zd_X7_back, decode cX7_back q.1 = .ok (q.2.1, q.2.2) := by decide +kernel
theorem m_X7_back (l : Launch) : zMet l yX7_back cX7_back 1 (some .int) rm_X7_back R_X7_back := z_met (M := M_X7_back) (plainFor_of_name (by decide)) dd_X7_back (by decide +kernel) rfl zfX7_ok zgX7_ok znX7_ok zoX7_ok (List.forall_mem_cons.mpr ⟨Or.inl ⟨yX6_copyFrom, cX6_copyFrom, 2, none, rm_X6_copyFrom, m_X6_copyFrom l, rfl, rfl, by decide, zTb_in 579 (by decide +kernel) (by decide +kernel), k_X6_copyFrom⟩,
  fun _ h => absurd h List.not_mem_nil⟩) (Or.inr rfl)
theorem k_X7_back : Cond.code yX7_back cX7_back 1 (some .int) ∈ zTb ∧ Cond.initialized yX7_back.cls ∈ zTb ∧ (yX7_back.cls ≠ "java/lang/invoke/MethodHandle" ∧ yX7_back.cls ≠ "java/lang/invoke/VarHandle") ∧ Cond.instanceMethod yX7_back ∈ zTb ∧ Cond.selects yX7_back.cls yX7_back yX7_back ∈ zTb ∧ (∃ (T : u_T) (N : Nat), vwCl[7]? = some (yX7_back.cls, T, N)) ∧ (parseMethodDescriptor yX7_back.desc).map (fun d => d.parameters.length + 1) = some 1 := ⟨zTb_in 589 (by decide +kernel) (by decide +kernel), zTb_in 35 (by decide +kernel) (by decide +kernel), by decide, zTb_in 587 (by decide +kernel) (by decide +kernel), zTb_in 588 (by decide +kernel) (by decide +kernel), ⟨_, _, rfl⟩, by decide +kernel⟩
def zd_J6_bitCount_0f7a4 : List zI := [(0, .iload_n 0, 1), (1, .iload_n 0, 1), (2, .iconst 1, 1), (3, .iushr, 1), (4, .ldc_w 265, 3), (7, .iand, 1), (8, .isub, 1), (9, .istore_n 0, 1), (10, .iload_n 0, 1), (11, .ldc_w 266, 3), (14, .iand, 1), (15, .iload_n 0, 1), (16, .iconst 2, 1), (17, .iushr, 1), (18, .ldc_w 266, 3), (21, .iand, 1), (22, .iadd, 1), (23, .istore_n 0, 1), (24, .iload_n 0, 1), (25, .iload_n 0, 1), (26, .iconst 4, 1), (27, .iushr, 1), (28, .iadd, 1), (29, .ldc_w 267, 3), (32, .iand, 1), (33, .istore_n 0, 1), (34, .iload_n 0, 1), (35, .iload_n 0, 1), (36, .bipush 8, 2), (38, .iushr, 1), (39, .iadd, 1), (40, .istore_n 0, 1), (41, .iload_n 0, 1), (42, .iload_n 0, 1), (43, .bipush 16, 2), (45, .iushr, 1), (46, .iadd, 1), (47, .istore_n 0, 1), (48, .iload_n 0, 1), (49, .bipush 63, 2), (51, .iand, 1), (52, .ireturn, 1)]
def M_J6_bitCount_0f7a4 : zM := (zd_J6_bitCount_0f7a4, zfJ6, zgJ6, znJ6, zoJ6, [], [])
def R_J6_bitCount_0f7a4 : zRel := zR M_J6_bitCount_0f7a4 1 (some .int)
def rm_J6_bitCount_0f7a4 : Room := { frames := 0, cells := 0, slots := 0, locals := 0 }
theorem dd_J6_bitCount_0f7a4 : ∀ q ∈ zd_J6_bitCount_0f7a4, decode cJ6_bitCount_0f7a4 q.1 = .ok (q.2.1, q.2.2) := by decide +kernel
theorem m_J6_bitCount_0f7a4 (l : Launch) : zMet l yJ6_bitCount_0f7a4 cJ6_bitCount_0f7a4 1 (some .int) rm_J6_bitCount_0f7a4 R_J6_bitCount_0f7a4 := z_met (M := M_J6_bitCount_0f7a4) (by decide +kernel) dd_J6_bitCount_0f7a4 (by decide +kernel) rfl zfJ6_ok zgJ6_ok znJ6_ok zoJ6_ok (fun _ h => absurd h List.not_mem_nil) (Or.inr rfl)
theorem k_J6_bitCount_0f7a4 : Cond.code yJ6_bitCount_0f7a4 cJ6_bitCount_0f7a4 1 (some .int) ∈ zTb ∧ Cond.initialized yJ6_bitCount_0f7a4.cls ∈ zTb ∧ (yJ6_bitCount_0f7a4.cls ≠ "java/lang/invoke/MethodHandle" ∧ yJ6_bitCount_0f7a4.cls ≠ "java/lang/invoke/VarHandle") ∧ Cond.static yJ6_bitCount_0f7a4 ∈ zTb ∧ (parseMethodDescriptor yJ6_bitCount_0f7a4.desc).map (fun d => d.parameters.length) = some 1 := ⟨zTb_in 601 (by decide +kernel) (by decide +kernel), zTb_in 47 (by decide +kernel) (by decide +kernel), by decide, zTb_in 600 (by decide +kernel) (by decide +kernel), by decide +kernel⟩
def zd_X7_count : List zI := [(0, .iload_n 1, 1), (1, .tableswitch 100 0 5 #[39, 47, 55, 63, 68, 89], 39), (40, .aload_n 0, 1), (41, .getfield 12, 3), (44, .invokevirtual 209, 3), (47, .ireturn, 1), (48, .aload_n 0, 1), (49, .getfield 45, 3), (52, .getfield 167, 3), (55, .ireturn, 1), (56, .aload_n 0, 1), (57, .getfield 59, 3), (60, .getfield 212, 3), (63, .ireturn, 1), (64, .aload_n 0, 1), (65, .getfield 20, 3), (68, .ireturn, 1), (69, .aload_n 0, 1), (70, .getfield 52, 3), (73, .iconst 1, 1), (74, .invokevirtual 213, 3), (77, .aload_n 0, 1), (78, .getfield 52, 3), (81, .iconst 0, 1), (82, .invokevirtual 213, 3), (85, .ior, 1), (86, .invokestatic 216, 3), (89, .ireturn, 1), (90, .aload_n 0, 1), (91, .getfield 59, 3), (94, .invokevirtual 221, 3), (97, .invokestatic 216, 3), (100, .ireturn, 1), (101, .iconst (-1), 1), (102, .ireturn, 1)]
def M_X7_count : zM := (zd_X7_count, zfX7, zgX7, znX7, zoX7, [(209, 1, 1, some 6, R_X6_wedgesInAll), (213, 2, 1, some 0, R_X0_placesTold), (216, 1, 1, none, R_J6_bitCount_0f7a4), (221, 1, 1, some 1, R_X1_causesSeen)], [])
def R_X7_count : zRel := zR M_X7_count 2 (some .int)
def rm_X7_count : Room := { frames := 1, cells := 0, slots := 0, locals := 23 }
theorem dd_X7_count : ∀ q ∈ zd_X7_count, decode cX7_count q.1 = .ok (q.2.1, q.2.2) := by decide +kernel
theorem m_X7_count (l : Launch) : zMet l yX7_count cX7_count 2 (some .int) rm_X7_count R_X7_count := z_met (M := M_X7_count) (plainFor_of_name (by decide)) dd_X7_count (by decide +kernel) rfl zfX7_ok zgX7_ok znX7_ok zoX7_ok (List.forall_mem_cons.mpr ⟨Or.inl ⟨yX6_wedgesInAll, cX6_wedgesInAll, 3, (some .int), rm_X6_wedgesInAll, m_X6_wedgesInAll l, rfl, rfl, by decide, zTb_in 594 (by decide +kernel) (by decide +kernel), k_X6_wedgesInAll⟩,
  List.forall_mem_cons.mpr ⟨Or.inl ⟨yX0_placesTold, cX0_placesTold, 4, (some .int), rm_X0_placesTold, m_X0_placesTold l, rfl, rfl, by decide, zTb_in 598 (by decide +kernel) (by decide +kernel), k_X0_placesTold⟩,
  List.forall_mem_cons.mpr ⟨Or.inl ⟨yJ6_bitCount_0f7a4, cJ6_bitCount_0f7a4, 1, (some .int), rm_J6_bitCount_0f7a4, m_J6_bitCount_0f7a4 l, rfl, rfl, by decide, zTb_in 599 (by decide +kernel) (by decide +kernel), k_J6_bitCount_0f7a4⟩,
  List.forall_mem_cons.mpr ⟨Or.inl ⟨yX1_causesSeen, cX1_causesSeen, 3, (some .int), rm_X1_causesSeen, m_X1_causesSeen l, rfl, rfl, by decide, zTb_in 605 (by decide +kernel) (by decide +kernel), k_X1_causesSeen⟩,
  fun _ h => absurd h List.not_mem_nil⟩⟩⟩⟩) (Or.inr rfl)
theorem k_X7_count : Cond.code yX7_count cX7_count 2 (some .int) ∈ zTb ∧ Cond.initialized yX7_count.cls ∈ zTb ∧ (yX7_count.cls ≠ "java/lang/invoke/MethodHandle" ∧ yX7_count.cls ≠ "java/lang/invoke/VarHandle") ∧ Cond.instanceMethod yX7_count ∈ zTb ∧ Cond.selects yX7_count.cls yX7_count yX7_count ∈ zTb ∧ (∃ (T : u_T) (N : Nat), vwCl[7]? = some (yX7_count.cls, T, N)) ∧ (parseMethodDescriptor yX7_count.desc).map (fun d => d.parameters.length + 1) = some 2 := ⟨zTb_in 593 (by decide +kernel) (by decide +kernel), zTb_in 35 (by decide +kernel) (by decide +kernel), by decide, zTb_in 591 (by decide +kernel) (by decide +kernel), zTb_in 592 (by decide +kernel) (by decide +kernel), ⟨_, _, rfl⟩, by decide +kernel⟩
def zd_X8_in : List zI := [(0, .iload_n 0, 1), (1, .iload_n 1, 1), (2, .if_icmp .lt 12, 3), (5, .iload_n 0, 1), (6, .iload_n 2, 1), (7, .if_icmp .gt 7, 3), (10, .iconst 1, 1), (11, .goto 4, 3), (14, .iconst 0, 1), (15, .ireturn, 1)]
def M_X8_in : zM := (zd_X8_in, zfX8, zgX8, znX8, zoX8, [], [])
def R_X8_in : zRel := zR M_X8_in 3 (some .boolean)
def rm_X8_in : Room := { frames := 0, cells := 0, slots := 0, locals := 0 }
theorem dd_X8_in : ∀ q ∈ zd_X8_in, decode cX8_in q.1 = .ok (q.2.1, q.2.2) := by decide +kernel
theorem m_X8_in (l : Launch) : zMet l yX8_in cX8_in 3 (some .boolean) rm_X8_in R_X8_in := z_met (M := M_X8_in) (plainFor_of_name (by decide)) dd_X8_in (by decide +kernel) rfl zfX8_ok zgX8_ok znX8_ok zoX8_ok (fun _ h => absurd h List.not_mem_nil) (Or.inr rfl)
theorem k_X8_in : Cond.code yX8_in cX8_in 3 (some .boolean) ∈ zTb ∧ Cond.initialized yX8_in.cls ∈ zTb ∧ (yX8_in.cls ≠ "java/lang/invoke/MethodHandle" ∧ yX8_in.cls ≠ "java/lang/invoke/VarHandle") ∧ Cond.static yX8_in ∈ zTb ∧ (parseMethodDescriptor yX8_in.desc).map (fun d => d.parameters.length) = some 3 := ⟨zTb_in 714 (by decide +kernel) (by decide +kernel), zTb_in 44 (by decide +kernel) (by decide +kernel), by decide, zTb_in 713 (by decide +kernel) (by decide +kernel), by decide +kernel⟩
def zd_X8_table : List zI := [(0, .iload_n 1, 1), (1, .iconst 0, 1), (2, .iconst 2, 1), (3, .invokestatic 89, 3), (6, .ifCond .eq 25, 3), (9, .iload_n 2, 1), (10, .iconst 1, 1), (11, .bipush 9, 2), (13, .invokestatic 89, 3), (16, .ifCond .eq 15, 3), (19, .iload_n 3, 1), (20, .iconst 0, 1), (21, .bipush 100, 2), (23, .iload_n 2, 1), (24, .imul, 1), (25, .invokestatic 89, 3), (28, .ifCond .ne 5, 3), (31, .iconst (-1), 1), (32, .ireturn, 1), (33, .bipush 10, 2), (35, .iload_n 1, 1), (36, .imul, 1), (37, .iload_n 2, 1), (38, .iadd, 1), (39, .istore 4, 2), (41, .iload_n 3, 1), (42, .aload_n 0, 1), (43, .getfield 7, 3), (46, .iload 4, 2), (48, .iconst 1, 1), (49, .isub, 1), (50, .iaload, 1), (51, .if_icmp .lt 22, 3), (54, .iload_n 2, 1), (55, .bipush 9, 2), (57, .if_icmp .ge 19, 3), (60, .iload_n 3, 1), (61, .aload_n 0, 1), (62, .getfield 7, 3), (65, .iload 4, 2), (67, .iconst 1, 1), (68, .iadd, 1), (69, .iaload, 1), (70, .if_icmp .le 6, 3), (73, .bipush (-2), 2), (75, .ireturn, 1), (76, .aload_n 0, 1), (77, .getfield 7, 3), (80, .iload 4, 2), (82, .iaload, 1), (83, .istore 5, 2), (85, .aload_n 0, 1), (86, .getfield 7, 3), (89, .iload 4, 2), (91, .iload_n 3, 1), (92, .iastore, 1), (93, .iload 5, 2), (95, .ireturn, 1)]
def M_X8_table : zM := (zd_X8_table, zfX8, zgX8, znX8, zoX8, [(89, 3, 1, none, R_X8_in)], [])
def R_X8_table : zRel := zR M_X8_table 6 (some .int)
def rm_X8_table : Room := { frames := 1, cells := 0, slots := 0, locals := 22 }
theorem dd_X8_table : ∀ q ∈ zd_X8_table, decode cX8_table q.1 = .ok (q.2.1, q.2.2) := by decide +kernel
theorem m_X8_table (l : Launch) : zMet l yX8_table cX8_table 6 (some .int) rm_X8_table R_X8_table := z_met (M := M_X8_table) (plainFor_of_name (by decide)) dd_X8_table (by decide +kernel) rfl zfX8_ok zgX8_ok znX8_ok zoX8_ok (List.forall_mem_cons.mpr ⟨Or.inl ⟨yX8_in, cX8_in, 3, (some .boolean), rm_X8_in, m_X8_in l, rfl, rfl, by decide, zTb_in 712 (by decide +kernel) (by decide +kernel), k_X8_in⟩,
  fun _ h => absurd h List.not_mem_nil⟩) (Or.inr rfl)
theorem k_X8_table : Cond.code yX8_table cX8_table 6 (some .int) ∈ zTb ∧ Cond.initialized yX8_table.cls ∈ zTb ∧ (yX8_table.cls ≠ "java/lang/invoke/MethodHandle" ∧ yX8_table.cls ≠ "java/lang/invoke/VarHandle") ∧ Cond.instanceMethod yX8_table ∈ zTb ∧ Cond.selects yX8_table.cls yX8_table yX8_table ∈ zTb ∧ (∃ (T : u_T) (N : Nat), vwCl[8]? = some (yX8_table.cls, T, N)) ∧ (parseMethodDescriptor yX8_table.desc).map (fun d => d.parameters.length + 1) = some 4 := ⟨zTb_in 711 (by decide +kernel) (by decide +kernel), zTb_in 44 (by decide +kernel) (by decide +kernel), by decide, zTb_in 709 (by decide +kernel) (by decide +kernel), zTb_in 710 (by decide +kernel) (by decide +kernel), ⟨_, _, rfl⟩, by decide +kernel⟩
end
section
def zd_X8_rule : List zI := [(0, .iload_n 1, 1), (1, .tableswitch 170 0 4 #[35, 61, 88, 114, 143], 35), (36, .aload_n 0, 1), (37, .getfield 13, 3), (40, .istore_n 3, 1), (41, .iload_n 2, 1), (42, .iconst 0, 1), (43, .bipush 20, 2), (45, .invokestatic 89, 3), (48, .ifCond .ne 7, 3), (51, .sipush (-1000), 3), (54, .ireturn, 1), (55, .aload_n 0, 1), (56, .iload_n 2, 1), (57, .putfield 13, 3), (60, .iload_n 3, 1), (61, .ireturn, 1), (62, .aload_n 0, 1), (63, .getfield 93, 3), (66, .istore_n 3, 1), (67, .iload_n 2, 1), (68, .bipush (-100), 2), (70, .bipush 100, 2), (72, .invokestatic 89, 3), (75, .ifCond .ne 7, 3), (78, .sipush (-1000), 3), (81, .ireturn, 1), (82, .aload_n 0, 1), (83, .iload_n 2, 1), (84, .putfield 93, 3), (87, .iload_n 3, 1), (88, .ireturn, 1), (89, .aload_n 0, 1), (90, .getfield 17, 3), (93, .istore_n 3, 1), (94, .iload_n 2, 1), (95, .iconst 0, 1), (96, .bipush 100, 2), (98, .invokestatic 89, 3), (101, .ifCond .ne 7, 3), (104, .sipush (-1000), 3), (107, .ireturn, 1), (108, .aload_n 0, 1), (109, .iload_n 2, 1), (110, .putfield 17, 3), (113, .iload_n 3, 1), (114, .ireturn, 1), (115, .aload_n 0, 1), (116, .getfield 20, 3), (119, .istore_n 3, 1), (120, .iload_n 2, 1), (121, .sipush 500, 3), (124, .sipush 9000, 3), (127, .invokestatic 89, 3), (130, .ifCond .ne 7, 3), (133, .sipush (-1000), 3), (136, .ireturn, 1), (137, .aload_n 0, 1), (138, .iload_n 2, 1), (139, .putfield 20, 3), (142, .iload_n 3, 1), (143, .ireturn, 1), (144, .aload_n 0, 1), (145, .getfield 23, 3), (148, .istore_n 3, 1), (149, .iload_n 2, 1), (150, .iconst 0, 1), (151, .sipush 300, 3), (154, .invokestatic 89, 3), (157, .ifCond .ne 7, 3), (160, .sipush (-1000), 3), (163, .ireturn, 1), (164, .aload_n 0, 1), (165, .iload_n 2, 1), (166, .putfield 23, 3), (169, .iload_n 3, 1), (170, .ireturn, 1), (171, .sipush (-1000), 3), (174, .ireturn, 1)]
def M_X8_rule : zM := (zd_X8_rule, zfX8, zgX8, znX8, zoX8, [(89, 3, 1, none, R_X8_in)], [])
def R_X8_rule : zRel := zR M_X8_rule 4 (some .int)
def rm_X8_rule : Room := { frames := 1, cells := 0, slots := 0, locals := 22 }
theorem dd_X8_rule : ∀ q ∈ zd_X8_rule, decode cX8_rule q.1 = .ok (q.2.1, q.2.2) := by decide +kernel
theorem m_X8_rule (l : Launch) : zMet l yX8_rule cX8_rule 4 (some .int) rm_X8_rule R_X8_rule := z_met (M := M_X8_rule) (plainFor_of_name (by decide)) dd_X8_rule (by decide +kernel) rfl zfX8_ok zgX8_ok znX8_ok zoX8_ok (List.forall_mem_cons.mpr ⟨Or.inl ⟨yX8_in, cX8_in, 3, (some .boolean), rm_X8_in, m_X8_in l, rfl, rfl, by decide, zTb_in 712 (by decide +kernel) (by decide +kernel), k_X8_in⟩,
  fun _ h => absurd h List.not_mem_nil⟩) (Or.inr rfl)
theorem k_X8_rule : Cond.code yX8_rule cX8_rule 4 (some .int) ∈ zTb ∧ Cond.initialized yX8_rule.cls ∈ zTb ∧ (yX8_rule.cls ≠ "java/lang/invoke/MethodHandle" ∧ yX8_rule.cls ≠ "java/lang/invoke/VarHandle") ∧ Cond.instanceMethod yX8_rule ∈ zTb ∧ Cond.selects yX8_rule.cls yX8_rule yX8_rule ∈ zTb ∧ (∃ (T : u_T) (N : Nat), vwCl[8]? = some (yX8_rule.cls, T, N)) ∧ (parseMethodDescriptor yX8_rule.desc).map (fun d => d.parameters.length + 1) = some 3 := ⟨zTb_in 718 (by decide +kernel) (by decide +kernel), zTb_in 44 (by decide +kernel) (by decide +kernel), by decide, zTb_in 716 (by decide +kernel) (by decide +kernel), zTb_in 717 (by decide +kernel) (by decide +kernel), ⟨_, _, rfl⟩, by decide +kernel⟩
def zd_X8_bent : List zI := [(0, .iload_n 3, 1), (1, .bipush 100, 2), (3, .idiv, 1), (4, .istore 4, 2), (6, .aload_n 0, 1), (7, .getfield 7, 3), (10, .bipush 10, 2), (12, .iload_n 1, 1), (13, .imul, 1), (14, .iload 4, 2), (16, .iadd, 1), (17, .iaload, 1), (18, .istore 5, 2), (20, .iload_n 3, 1), (21, .bipush 100, 2), (23, .irem, 1), (24, .ifCond .le 33, 3), (27, .iload 5, 2), (29, .aload_n 0, 1), (30, .getfield 7, 3), (33, .bipush 10, 2), (35, .iload_n 1, 1), (36, .imul, 1), (37, .iload 4, 2), (39, .iadd, 1), (40, .iconst 1, 1), (41, .iadd, 1), (42, .iaload, 1), (43, .iload 5, 2), (45, .isub, 1), (46, .iload_n 3, 1), (47, .bipush 100, 2), (49, .irem, 1), (50, .imul, 1), (51, .bipush 100, 2), (53, .idiv, 1), (54, .iadd, 1), (55, .istore 5, 2), (57, .iload 5, 2), (59, .iload 5, 2), (61, .aload_n 0, 1), (62, .getfield 13, 3), (65, .imul, 1), (66, .iload_n 2, 1), (67, .imul, 1), (68, .sipush 1000, 3), (71, .idiv, 1), (72, .isub, 1), (73, .ireturn, 1)]
def M_X8_bent : zM := (zd_X8_bent, zfX8, zgX8, znX8, zoX8, [], [])
def R_X8_bent : zRel := zR M_X8_bent 6 (some .int)
def rm_X8_bent : Room := { frames := 0, cells := 0, slots := 0, locals := 0 }
theorem dd_X8_bent : ∀ q ∈ zd_X8_bent, decode cX8_bent q.1 = .ok (q.2.1, q.2.2) := by decide +kernel
theorem m_X8_bent (l : Launch) : zMet l yX8_bent cX8_bent 6 (some .int) rm_X8_bent R_X8_bent := z_met (M := M_X8_bent) (plainFor_of_name (by decide)) dd_X8_bent (by decide +kernel) rfl zfX8_ok zgX8_ok znX8_ok zoX8_ok (fun _ h => absurd h List.not_mem_nil) (Or.inr rfl)
theorem k_X8_bent : Cond.code yX8_bent cX8_bent 6 (some .int) ∈ zTb ∧ Cond.initialized yX8_bent.cls ∈ zTb ∧ (yX8_bent.cls ≠ "java/lang/invoke/MethodHandle" ∧ yX8_bent.cls ≠ "java/lang/invoke/VarHandle") ∧ Cond.instanceMethod yX8_bent ∈ zTb ∧ Cond.selects yX8_bent.cls yX8_bent yX8_bent ∈ zTb ∧ (∃ (T : u_T) (N : Nat), vwCl[8]? = some (yX8_bent.cls, T, N)) ∧ (parseMethodDescriptor yX8_bent.desc).map (fun d => d.parameters.length + 1) = some 4 := ⟨zTb_in 726 (by decide +kernel) (by decide +kernel), zTb_in 44 (by decide +kernel) (by decide +kernel), by decide, zTb_in 725 (by decide +kernel) (by decide +kernel), zTb_in 13 (by decide +kernel) (by decide +kernel), ⟨_, _, rfl⟩, by decide +kernel⟩
def zd_X8_least : List zI := [(0, .aload_n 0, 1), (1, .iload_n 1, 1), (2, .iload_n 2, 1), (3, .sipush 900, 3), (6, .invokevirtual 96, 3), (9, .iload_n 3, 1), (10, .if_icmp .ge 6, 3), (13, .bipush (-4), 2), (15, .ireturn, 1), (16, .iconst 0, 1), (17, .istore 4, 2), (19, .sipush 900, 3), (22, .istore 5, 2), (24, .iload 4, 2), (26, .iload 5, 2), (28, .if_icmp .ge 40, 3), (31, .iload 4, 2), (33, .iload 5, 2), (35, .iadd, 1), (36, .iconst 2, 1), (37, .idiv, 1), (38, .istore 6, 2), (40, .aload_n 0, 1), (41, .iload_n 1, 1), (42, .iload_n 2, 1), (43, .iload 6, 2), (45, .invokevirtual 96, 3), (48, .iload_n 3, 1), (49, .if_icmp .lt 10, 3), (52, .iload 6, 2), (54, .istore 5, 2), (56, .goto 9, 3), (59, .iload 6, 2), (61, .iconst 1, 1), (62, .iadd, 1), (63, .istore 4, 2), (65, .goto (-41), 3), (68, .iload 4, 2), (70, .ireturn, 1)]
def M_X8_least : zM := (zd_X8_least, zfX8, zgX8, znX8, zoX8, [(96, 4, 1, some 8, R_X8_bent)], [])
def R_X8_least : zRel := zR M_X8_least 7 (some .int)
def rm_X8_least : Room := { frames := 1, cells := 0, slots := 0, locals := 25 }
theorem dd_X8_least : ∀ q ∈ zd_X8_least, decode cX8_least q.1 = .ok (q.2.1, q.2.2) := by decide +kernel
theorem m_X8_least (l : Launch) : zMet l yX8_least cX8_least 7 (some .int) rm_X8_least R_X8_least := z_met (M := M_X8_least) (plainFor_of_name (by decide)) dd_X8_least (by decide +kernel) rfl zfX8_ok zgX8_ok znX8_ok zoX8_ok (List.forall_mem_cons.mpr ⟨Or.inl ⟨yX8_bent, cX8_bent, 6, (some .int), rm_X8_bent, m_X8_bent l, rfl, rfl, by decide, zTb_in 723 (by decide +kernel) (by decide +kernel), k_X8_bent⟩,
  fun _ h => absurd h List.not_mem_nil⟩) (Or.inr rfl)
theorem k_X8_least : Cond.code yX8_least cX8_least 7 (some .int) ∈ zTb ∧ Cond.initialized yX8_least.cls ∈ zTb ∧ (yX8_least.cls ≠ "java/lang/invoke/MethodHandle" ∧ yX8_least.cls ≠ "java/lang/invoke/VarHandle") ∧ Cond.instanceMethod yX8_least ∈ zTb ∧ Cond.selects yX8_least.cls yX8_least yX8_least ∈ zTb ∧ (∃ (T : u_T) (N : Nat), vwCl[8]? = some (yX8_least.cls, T, N)) ∧ (parseMethodDescriptor yX8_least.desc).map (fun d => d.parameters.length + 1) = some 4 := ⟨zTb_in 734 (by decide +kernel) (by decide +kernel), zTb_in 44 (by decide +kernel) (by decide +kernel), by decide, zTb_in 733 (by decide +kernel) (by decide +kernel), zTb_in 14 (by decide +kernel) (by decide +kernel), ⟨_, _, rfl⟩, by decide +kernel⟩
def zd_X8_inside : List zI := [(0, .iload_n 1, 1), (1, .iconst 0, 1), (2, .iconst 2, 1), (3, .invokestatic 89, 3), (6, .ifCond .eq 33, 3), (9, .iload_n 2, 1), (10, .iconst 0, 1), (11, .iconst 3, 1), (12, .invokestatic 89, 3), (15, .ifCond .eq 24, 3), (18, .iload_n 3, 1), (19, .iconst 0, 1), (20, .sipush 900, 3), (23, .invokestatic 89, 3), (26, .ifCond .eq 13, 3), (29, .aload_n 0, 1), (30, .iload_n 1, 1), (31, .iload_n 2, 1), (32, .iload_n 3, 1), (33, .invokevirtual 96, 3), (36, .goto 4, 3), (39, .iconst (-1), 1), (40, .ireturn, 1)]
def M_X8_inside : zM := (zd_X8_inside, zfX8, zgX8, znX8, zoX8, [(89, 3, 1, none, R_X8_in), (96, 4, 1, some 8, R_X8_bent)], [])
def R_X8_inside : zRel := zR M_X8_inside 4 (some .int)
def rm_X8_inside : Room := { frames := 1, cells := 0, slots := 0, locals := 25 }
theorem dd_X8_inside : ∀ q ∈ zd_X8_inside, decode cX8_inside q.1 = .ok (q.2.1, q.2.2) := by decide +kernel
theorem m_X8_inside (l : Launch) : zMet l yX8_inside cX8_inside 4 (some .int) rm_X8_inside R_X8_inside := z_met (M := M_X8_inside) (plainFor_of_name (by decide)) dd_X8_inside (by decide +kernel) rfl zfX8_ok zgX8_ok znX8_ok zoX8_ok (List.forall_mem_cons.mpr ⟨Or.inl ⟨yX8_in, cX8_in, 3, (some .boolean), rm_X8_in, m_X8_in l, rfl, rfl, by decide, zTb_in 712 (by decide +kernel) (by decide +kernel), k_X8_in⟩,
  List.forall_mem_cons.mpr ⟨Or.inl ⟨yX8_bent, cX8_bent, 6, (some .int), rm_X8_bent, m_X8_bent l, rfl, rfl, by decide, zTb_in 723 (by decide +kernel) (by decide +kernel), k_X8_bent⟩,
  fun _ h => absurd h List.not_mem_nil⟩⟩) (Or.inr rfl)
theorem k_X8_inside : Cond.code yX8_inside cX8_inside 4 (some .int) ∈ zTb ∧ Cond.initialized yX8_inside.cls ∈ zTb ∧ (yX8_inside.cls ≠ "java/lang/invoke/MethodHandle" ∧ yX8_inside.cls ≠ "java/lang/invoke/VarHandle") ∧ Cond.instanceMethod yX8_inside ∈ zTb ∧ Cond.selects yX8_inside.cls yX8_inside yX8_inside ∈ zTb ∧ (∃ (T : u_T) (N : Nat), vwCl[8]? = some (yX8_inside.cls, T, N)) ∧ (parseMethodDescriptor yX8_inside.desc).map (fun d => d.parameters.length + 1) = some 4 := ⟨zTb_in 722 (by decide +kernel) (by decide +kernel), zTb_in 44 (by decide +kernel) (by decide +kernel), by decide, zTb_in 720 (by decide +kernel) (by decide +kernel), zTb_in 721 (by decide +kernel) (by decide +kernel), ⟨_, _, rfl⟩, by decide +kernel⟩
def zd_X8_outside : List zI := [(0, .iload_n 1, 1), (1, .iconst 0, 1), (2, .iconst 2, 1), (3, .invokestatic 89, 3), (6, .ifCond .eq 33, 3), (9, .iload_n 2, 1), (10, .iconst 0, 1), (11, .iconst 3, 1), (12, .invokestatic 89, 3), (15, .ifCond .eq 24, 3), (18, .iload_n 3, 1), (19, .iconst 0, 1), (20, .sipush 900, 3), (23, .invokestatic 89, 3), (26, .ifCond .eq 13, 3), (29, .aload_n 0, 1), (30, .iload_n 1, 1), (31, .iload_n 2, 1), (32, .iload_n 3, 1), (33, .invokevirtual 100, 3), (36, .goto 4, 3), (39, .iconst (-1), 1), (40, .ireturn, 1)]
def M_X8_outside : zM := (zd_X8_outside, zfX8, zgX8, znX8, zoX8, [(89, 3, 1, none, R_X8_in), (100, 4, 1, some 8, R_X8_least)], [])
def R_X8_outside : zRel := zR M_X8_outside 4 (some .int)
def rm_X8_outside : Room := { frames := 2, cells := 0, slots := 0, locals := 51 }
theorem dd_X8_outside : ∀ q ∈ zd_X8_outside, decode cX8_outside q.1 = .ok (q.2.1, q.2.2) := by decide +kernel
theorem m_X8_outside (l : Launch) : zMet l yX8_outside cX8_outside 4 (some .int) rm_X8_outside R_X8_outside := z_met (M := M_X8_outside) (plainFor_of_name (by decide)) dd_X8_outside (by decide +kernel) rfl zfX8_ok zgX8_ok znX8_ok zoX8_ok (List.forall_mem_cons.mpr ⟨Or.inl ⟨yX8_in, cX8_in, 3, (some .boolean), rm_X8_in, m_X8_in l, rfl, rfl, by decide, zTb_in 712 (by decide +kernel) (by decide +kernel), k_X8_in⟩,
  List.forall_mem_cons.mpr ⟨Or.inl ⟨yX8_least, cX8_least, 7, (some .int), rm_X8_least, m_X8_least l, rfl, rfl, by decide, zTb_in 731 (by decide +kernel) (by decide +kernel), k_X8_least⟩,
  fun _ h => absurd h List.not_mem_nil⟩⟩) (Or.inr rfl)
theorem k_X8_outside : Cond.code yX8_outside cX8_outside 4 (some .int) ∈ zTb ∧ Cond.initialized yX8_outside.cls ∈ zTb ∧ (yX8_outside.cls ≠ "java/lang/invoke/MethodHandle" ∧ yX8_outside.cls ≠ "java/lang/invoke/VarHandle") ∧ Cond.instanceMethod yX8_outside ∈ zTb ∧ Cond.selects yX8_outside.cls yX8_outside yX8_outside ∈ zTb ∧ (∃ (T : u_T) (N : Nat), vwCl[8]? = some (yX8_outside.cls, T, N)) ∧ (parseMethodDescriptor yX8_outside.desc).map (fun d => d.parameters.length + 1) = some 4 := ⟨zTb_in 730 (by decide +kernel) (by decide +kernel), zTb_in 44 (by decide +kernel) (by decide +kernel), by decide, zTb_in 728 (by decide +kernel) (by decide +kernel), zTb_in 729 (by decide +kernel) (by decide +kernel), ⟨_, _, rfl⟩, by decide +kernel⟩
def zd_X8_turns : List zI := [(0, .aload_n 0, 1), (1, .iconst 0, 1), (2, .iload_n 2, 1), (3, .iload_n 3, 1), (4, .invokevirtual 96, 3), (7, .istore 4, 2), (9, .iconst 2, 1), (10, .iload_n 3, 1), (11, .imul, 1), (12, .iconst 2, 1), (13, .iload 4, 2), (15, .imul, 1), (16, .isub, 1), (17, .iload_n 1, 1), (18, .sipush 1800, 3), (21, .iconst 2, 1), (22, .iload 4, 2), (24, .imul, 1), (25, .isub, 1), (26, .aload_n 0, 1), (27, .getfield 93, 3), (30, .iadd, 1), (31, .imul, 1), (32, .iadd, 1), (33, .ireturn, 1)]
def M_X8_turns : zM := (zd_X8_turns, zfX8, zgX8, znX8, zoX8, [(96, 4, 1, some 8, R_X8_bent)], [])
def R_X8_turns : zRel := zR M_X8_turns 5 (some .int)
def rm_X8_turns : Room := { frames := 1, cells := 0, slots := 0, locals := 25 }
theorem dd_X8_turns : ∀ q ∈ zd_X8_turns, decode cX8_turns q.1 = .ok (q.2.1, q.2.2) := by decide +kernel
theorem m_X8_turns (l : Launch) : zMet l yX8_turns cX8_turns 5 (some .int) rm_X8_turns R_X8_turns := z_met (M := M_X8_turns) (plainFor_of_name (by decide)) dd_X8_turns (by decide +kernel) rfl zfX8_ok zgX8_ok znX8_ok zoX8_ok (List.forall_mem_cons.mpr ⟨Or.inl ⟨yX8_bent, cX8_bent, 6, (some .int), rm_X8_bent, m_X8_bent l, rfl, rfl, by decide, zTb_in 723 (by decide +kernel) (by decide +kernel), k_X8_bent⟩,
  fun _ h => absurd h List.not_mem_nil⟩) (Or.inr rfl)
theorem k_X8_turns : Cond.code yX8_turns cX8_turns 5 (some .int) ∈ zTb ∧ Cond.initialized yX8_turns.cls ∈ zTb ∧ (yX8_turns.cls ≠ "java/lang/invoke/MethodHandle" ∧ yX8_turns.cls ≠ "java/lang/invoke/VarHandle") ∧ Cond.instanceMethod yX8_turns ∈ zTb ∧ Cond.selects yX8_turns.cls yX8_turns yX8_turns ∈ zTb ∧ (∃ (T : u_T) (N : Nat), vwCl[8]? = some (yX8_turns.cls, T, N)) ∧ (parseMethodDescriptor yX8_turns.desc).map (fun d => d.parameters.length + 1) = some 4 := ⟨zTb_in 743 (by decide +kernel) (by decide +kernel), zTb_in 44 (by decide +kernel) (by decide +kernel), by decide, zTb_in 742 (by decide +kernel) (by decide +kernel), zTb_in 15 (by decide +kernel) (by decide +kernel), ⟨_, _, rfl⟩, by decide +kernel⟩
def zd_X8_from : List zI := [(0, .aload_n 0, 1), (1, .iload_n 1, 1), (2, .iload_n 2, 1), (3, .iload_n 3, 1), (4, .invokevirtual 103, 3), (7, .sipush 3600, 3), (10, .irem, 1), (11, .istore 4, 2), (13, .iload 4, 2), (15, .ifCond .ge 12, 3), (18, .iload 4, 2), (20, .sipush 3600, 3), (23, .iadd, 1), (24, .goto 5, 3), (27, .iload 4, 2), (29, .istore 4, 2), (31, .iload 4, 2), (33, .sipush 1800, 3), (36, .if_icmp .le 12, 3), (39, .sipush 3600, 3), (42, .iload 4, 2), (44, .isub, 1), (45, .goto 5, 3), (48, .iload 4, 2), (50, .ireturn, 1)]
def M_X8_from : zM := (zd_X8_from, zfX8, zgX8, znX8, zoX8, [(103, 4, 1, some 8, R_X8_turns)], [])
def R_X8_from : zRel := zR M_X8_from 5 (some .int)
def rm_X8_from : Room := { frames := 2, cells := 0, slots := 0, locals := 49 }
theorem dd_X8_from : ∀ q ∈ zd_X8_from, decode cX8_from q.1 = .ok (q.2.1, q.2.2) := by decide +kernel
theorem m_X8_from (l : Launch) : zMet l yX8_from cX8_from 5 (some .int) rm_X8_from R_X8_from := z_met (M := M_X8_from) (plainFor_of_name (by decide)) dd_X8_from (by decide +kernel) rfl zfX8_ok zgX8_ok znX8_ok zoX8_ok (List.forall_mem_cons.mpr ⟨Or.inl ⟨yX8_turns, cX8_turns, 5, (some .int), rm_X8_turns, m_X8_turns l, rfl, rfl, by decide, zTb_in 740 (by decide +kernel) (by decide +kernel), k_X8_turns⟩,
  fun _ h => absurd h List.not_mem_nil⟩) (Or.inr rfl)
theorem k_X8_from : Cond.code yX8_from cX8_from 5 (some .int) ∈ zTb ∧ Cond.initialized yX8_from.cls ∈ zTb ∧ (yX8_from.cls ≠ "java/lang/invoke/MethodHandle" ∧ yX8_from.cls ≠ "java/lang/invoke/VarHandle") ∧ Cond.instanceMethod yX8_from ∈ zTb ∧ Cond.selects yX8_from.cls yX8_from yX8_from ∈ zTb ∧ (∃ (T : u_T) (N : Nat), vwCl[8]? = some (yX8_from.cls, T, N)) ∧ (parseMethodDescriptor yX8_from.desc).map (fun d => d.parameters.length + 1) = some 4 := ⟨zTb_in 747 (by decide +kernel) (by decide +kernel), zTb_in 44 (by decide +kernel) (by decide +kernel), by decide, zTb_in 746 (by decide +kernel) (by decide +kernel), zTb_in 16 (by decide +kernel) (by decide +kernel), ⟨_, _, rfl⟩, by decide +kernel⟩
def zd_X8_out : List zI := [(0, .iload_n 2, 1), (1, .sipush 900, 3), (4, .iload_n 2, 1), (5, .isub, 1), (6, .imul, 1), (7, .istore_n 3, 1), (8, .iload_n 3, 1), (9, .iload_n 3, 1), (10, .aload_n 0, 1), (11, .getfield 17, 3), (14, .imul, 1), (15, .bipush 100, 2), (17, .idiv, 1), (18, .isub, 1), (19, .istore_n 3, 1), (20, .iconst 0, 1), (21, .istore 4, 2), (23, .iload 4, 2), (25, .iload_n 1, 1), (26, .if_icmp .ge 19, 3), (29, .iload_n 3, 1), (30, .aload_n 0, 1), (31, .getfield 17, 3), (34, .imul, 1), (35, .bipush 100, 2), (37, .idiv, 1), (38, .istore_n 3, 1), (39, .iinc 4 1, 3), (42, .goto (-19), 3), (45, .iload_n 3, 1), (46, .iload_n 3, 1), (47, .aload_n 0, 1), (48, .getfield 17, 3), (51, .imul, 1), (52, .bipush 100, 2), (54, .idiv, 1), (55, .isub, 1), (56, .ireturn, 1)]
def M_X8_out : zM := (zd_X8_out, zfX8, zgX8, znX8, zoX8, [], [])
def R_X8_out : zRel := zR M_X8_out 5 (some .int)
def rm_X8_out : Room := { frames := 0, cells := 0, slots := 0, locals := 0 }
theorem dd_X8_out : ∀ q ∈ zd_X8_out, decode cX8_out q.1 = .ok (q.2.1, q.2.2) := by decide +kernel
theorem m_X8_out (l : Launch) : zMet l yX8_out cX8_out 5 (some .int) rm_X8_out R_X8_out := z_met (M := M_X8_out) (plainFor_of_name (by decide)) dd_X8_out (by decide +kernel) rfl zfX8_ok zgX8_ok znX8_ok zoX8_ok (fun _ h => absurd h List.not_mem_nil) (Or.inr rfl)
theorem k_X8_out : Cond.code yX8_out cX8_out 5 (some .int) ∈ zTb ∧ Cond.initialized yX8_out.cls ∈ zTb ∧ (yX8_out.cls ≠ "java/lang/invoke/MethodHandle" ∧ yX8_out.cls ≠ "java/lang/invoke/VarHandle") ∧ Cond.instanceMethod yX8_out ∈ zTb ∧ Cond.selects yX8_out.cls yX8_out yX8_out ∈ zTb ∧ (∃ (T : u_T) (N : Nat), vwCl[8]? = some (yX8_out.cls, T, N)) ∧ (parseMethodDescriptor yX8_out.desc).map (fun d => d.parameters.length + 1) = some 3 := ⟨zTb_in 751 (by decide +kernel) (by decide +kernel), zTb_in 44 (by decide +kernel) (by decide +kernel), by decide, zTb_in 750 (by decide +kernel) (by decide +kernel), zTb_in 17 (by decide +kernel) (by decide +kernel), ⟨_, _, rfl⟩, by decide +kernel⟩
def zd_X8_ray : List zI := [(0, .iload_n 1, 1), (1, .iconst 0, 1), (2, .iconst 5, 1), (3, .invokestatic 89, 3), (6, .ifCond .eq 33, 3), (9, .iload_n 2, 1), (10, .iconst 0, 1), (11, .iconst 3, 1), (12, .invokestatic 89, 3), (15, .ifCond .eq 24, 3), (18, .iload_n 3, 1), (19, .iconst 0, 1), (20, .sipush 900, 3), (23, .invokestatic 89, 3), (26, .ifCond .eq 13, 3), (29, .iload 4, 2), (31, .iconst 0, 1), (32, .iconst 4, 1), (33, .invokestatic 89, 3), (36, .ifCond .ne 6, 3), (39, .ldc 106, 2), (41, .ireturn, 1), (42, .iload 4, 2), (44, .tableswitch 63 0 3 #[32, 40, 48, 56], 32), (76, .aload_n 0, 1), (77, .iload_n 1, 1), (78, .iload_n 2, 1), (79, .iload_n 3, 1), (80, .invokevirtual 103, 3), (83, .ireturn, 1), (84, .aload_n 0, 1), (85, .iload_n 1, 1), (86, .iload_n 2, 1), (87, .iload_n 3, 1), (88, .invokevirtual 107, 3), (91, .ireturn, 1), (92, .iload_n 3, 1), (93, .sipush 900, 3), (96, .iload_n 3, 1), (97, .isub, 1), (98, .imul, 1), (99, .ireturn, 1), (100, .aload_n 0, 1), (101, .iload_n 1, 1), (102, .iload_n 3, 1), (103, .invokevirtual 110, 3), (106, .ireturn, 1), (107, .iload_n 3, 1), (108, .sipush 900, 3), (111, .iload_n 3, 1), (112, .isub, 1), (113, .imul, 1), (114, .aload_n 0, 1), (115, .iload_n 1, 1), (116, .iload_n 3, 1), (117, .invokevirtual 110, 3), (120, .isub, 1), (121, .ireturn, 1)]
def M_X8_ray : zM := (zd_X8_ray, zfX8, zgX8, znX8, zoX8, [(89, 3, 1, none, R_X8_in), (103, 4, 1, some 8, R_X8_turns), (107, 4, 1, some 8, R_X8_from), (110, 3, 1, some 8, R_X8_out)], [])
def R_X8_ray : zRel := zR M_X8_ray 5 (some .int)
def rm_X8_ray : Room := { frames := 3, cells := 0, slots := 0, locals := 73 }
theorem dd_X8_ray : ∀ q ∈ zd_X8_ray, decode cX8_ray q.1 = .ok (q.2.1, q.2.2) := by decide +kernel
theorem m_X8_ray (l : Launch) : zMet l yX8_ray cX8_ray 5 (some .int) rm_X8_ray R_X8_ray := z_met (M := M_X8_ray) (plainFor_of_name (by decide)) dd_X8_ray (by decide +kernel) rfl zfX8_ok zgX8_ok znX8_ok zoX8_ok (List.forall_mem_cons.mpr ⟨Or.inl ⟨yX8_in, cX8_in, 3, (some .boolean), rm_X8_in, m_X8_in l, rfl, rfl, by decide, zTb_in 712 (by decide +kernel) (by decide +kernel), k_X8_in⟩,
  List.forall_mem_cons.mpr ⟨Or.inl ⟨yX8_turns, cX8_turns, 5, (some .int), rm_X8_turns, m_X8_turns l, rfl, rfl, by decide, zTb_in 740 (by decide +kernel) (by decide +kernel), k_X8_turns⟩,
  List.forall_mem_cons.mpr ⟨Or.inl ⟨yX8_from, cX8_from, 5, (some .int), rm_X8_from, m_X8_from l, rfl, rfl, by decide, zTb_in 744 (by decide +kernel) (by decide +kernel), k_X8_from⟩,
  List.forall_mem_cons.mpr ⟨Or.inl ⟨yX8_out, cX8_out, 5, (some .int), rm_X8_out, m_X8_out l, rfl, rfl, by decide, zTb_in 748 (by decide +kernel) (by decide +kernel), k_X8_out⟩,
  fun _ h => absurd h List.not_mem_nil⟩⟩⟩⟩) (Or.inr rfl)
theorem k_X8_ray : Cond.code yX8_ray cX8_ray 5 (some .int) ∈ zTb ∧ Cond.initialized yX8_ray.cls ∈ zTb ∧ (yX8_ray.cls ≠ "java/lang/invoke/MethodHandle" ∧ yX8_ray.cls ≠ "java/lang/invoke/VarHandle") ∧ Cond.instanceMethod yX8_ray ∈ zTb ∧ Cond.selects yX8_ray.cls yX8_ray yX8_ray ∈ zTb ∧ (∃ (T : u_T) (N : Nat), vwCl[8]? = some (yX8_ray.cls, T, N)) ∧ (parseMethodDescriptor yX8_ray.desc).map (fun d => d.parameters.length + 1) = some 5 := ⟨zTb_in 738 (by decide +kernel) (by decide +kernel), zTb_in 44 (by decide +kernel) (by decide +kernel), by decide, zTb_in 736 (by decide +kernel) (by decide +kernel), zTb_in 737 (by decide +kernel) (by decide +kernel), ⟨_, _, rfl⟩, by decide +kernel⟩
def zd_X8_layMap : List zI := [(0, .iconst 0, 1), (1, .istore_n 3, 1), (2, .iload_n 3, 1), (3, .sipush 181, 3), (6, .if_icmp .ge 16, 3), (9, .aload_n 0, 1), (10, .getfield 56, 3), (13, .iload_n 3, 1), (14, .lconst 0, 1), (15, .lastore, 1), (16, .iinc 3 1, 3), (19, .goto (-17), 3), (22, .iconst 0, 1), (23, .istore_n 3, 1), (24, .iload_n 3, 1), (25, .sipush 900, 3), (28, .if_icmp .gt 34, 3), (31, .aload_n 0, 1), (32, .getfield 56, 3), (35, .aload_n 0, 1), (36, .iload_n 1, 1), (37, .iload_n 2, 1), (38, .iload_n 3, 1), (39, .invokevirtual 107, 3), (42, .bipush 10, 2), (44, .idiv, 1), (45, .dup2, 1), (46, .laload, 1), (47, .aload_n 0, 1), (48, .iload_n 1, 1), (49, .iload_n 3, 1), (50, .invokevirtual 110, 3), (53, .i2l, 1), (54, .ladd, 1), (55, .lastore, 1), (56, .iinc 3 5, 3), (59, .goto (-35), 3), (62, .return_, 1)]
def M_X8_layMap : zM := (zd_X8_layMap, zfX8, zgX8, znX8, zoX8, [(107, 4, 1, some 8, R_X8_from), (110, 3, 1, some 8, R_X8_out)], [])
def R_X8_layMap : zRel := zR M_X8_layMap 4 none
def rm_X8_layMap : Room := { frames := 3, cells := 0, slots := 0, locals := 73 }
theorem dd_X8_layMap : ∀ q ∈ zd_X8_layMap, decode cX8_layMap q.1 = .ok (q.2.1, q.2.2) := by decide +kernel
theorem m_X8_layMap (l : Launch) : zMet l yX8_layMap cX8_layMap 4 none rm_X8_layMap R_X8_layMap := z_met (M := M_X8_layMap) (plainFor_of_name (by decide)) dd_X8_layMap (by decide +kernel) rfl zfX8_ok zgX8_ok znX8_ok zoX8_ok (List.forall_mem_cons.mpr ⟨Or.inl ⟨yX8_from, cX8_from, 5, (some .int), rm_X8_from, m_X8_from l, rfl, rfl, by decide, zTb_in 744 (by decide +kernel) (by decide +kernel), k_X8_from⟩,
  List.forall_mem_cons.mpr ⟨Or.inl ⟨yX8_out, cX8_out, 5, (some .int), rm_X8_out, m_X8_out l, rfl, rfl, by decide, zTb_in 748 (by decide +kernel) (by decide +kernel), k_X8_out⟩,
  fun _ h => absurd h List.not_mem_nil⟩⟩) (Or.inr rfl)
theorem k_X8_layMap : Cond.code yX8_layMap cX8_layMap 4 none ∈ zTb ∧ Cond.initialized yX8_layMap.cls ∈ zTb ∧ (yX8_layMap.cls ≠ "java/lang/invoke/MethodHandle" ∧ yX8_layMap.cls ≠ "java/lang/invoke/VarHandle") ∧ Cond.instanceMethod yX8_layMap ∈ zTb ∧ Cond.selects yX8_layMap.cls yX8_layMap yX8_layMap ∈ zTb ∧ (∃ (T : u_T) (N : Nat), vwCl[8]? = some (yX8_layMap.cls, T, N)) ∧ (parseMethodDescriptor yX8_layMap.desc).map (fun d => d.parameters.length + 1) = some 3 := ⟨zTb_in 760 (by decide +kernel) (by decide +kernel), zTb_in 44 (by decide +kernel) (by decide +kernel), by decide, zTb_in 759 (by decide +kernel) (by decide +kernel), zTb_in 18 (by decide +kernel) (by decide +kernel), ⟨_, _, rfl⟩, by decide +kernel⟩
def zd_X8_bowOf : List zI := [(0, .iconst 0, 1), (1, .istore_n 1, 1), (2, .iconst 1, 1), (3, .istore_n 2, 1), (4, .iload_n 2, 1), (5, .sipush 181, 3), (8, .if_icmp .ge 31, 3), (11, .aload_n 0, 1), (12, .getfield 56, 3), (15, .iload_n 2, 1), (16, .laload, 1), (17, .aload_n 0, 1), (18, .getfield 56, 3), (21, .iload_n 1, 1), (22, .laload, 1), (23, .lcmp, 1), (24, .ifCond .le 7, 3), (27, .iload_n 2, 1), (28, .goto 4, 3), (31, .iload_n 1, 1), (32, .istore_n 1, 1), (33, .iinc 2 1, 3), (36, .goto (-32), 3), (39, .aload_n 0, 1), (40, .getfield 56, 3), (43, .iload_n 1, 1), (44, .laload, 1), (45, .lconst 0, 1), (46, .lcmp, 1), (47, .ifCond .ne 8, 3), (50, .bipush (-4), 2), (52, .goto 4, 3), (55, .iload_n 1, 1), (56, .ireturn, 1)]
def M_X8_bowOf : zM := (zd_X8_bowOf, zfX8, zgX8, znX8, zoX8, [], [])
def R_X8_bowOf : zRel := zR M_X8_bowOf 3 (some .int)
def rm_X8_bowOf : Room := { frames := 0, cells := 0, slots := 0, locals := 0 }
theorem dd_X8_bowOf : ∀ q ∈ zd_X8_bowOf, decode cX8_bowOf q.1 = .ok (q.2.1, q.2.2) := by decide +kernel
theorem m_X8_bowOf (l : Launch) : zMet l yX8_bowOf cX8_bowOf 3 (some .int) rm_X8_bowOf R_X8_bowOf := z_met (M := M_X8_bowOf) (plainFor_of_name (by decide)) dd_X8_bowOf (by decide +kernel) rfl zfX8_ok zgX8_ok znX8_ok zoX8_ok (fun _ h => absurd h List.not_mem_nil) (Or.inr rfl)
theorem k_X8_bowOf : Cond.code yX8_bowOf cX8_bowOf 3 (some .int) ∈ zTb ∧ Cond.initialized yX8_bowOf.cls ∈ zTb ∧ (yX8_bowOf.cls ≠ "java/lang/invoke/MethodHandle" ∧ yX8_bowOf.cls ≠ "java/lang/invoke/VarHandle") ∧ Cond.instanceMethod yX8_bowOf ∈ zTb ∧ Cond.selects yX8_bowOf.cls yX8_bowOf yX8_bowOf ∈ zTb ∧ (∃ (T : u_T) (N : Nat), vwCl[8]? = some (yX8_bowOf.cls, T, N)) ∧ (parseMethodDescriptor yX8_bowOf.desc).map (fun d => d.parameters.length + 1) = some 1 := ⟨zTb_in 769 (by decide +kernel) (by decide +kernel), zTb_in 44 (by decide +kernel) (by decide +kernel), by decide, zTb_in 768 (by decide +kernel) (by decide +kernel), zTb_in 19 (by decide +kernel) (by decide +kernel), ⟨_, _, rfl⟩, by decide +kernel⟩
def zd_X8_map : List zI := [(0, .iload_n 1, 1), (1, .iconst 0, 1), (2, .iconst 5, 1), (3, .invokestatic 89, 3), (6, .ifCond .eq 23, 3), (9, .iload_n 2, 1), (10, .iconst 0, 1), (11, .iconst 3, 1), (12, .invokestatic 89, 3), (15, .ifCond .eq 14, 3), (18, .iload_n 3, 1), (19, .iconst 0, 1), (20, .sipush 180, 3), (23, .invokestatic 89, 3), (26, .ifCond .ne 7, 3), (29, .ldc2_w 114, 3), (32, .lreturn, 1), (33, .aload_n 0, 1), (34, .iload_n 1, 1), (35, .iload_n 2, 1), (36, .invokevirtual 116, 3), (39, .aload_n 0, 1), (40, .getfield 56, 3), (43, .iload_n 3, 1), (44, .laload, 1), (45, .lreturn, 1)]
def M_X8_map : zM := (zd_X8_map, zfX8, zgX8, znX8, zoX8, [(89, 3, 1, none, R_X8_in), (116, 3, 0, some 8, R_X8_layMap)], [])
def R_X8_map : zRel := zR M_X8_map 4 (some .long)
def rm_X8_map : Room := { frames := 4, cells := 0, slots := 0, locals := 96 }
theorem dd_X8_map : ∀ q ∈ zd_X8_map, decode cX8_map q.1 = .ok (q.2.1, q.2.2) := by decide +kernel
theorem m_X8_map (l : Launch) : zMet l yX8_map cX8_map 4 (some .long) rm_X8_map R_X8_map := z_met (M := M_X8_map) (plainFor_of_name (by decide)) dd_X8_map (by decide +kernel) rfl zfX8_ok zgX8_ok znX8_ok zoX8_ok (List.forall_mem_cons.mpr ⟨Or.inl ⟨yX8_in, cX8_in, 3, (some .boolean), rm_X8_in, m_X8_in l, rfl, rfl, by decide, zTb_in 712 (by decide +kernel) (by decide +kernel), k_X8_in⟩,
  List.forall_mem_cons.mpr ⟨Or.inl ⟨yX8_layMap, cX8_layMap, 4, none, rm_X8_layMap, m_X8_layMap l, rfl, rfl, by decide, zTb_in 757 (by decide +kernel) (by decide +kernel), k_X8_layMap⟩,
  fun _ h => absurd h List.not_mem_nil⟩⟩) (Or.inr rfl)
theorem k_X8_map : Cond.code yX8_map cX8_map 4 (some .long) ∈ zTb ∧ Cond.initialized yX8_map.cls ∈ zTb ∧ (yX8_map.cls ≠ "java/lang/invoke/MethodHandle" ∧ yX8_map.cls ≠ "java/lang/invoke/VarHandle") ∧ Cond.instanceMethod yX8_map ∈ zTb ∧ Cond.selects yX8_map.cls yX8_map yX8_map ∈ zTb ∧ (∃ (T : u_T) (N : Nat), vwCl[8]? = some (yX8_map.cls, T, N)) ∧ (parseMethodDescriptor yX8_map.desc).map (fun d => d.parameters.length + 1) = some 4 := ⟨zTb_in 755 (by decide +kernel) (by decide +kernel), zTb_in 44 (by decide +kernel) (by decide +kernel), by decide, zTb_in 753 (by decide +kernel) (by decide +kernel), zTb_in 754 (by decide +kernel) (by decide +kernel), ⟨_, _, rfl⟩, by decide +kernel⟩
def zd_X8_bow : List zI := [(0, .iload_n 1, 1), (1, .iconst 0, 1), (2, .iconst 5, 1), (3, .invokestatic 89, 3), (6, .ifCond .eq 33, 3), (9, .iload_n 2, 1), (10, .iconst 0, 1), (11, .iconst 3, 1), (12, .invokestatic 89, 3), (15, .ifCond .eq 24, 3), (18, .iload_n 3, 1), (19, .iconst 0, 1), (20, .sipush 900, 3), (23, .invokestatic 89, 3), (26, .ifCond .eq 13, 3), (29, .iload 4, 2), (31, .iconst 0, 1), (32, .iconst 2, 1), (33, .invokestatic 89, 3), (36, .ifCond .ne 6, 3), (39, .ldc 120, 2), (41, .ireturn, 1), (42, .aload_n 0, 1), (43, .iload_n 1, 1), (44, .iload_n 2, 1), (45, .invokevirtual 116, 3), (48, .aload_n 0, 1), (49, .invokevirtual 121, 3), (52, .istore 5, 2), (54, .iload 4, 2), (56, .iconst 2, 1), (57, .if_icmp .ne 40, 3), (60, .iload 5, 2), (62, .bipush (-4), 2), (64, .if_icmp .ne 7, 3), (67, .iconst (-1), 1), (68, .goto 14, 3), (71, .sipush 1800, 3), (74, .bipush 10, 2), (76, .iload 5, 2), (78, .imul, 1), (79, .isub, 1), (80, .iload_n 3, 1), (81, .isub, 1), (82, .istore 6, 2), (84, .iload 6, 2), (86, .ifCond .ge 8, 3), (89, .ldc 106, 2), (91, .goto 5, 3), (94, .iload 6, 2), (96, .ireturn, 1), (97, .iload 5, 2), (99, .bipush (-4), 2), (101, .if_icmp .eq 8, 3), (104, .iload 4, 2), (106, .ifCond .ne 6, 3), (109, .iload 5, 2), (111, .ireturn, 1), (112, .iload 5, 2), (114, .istore 6, 2), (116, .iload 6, 2), (118, .ifCond .le 33, 3), (121, .ldc2_w 125, 3), (124, .aload_n 0, 1), (125, .getfield 56, 3), (128, .iload 6, 2), (130, .iconst 1, 1), (131, .isub, 1), (132, .laload, 1), (133, .lmul, 1), (134, .aload_n 0, 1), (135, .getfield 56, 3), (138, .iload 5, 2), (140, .laload, 1), (141, .lcmp, 1), (142, .ifCond .lt 9, 3), (145, .iinc 6 (-1), 3), (148, .goto (-32), 3), (151, .iload 5, 2), (153, .istore 7, 2), (155, .iload 7, 2), (157, .sipush 180, 3), (160, .if_icmp .ge 33, 3), (163, .ldc2_w 125, 3), (166, .aload_n 0, 1), (167, .getfield 56, 3), (170, .iload 7, 2), (172, .iconst 1, 1), (173, .iadd, 1), (174, .laload, 1), (175, .lmul, 1), (176, .aload_n 0, 1), (177, .getfield 56, 3), (180, .iload 5, 2), (182, .laload, 1), (183, .lcmp, 1), (184, .ifCond .lt 9, 3), (187, .iinc 7 1, 3), (190, .goto (-35), 3), (193, .iload 7, 2), (195, .iload 6, 2), (197, .isub, 1), (198, .iconst 1, 1), (199, .iadd, 1), (200, .ireturn, 1)]
def M_X8_bow : zM := (zd_X8_bow, zfX8, zgX8, znX8, zoX8, [(89, 3, 1, none, R_X8_in), (116, 3, 0, some 8, R_X8_layMap), (121, 1, 1, some 8, R_X8_bowOf)], [])
def R_X8_bow : zRel := zR M_X8_bow 8 (some .int)
def rm_X8_bow : Room := { frames := 4, cells := 0, slots := 0, locals := 96 }
theorem dd_X8_bow : ∀ q ∈ zd_X8_bow, decode cX8_bow q.1 = .ok (q.2.1, q.2.2) := by decide +kernel
theorem m_X8_bow (l : Launch) : zMet l yX8_bow cX8_bow 8 (some .int) rm_X8_bow R_X8_bow := z_met (M := M_X8_bow) (plainFor_of_name (by decide)) dd_X8_bow (by decide +kernel) rfl zfX8_ok zgX8_ok znX8_ok zoX8_ok (List.forall_mem_cons.mpr ⟨Or.inl ⟨yX8_in, cX8_in, 3, (some .boolean), rm_X8_in, m_X8_in l, rfl, rfl, by decide, zTb_in 712 (by decide +kernel) (by decide +kernel), k_X8_in⟩,
  List.forall_mem_cons.mpr ⟨Or.inl ⟨yX8_layMap, cX8_layMap, 4, none, rm_X8_layMap, m_X8_layMap l, rfl, rfl, by decide, zTb_in 757 (by decide +kernel) (by decide +kernel), k_X8_layMap⟩,
  List.forall_mem_cons.mpr ⟨Or.inl ⟨yX8_bowOf, cX8_bowOf, 3, (some .int), rm_X8_bowOf, m_X8_bowOf l, rfl, rfl, by decide, zTb_in 766 (by decide +kernel) (by decide +kernel), k_X8_bowOf⟩,
  fun _ h => absurd h List.not_mem_nil⟩⟩⟩) (Or.inr rfl)
theorem k_X8_bow : Cond.code yX8_bow cX8_bow 8 (some .int) ∈ zTb ∧ Cond.initialized yX8_bow.cls ∈ zTb ∧ (yX8_bow.cls ≠ "java/lang/invoke/MethodHandle" ∧ yX8_bow.cls ≠ "java/lang/invoke/VarHandle") ∧ Cond.instanceMethod yX8_bow ∈ zTb ∧ Cond.selects yX8_bow.cls yX8_bow yX8_bow ∈ zTb ∧ (∃ (T : u_T) (N : Nat), vwCl[8]? = some (yX8_bow.cls, T, N)) ∧ (parseMethodDescriptor yX8_bow.desc).map (fun d => d.parameters.length + 1) = some 5 := ⟨zTb_in 764 (by decide +kernel) (by decide +kernel), zTb_in 44 (by decide +kernel) (by decide +kernel), by decide, zTb_in 762 (by decide +kernel) (by decide +kernel), zTb_in 763 (by decide +kernel) (by decide +kernel), ⟨_, _, rfl⟩, by decide +kernel⟩
def zd_X8_dark : List zI := [(0, .iload_n 1, 1), (1, .iconst 0, 1), (2, .iconst 5, 1), (3, .invokestatic 89, 3), (6, .ifCond .eq 17, 3), (9, .iload_n 2, 1), (10, .iconst 0, 1), (11, .iconst 5, 1), (12, .invokestatic 89, 3), (15, .ifCond .eq 8, 3), (18, .iload_n 1, 1), (19, .iload_n 2, 1), (20, .if_icmp .ne 5, 3), (23, .iconst (-1), 1), (24, .ireturn, 1), (25, .aload_n 0, 1), (26, .iload_n 1, 1), (27, .iconst 0, 1), (28, .invokevirtual 116, 3), (31, .aload_n 0, 1), (32, .invokevirtual 121, 3), (35, .istore_n 3, 1), (36, .iconst 0, 1), (37, .istore 4, 2), (39, .iload 4, 2), (41, .sipush 181, 3), (44, .if_icmp .ge 33, 3), (47, .aload_n 0, 1), (48, .getfield 60, 3), (51, .iload 4, 2), (53, .aload_n 0, 1), (54, .getfield 56, 3), (57, .iload 4, 2), (59, .laload, 1), (60, .lconst 0, 1), (61, .lcmp, 1), (62, .ifCond .le 7, 3), (65, .iconst 1, 1), (66, .goto 4, 3), (69, .iconst 0, 1), (70, .bastore, 1), (71, .iinc 4 1, 3), (74, .goto (-35), 3), (77, .aload_n 0, 1), (78, .iload_n 2, 1), (79, .iconst 0, 1), (80, .invokevirtual 116, 3), (83, .aload_n 0, 1), (84, .invokevirtual 121, 3), (87, .istore 4, 2), (89, .iload_n 3, 1), (90, .bipush (-4), 2), (92, .if_icmp .eq 10, 3), (95, .iload 4, 2), (97, .bipush (-4), 2), (99, .if_icmp .ne 6, 3), (102, .bipush (-2), 2), (104, .ireturn, 1), (105, .iload_n 3, 1), (106, .iload 4, 2), (108, .if_icmp .ge 7, 3), (111, .iload_n 3, 1), (112, .goto 5, 3), (115, .iload 4, 2), (117, .istore 5, 2), (119, .iload_n 3, 1), (120, .iload 4, 2), (122, .if_icmp .ge 8, 3), (125, .iload 4, 2), (127, .goto 4, 3), (130, .iload_n 3, 1), (131, .istore 6, 2), (133, .iconst 0, 1), (134, .istore 7, 2), (136, .iconst 0, 1), (137, .istore 8, 2), (139, .iload 5, 2), (141, .iconst 1, 1), (142, .iadd, 1), (143, .istore 9, 2), (145, .iload 9, 2), (147, .iload 6, 2), (149, .if_icmp .ge 57, 3), (152, .aload_n 0, 1), (153, .getfield 60, 3), (156, .iload 9, 2), (158, .baload, 1), (159, .ifCond .ne 15, 3), (162, .aload_n 0, 1), (163, .getfield 56, 3), (166, .iload 9, 2), (168, .laload, 1), (169, .lconst 0, 1), (170, .lcmp, 1), (171, .ifCond .le 7, 3), (174, .iconst 0, 1), (175, .goto 7, 3), (178, .iload 8, 2), (180, .iconst 1, 1), (181, .iadd, 1), (182, .istore 8, 2), (184, .iload 8, 2), (186, .iload 7, 2), (188, .if_icmp .le 8, 3), (191, .iload 8, 2), (193, .goto 5, 3), (196, .iload 7, 2), (198, .istore 7, 2), (200, .iinc 9 1, 3), (203, .goto (-58), 3), (206, .iload 7, 2), (208, .ireturn, 1)]
def M_X8_dark : zM := (zd_X8_dark, zfX8, zgX8, znX8, zoX8, [(89, 3, 1, none, R_X8_in), (116, 3, 0, some 8, R_X8_layMap), (121, 1, 1, some 8, R_X8_bowOf)], [])
def R_X8_dark : zRel := zR M_X8_dark 10 (some .int)
def rm_X8_dark : Room := { frames := 4, cells := 0, slots := 0, locals := 96 }
theorem dd_X8_dark : ∀ q ∈ zd_X8_dark, decode cX8_dark q.1 = .ok (q.2.1, q.2.2) := by decide +kernel
theorem m_X8_dark (l : Launch) : zMet l yX8_dark cX8_dark 10 (some .int) rm_X8_dark R_X8_dark := z_met (M := M_X8_dark) (plainFor_of_name (by decide)) dd_X8_dark (by decide +kernel) rfl zfX8_ok zgX8_ok znX8_ok zoX8_ok (List.forall_mem_cons.mpr ⟨Or.inl ⟨yX8_in, cX8_in, 3, (some .boolean), rm_X8_in, m_X8_in l, rfl, rfl, by decide, zTb_in 712 (by decide +kernel) (by decide +kernel), k_X8_in⟩,
  List.forall_mem_cons.mpr ⟨Or.inl ⟨yX8_layMap, cX8_layMap, 4, none, rm_X8_layMap, m_X8_layMap l, rfl, rfl, by decide, zTb_in 757 (by decide +kernel) (by decide +kernel), k_X8_layMap⟩,
  List.forall_mem_cons.mpr ⟨Or.inl ⟨yX8_bowOf, cX8_bowOf, 3, (some .int), rm_X8_bowOf, m_X8_bowOf l, rfl, rfl, by decide, zTb_in 766 (by decide +kernel) (by decide +kernel), k_X8_bowOf⟩,
  fun _ h => absurd h List.not_mem_nil⟩⟩⟩) (Or.inr rfl)
theorem k_X8_dark : Cond.code yX8_dark cX8_dark 10 (some .int) ∈ zTb ∧ Cond.initialized yX8_dark.cls ∈ zTb ∧ (yX8_dark.cls ≠ "java/lang/invoke/MethodHandle" ∧ yX8_dark.cls ≠ "java/lang/invoke/VarHandle") ∧ Cond.instanceMethod yX8_dark ∈ zTb ∧ Cond.selects yX8_dark.cls yX8_dark yX8_dark ∈ zTb ∧ (∃ (T : u_T) (N : Nat), vwCl[8]? = some (yX8_dark.cls, T, N)) ∧ (parseMethodDescriptor yX8_dark.desc).map (fun d => d.parameters.length + 1) = some 3 := ⟨zTb_in 774 (by decide +kernel) (by decide +kernel), zTb_in 44 (by decide +kernel) (by decide +kernel), by decide, zTb_in 772 (by decide +kernel) (by decide +kernel), zTb_in 773 (by decide +kernel) (by decide +kernel), ⟨_, _, rfl⟩, by decide +kernel⟩
def zd_X8_hasWedge : List zI := [(0, .iconst 0, 1), (1, .istore_n 3, 1), (2, .iconst 0, 1), (3, .istore 4, 2), (5, .iload 4, 2), (7, .aload_n 0, 1), (8, .getfield 26, 3), (11, .iload_n 1, 1), (12, .iaload, 1), (13, .if_icmp .ge 34, 3), (16, .iload_n 3, 1), (17, .ifCond .ne 18, 3), (20, .aload_n 0, 1), (21, .getfield 29, 3), (24, .iconst 3, 1), (25, .iload_n 1, 1), (26, .imul, 1), (27, .iload 4, 2), (29, .iadd, 1), (30, .iaload, 1), (31, .iload_n 2, 1), (32, .if_icmp .ne 7, 3), (35, .iconst 1, 1), (36, .goto 4, 3), (39, .iconst 0, 1), (40, .istore_n 3, 1), (41, .iinc 4 1, 3), (44, .goto (-39), 3), (47, .iload_n 3, 1), (48, .ireturn, 1)]
def M_X8_hasWedge : zM := (zd_X8_hasWedge, zfX8, zgX8, znX8, zoX8, [], [])
def R_X8_hasWedge : zRel := zR M_X8_hasWedge 5 (some .boolean)
def rm_X8_hasWedge : Room := { frames := 0, cells := 0, slots := 0, locals := 0 }
theorem dd_X8_hasWedge : ∀ q ∈ zd_X8_hasWedge, decode cX8_hasWedge q.1 = .ok (q.2.1, q.2.2) := by decide +kernel
theorem m_X8_hasWedge (l : Launch) : zMet l yX8_hasWedge cX8_hasWedge 5 (some .boolean) rm_X8_hasWedge R_X8_hasWedge := z_met (M := M_X8_hasWedge) (plainFor_of_name (by decide)) dd_X8_hasWedge (by decide +kernel) rfl zfX8_ok zgX8_ok znX8_ok zoX8_ok (fun _ h => absurd h List.not_mem_nil) (Or.inr rfl)
theorem k_X8_hasWedge : Cond.code yX8_hasWedge cX8_hasWedge 5 (some .boolean) ∈ zTb ∧ Cond.initialized yX8_hasWedge.cls ∈ zTb ∧ (yX8_hasWedge.cls ≠ "java/lang/invoke/MethodHandle" ∧ yX8_hasWedge.cls ≠ "java/lang/invoke/VarHandle") ∧ Cond.instanceMethod yX8_hasWedge ∈ zTb ∧ Cond.selects yX8_hasWedge.cls yX8_hasWedge yX8_hasWedge ∈ zTb ∧ (∃ (T : u_T) (N : Nat), vwCl[8]? = some (yX8_hasWedge.cls, T, N)) ∧ (parseMethodDescriptor yX8_hasWedge.desc).map (fun d => d.parameters.length + 1) = some 3 := ⟨zTb_in 782 (by decide +kernel) (by decide +kernel), zTb_in 44 (by decide +kernel) (by decide +kernel), by decide, zTb_in 781 (by decide +kernel) (by decide +kernel), zTb_in 20 (by decide +kernel) (by decide +kernel), ⟨_, _, rfl⟩, by decide +kernel⟩
def zd_X8_wedge : List zI := [(0, .iload_n 1, 1), (1, .iconst 0, 1), (2, .iconst 3, 1), (3, .invokestatic 89, 3), (6, .ifCond .eq 16, 3), (9, .iload_n 2, 1), (10, .sipush 200, 3), (13, .sipush 1200, 3), (16, .invokestatic 89, 3), (19, .ifCond .ne 5, 3), (22, .iconst (-1), 1), (23, .ireturn, 1), (24, .aload_n 0, 1), (25, .iload_n 1, 1), (26, .iload_n 2, 1), (27, .invokevirtual 127, 3), (30, .ifCond .eq 6, 3), (33, .bipush (-2), 2), (35, .ireturn, 1), (36, .aload_n 0, 1), (37, .getfield 26, 3), (40, .iload_n 1, 1), (41, .iaload, 1), (42, .iconst 3, 1), (43, .if_icmp .ne 6, 3), (46, .bipush (-3), 2), (48, .ireturn, 1), (49, .aload_n 0, 1), (50, .getfield 29, 3), (53, .iconst 3, 1), (54, .iload_n 1, 1), (55, .imul, 1), (56, .aload_n 0, 1), (57, .getfield 26, 3), (60, .iload_n 1, 1), (61, .iaload, 1), (62, .iadd, 1), (63, .iload_n 2, 1), (64, .iastore, 1), (65, .aload_n 0, 1), (66, .getfield 26, 3), (69, .iload_n 1, 1), (70, .dup2, 1), (71, .iaload, 1), (72, .iconst 1, 1), (73, .iadd, 1), (74, .iastore, 1), (75, .aload_n 0, 1), (76, .getfield 26, 3), (79, .iload_n 1, 1), (80, .iaload, 1), (81, .ireturn, 1)]
def M_X8_wedge : zM := (zd_X8_wedge, zfX8, zgX8, znX8, zoX8, [(89, 3, 1, none, R_X8_in), (127, 3, 1, some 8, R_X8_hasWedge)], [])
def R_X8_wedge : zRel := zR M_X8_wedge 3 (some .int)
def rm_X8_wedge : Room := { frames := 1, cells := 0, slots := 0, locals := 24 }
theorem dd_X8_wedge : ∀ q ∈ zd_X8_wedge, decode cX8_wedge q.1 = .ok (q.2.1, q.2.2) := by decide +kernel
theorem m_X8_wedge (l : Launch) : zMet l yX8_wedge cX8_wedge 3 (some .int) rm_X8_wedge R_X8_wedge := z_met (M := M_X8_wedge) (plainFor_of_name (by decide)) dd_X8_wedge (by decide +kernel) rfl zfX8_ok zgX8_ok znX8_ok zoX8_ok (List.forall_mem_cons.mpr ⟨Or.inl ⟨yX8_in, cX8_in, 3, (some .boolean), rm_X8_in, m_X8_in l, rfl, rfl, by decide, zTb_in 712 (by decide +kernel) (by decide +kernel), k_X8_in⟩,
  List.forall_mem_cons.mpr ⟨Or.inl ⟨yX8_hasWedge, cX8_hasWedge, 5, (some .boolean), rm_X8_hasWedge, m_X8_hasWedge l, rfl, rfl, by decide, zTb_in 779 (by decide +kernel) (by decide +kernel), k_X8_hasWedge⟩,
  fun _ h => absurd h List.not_mem_nil⟩⟩) (Or.inr rfl)
theorem k_X8_wedge : Cond.code yX8_wedge cX8_wedge 3 (some .int) ∈ zTb ∧ Cond.initialized yX8_wedge.cls ∈ zTb ∧ (yX8_wedge.cls ≠ "java/lang/invoke/MethodHandle" ∧ yX8_wedge.cls ≠ "java/lang/invoke/VarHandle") ∧ Cond.instanceMethod yX8_wedge ∈ zTb ∧ Cond.selects yX8_wedge.cls yX8_wedge yX8_wedge ∈ zTb ∧ (∃ (T : u_T) (N : Nat), vwCl[8]? = some (yX8_wedge.cls, T, N)) ∧ (parseMethodDescriptor yX8_wedge.desc).map (fun d => d.parameters.length + 1) = some 3 := ⟨zTb_in 778 (by decide +kernel) (by decide +kernel), zTb_in 44 (by decide +kernel) (by decide +kernel), by decide, zTb_in 776 (by decide +kernel) (by decide +kernel), zTb_in 777 (by decide +kernel) (by decide +kernel), ⟨_, _, rfl⟩, by decide +kernel⟩
def zd_X8_noWedges : List zI := [(0, .iload_n 1, 1), (1, .iconst 0, 1), (2, .iconst 3, 1), (3, .invokestatic 89, 3), (6, .ifCond .ne 5, 3), (9, .iconst (-1), 1), (10, .ireturn, 1), (11, .aload_n 0, 1), (12, .getfield 26, 3), (15, .iload_n 1, 1), (16, .iaload, 1), (17, .istore_n 2, 1), (18, .aload_n 0, 1), (19, .getfield 26, 3), (22, .iload_n 1, 1), (23, .iconst 0, 1), (24, .iastore, 1), (25, .iload_n 2, 1), (26, .ireturn, 1)]
def M_X8_noWedges : zM := (zd_X8_noWedges, zfX8, zgX8, znX8, zoX8, [(89, 3, 1, none, R_X8_in)], [])
def R_X8_noWedges : zRel := zR M_X8_noWedges 3 (some .int)
def rm_X8_noWedges : Room := { frames := 1, cells := 0, slots := 0, locals := 22 }
theorem dd_X8_noWedges : ∀ q ∈ zd_X8_noWedges, decode cX8_noWedges q.1 = .ok (q.2.1, q.2.2) := by decide +kernel
theorem m_X8_noWedges (l : Launch) : zMet l yX8_noWedges cX8_noWedges 3 (some .int) rm_X8_noWedges R_X8_noWedges := z_met (M := M_X8_noWedges) (plainFor_of_name (by decide)) dd_X8_noWedges (by decide +kernel) rfl zfX8_ok zgX8_ok znX8_ok zoX8_ok (List.forall_mem_cons.mpr ⟨Or.inl ⟨yX8_in, cX8_in, 3, (some .boolean), rm_X8_in, m_X8_in l, rfl, rfl, by decide, zTb_in 712 (by decide +kernel) (by decide +kernel), k_X8_in⟩,
  fun _ h => absurd h List.not_mem_nil⟩) (Or.inr rfl)
theorem k_X8_noWedges : Cond.code yX8_noWedges cX8_noWedges 3 (some .int) ∈ zTb ∧ Cond.initialized yX8_noWedges.cls ∈ zTb ∧ (yX8_noWedges.cls ≠ "java/lang/invoke/MethodHandle" ∧ yX8_noWedges.cls ≠ "java/lang/invoke/VarHandle") ∧ Cond.instanceMethod yX8_noWedges ∈ zTb ∧ Cond.selects yX8_noWedges.cls yX8_noWedges yX8_noWedges ∈ zTb ∧ (∃ (T : u_T) (N : Nat), vwCl[8]? = some (yX8_noWedges.cls, T, N)) ∧ (parseMethodDescriptor yX8_noWedges.desc).map (fun d => d.parameters.length + 1) = some 2 := ⟨zTb_in 786 (by decide +kernel) (by decide +kernel), zTb_in 44 (by decide +kernel) (by decide +kernel), by decide, zTb_in 784 (by decide +kernel) (by decide +kernel), zTb_in 785 (by decide +kernel) (by decide +kernel), ⟨_, _, rfl⟩, by decide +kernel⟩
def zd_X8_turnedBy : List zI := [(0, .iload_n 1, 1), (1, .aload_n 0, 1), (2, .iconst 1, 1), (3, .iload_n 2, 1), (4, .iload_n 3, 1), (5, .invokevirtual 96, 3), (8, .isub, 1), (9, .istore 4, 2), (11, .iload 4, 2), (13, .ifCond .ge 8, 3), (16, .bipush (-4), 2), (18, .goto 11, 3), (21, .aload_n 0, 1), (22, .iconst 1, 1), (23, .iload_n 2, 1), (24, .iload 4, 2), (26, .invokevirtual 100, 3), (29, .istore 5, 2), (31, .iload 5, 2), (33, .bipush (-4), 2), (35, .if_icmp .ne 9, 3), (38, .sipush (-10000), 3), (41, .goto 9, 3), (44, .iload_n 3, 1), (45, .iload 5, 2), (47, .iadd, 1), (48, .iload_n 1, 1), (49, .isub, 1), (50, .ireturn, 1)]
def M_X8_turnedBy : zM := (zd_X8_turnedBy, zfX8, zgX8, znX8, zoX8, [(96, 4, 1, some 8, R_X8_bent), (100, 4, 1, some 8, R_X8_least)], [])
def R_X8_turnedBy : zRel := zR M_X8_turnedBy 6 (some .int)
def rm_X8_turnedBy : Room := { frames := 2, cells := 0, slots := 0, locals := 51 }
theorem dd_X8_turnedBy : ∀ q ∈ zd_X8_turnedBy, decode cX8_turnedBy q.1 = .ok (q.2.1, q.2.2) := by decide +kernel
theorem m_X8_turnedBy (l : Launch) : zMet l yX8_turnedBy cX8_turnedBy 6 (some .int) rm_X8_turnedBy R_X8_turnedBy := z_met (M := M_X8_turnedBy) (plainFor_of_name (by decide)) dd_X8_turnedBy (by decide +kernel) rfl zfX8_ok zgX8_ok znX8_ok zoX8_ok (List.forall_mem_cons.mpr ⟨Or.inl ⟨yX8_bent, cX8_bent, 6, (some .int), rm_X8_bent, m_X8_bent l, rfl, rfl, by decide, zTb_in 723 (by decide +kernel) (by decide +kernel), k_X8_bent⟩,
  List.forall_mem_cons.mpr ⟨Or.inl ⟨yX8_least, cX8_least, 7, (some .int), rm_X8_least, m_X8_least l, rfl, rfl, by decide, zTb_in 731 (by decide +kernel) (by decide +kernel), k_X8_least⟩,
  fun _ h => absurd h List.not_mem_nil⟩⟩) (Or.inr rfl)
theorem k_X8_turnedBy : Cond.code yX8_turnedBy cX8_turnedBy 6 (some .int) ∈ zTb ∧ Cond.initialized yX8_turnedBy.cls ∈ zTb ∧ (yX8_turnedBy.cls ≠ "java/lang/invoke/MethodHandle" ∧ yX8_turnedBy.cls ≠ "java/lang/invoke/VarHandle") ∧ Cond.instanceMethod yX8_turnedBy ∈ zTb ∧ Cond.selects yX8_turnedBy.cls yX8_turnedBy yX8_turnedBy ∈ zTb ∧ (∃ (T : u_T) (N : Nat), vwCl[8]? = some (yX8_turnedBy.cls, T, N)) ∧ (parseMethodDescriptor yX8_turnedBy.desc).map (fun d => d.parameters.length + 1) = some 4 := ⟨zTb_in 794 (by decide +kernel) (by decide +kernel), zTb_in 44 (by decide +kernel) (by decide +kernel), by decide, zTb_in 793 (by decide +kernel) (by decide +kernel), zTb_in 21 (by decide +kernel) (by decide +kernel), ⟨_, _, rfl⟩, by decide +kernel⟩
end
section
def zd_X8_turned : List zI := [(0, .iload_n 1, 1), (1, .sipush 200, 3), (4, .sipush 1200, 3), (7, .invokestatic 89, 3), (10, .ifCond .eq 33, 3), (13, .iload_n 2, 1), (14, .iconst 0, 1), (15, .iconst 3, 1), (16, .invokestatic 89, 3), (19, .ifCond .eq 24, 3), (22, .iload_n 3, 1), (23, .iconst 0, 1), (24, .sipush 900, 3), (27, .invokestatic 89, 3), (30, .ifCond .eq 13, 3), (33, .aload_n 0, 1), (34, .iload_n 1, 1), (35, .iload_n 2, 1), (36, .iload_n 3, 1), (37, .invokevirtual 131, 3), (40, .goto 5, 3), (43, .ldc 106, 2), (45, .ireturn, 1)]
def M_X8_turned : zM := (zd_X8_turned, zfX8, zgX8, znX8, zoX8, [(89, 3, 1, none, R_X8_in), (131, 4, 1, some 8, R_X8_turnedBy)], [])
def R_X8_turned : zRel := zR M_X8_turned 4 (some .int)
def rm_X8_turned : Room := { frames := 3, cells := 0, slots := 0, locals := 76 }
theorem dd_X8_turned : ∀ q ∈ zd_X8_turned, decode cX8_turned q.1 = .ok (q.2.1, q.2.2) := by decide +kernel
theorem m_X8_turned (l : Launch) : zMet l yX8_turned cX8_turned 4 (some .int) rm_X8_turned R_X8_turned := z_met (M := M_X8_turned) (plainFor_of_name (by decide)) dd_X8_turned (by decide +kernel) rfl zfX8_ok zgX8_ok znX8_ok zoX8_ok (List.forall_mem_cons.mpr ⟨Or.inl ⟨yX8_in, cX8_in, 3, (some .boolean), rm_X8_in, m_X8_in l, rfl, rfl, by decide, zTb_in 712 (by decide +kernel) (by decide +kernel), k_X8_in⟩,
  List.forall_mem_cons.mpr ⟨Or.inl ⟨yX8_turnedBy, cX8_turnedBy, 6, (some .int), rm_X8_turnedBy, m_X8_turnedBy l, rfl, rfl, by decide, zTb_in 791 (by decide +kernel) (by decide +kernel), k_X8_turnedBy⟩,
  fun _ h => absurd h List.not_mem_nil⟩⟩) (Or.inr rfl)
theorem k_X8_turned : Cond.code yX8_turned cX8_turned 4 (some .int) ∈ zTb ∧ Cond.initialized yX8_turned.cls ∈ zTb ∧ (yX8_turned.cls ≠ "java/lang/invoke/MethodHandle" ∧ yX8_turned.cls ≠ "java/lang/invoke/VarHandle") ∧ Cond.instanceMethod yX8_turned ∈ zTb ∧ Cond.selects yX8_turned.cls yX8_turned yX8_turned ∈ zTb ∧ (∃ (T : u_T) (N : Nat), vwCl[8]? = some (yX8_turned.cls, T, N)) ∧ (parseMethodDescriptor yX8_turned.desc).map (fun d => d.parameters.length + 1) = some 4 := ⟨zTb_in 790 (by decide +kernel) (by decide +kernel), zTb_in 44 (by decide +kernel) (by decide +kernel), by decide, zTb_in 788 (by decide +kernel) (by decide +kernel), zTb_in 789 (by decide +kernel) (by decide +kernel), ⟨_, _, rfl⟩, by decide +kernel⟩
def zd_X8_ringOf : List zI := [(0, .sipush (-10000), 3), (3, .istore_n 3, 1), (4, .iconst 0, 1), (5, .istore 4, 2), (7, .iload 4, 2), (9, .sipush 900, 3), (12, .if_icmp .gt 47, 3), (15, .aload_n 0, 1), (16, .iload_n 1, 1), (17, .iload_n 2, 1), (18, .iload 4, 2), (20, .invokevirtual 131, 3), (23, .istore 5, 2), (25, .iload 5, 2), (27, .sipush (-10000), 3), (30, .if_icmp .eq 21, 3), (33, .iload_n 3, 1), (34, .sipush (-10000), 3), (37, .if_icmp .eq 9, 3), (40, .iload 5, 2), (42, .iload_n 3, 1), (43, .if_icmp .ge 8, 3), (46, .iload 5, 2), (48, .goto 4, 3), (51, .iload_n 3, 1), (52, .istore_n 3, 1), (53, .iinc 4 1, 3), (56, .goto (-49), 3), (59, .iload_n 3, 1), (60, .ireturn, 1)]
def M_X8_ringOf : zM := (zd_X8_ringOf, zfX8, zgX8, znX8, zoX8, [(131, 4, 1, some 8, R_X8_turnedBy)], [])
def R_X8_ringOf : zRel := zR M_X8_ringOf 6 (some .int)
def rm_X8_ringOf : Room := { frames := 3, cells := 0, slots := 0, locals := 76 }
theorem dd_X8_ringOf : ∀ q ∈ zd_X8_ringOf, decode cX8_ringOf q.1 = .ok (q.2.1, q.2.2) := by decide +kernel
theorem m_X8_ringOf (l : Launch) : zMet l yX8_ringOf cX8_ringOf 6 (some .int) rm_X8_ringOf R_X8_ringOf := z_met (M := M_X8_ringOf) (plainFor_of_name (by decide)) dd_X8_ringOf (by decide +kernel) rfl zfX8_ok zgX8_ok znX8_ok zoX8_ok (List.forall_mem_cons.mpr ⟨Or.inl ⟨yX8_turnedBy, cX8_turnedBy, 6, (some .int), rm_X8_turnedBy, m_X8_turnedBy l, rfl, rfl, by decide, zTb_in 791 (by decide +kernel) (by decide +kernel), k_X8_turnedBy⟩,
  fun _ h => absurd h List.not_mem_nil⟩) (Or.inr rfl)
theorem k_X8_ringOf : Cond.code yX8_ringOf cX8_ringOf 6 (some .int) ∈ zTb ∧ Cond.initialized yX8_ringOf.cls ∈ zTb ∧ (yX8_ringOf.cls ≠ "java/lang/invoke/MethodHandle" ∧ yX8_ringOf.cls ≠ "java/lang/invoke/VarHandle") ∧ Cond.instanceMethod yX8_ringOf ∈ zTb ∧ Cond.selects yX8_ringOf.cls yX8_ringOf yX8_ringOf ∈ zTb ∧ (∃ (T : u_T) (N : Nat), vwCl[8]? = some (yX8_ringOf.cls, T, N)) ∧ (parseMethodDescriptor yX8_ringOf.desc).map (fun d => d.parameters.length + 1) = some 3 := ⟨zTb_in 802 (by decide +kernel) (by decide +kernel), zTb_in 44 (by decide +kernel) (by decide +kernel), by decide, zTb_in 801 (by decide +kernel) (by decide +kernel), zTb_in 22 (by decide +kernel) (by decide +kernel), ⟨_, _, rfl⟩, by decide +kernel⟩
def zd_X8_ring : List zI := [(0, .iload_n 1, 1), (1, .sipush 200, 3), (4, .sipush 1200, 3), (7, .invokestatic 89, 3), (10, .ifCond .eq 21, 3), (13, .iload_n 2, 1), (14, .iconst 0, 1), (15, .iconst 3, 1), (16, .invokestatic 89, 3), (19, .ifCond .eq 12, 3), (22, .aload_n 0, 1), (23, .iload_n 1, 1), (24, .iload_n 2, 1), (25, .invokevirtual 134, 3), (28, .goto 5, 3), (31, .ldc 106, 2), (33, .ireturn, 1)]
def M_X8_ring : zM := (zd_X8_ring, zfX8, zgX8, znX8, zoX8, [(89, 3, 1, none, R_X8_in), (134, 3, 1, some 8, R_X8_ringOf)], [])
def R_X8_ring : zRel := zR M_X8_ring 3 (some .int)
def rm_X8_ring : Room := { frames := 4, cells := 0, slots := 0, locals := 101 }
theorem dd_X8_ring : ∀ q ∈ zd_X8_ring, decode cX8_ring q.1 = .ok (q.2.1, q.2.2) := by decide +kernel
theorem m_X8_ring (l : Launch) : zMet l yX8_ring cX8_ring 3 (some .int) rm_X8_ring R_X8_ring := z_met (M := M_X8_ring) (plainFor_of_name (by decide)) dd_X8_ring (by decide +kernel) rfl zfX8_ok zgX8_ok znX8_ok zoX8_ok (List.forall_mem_cons.mpr ⟨Or.inl ⟨yX8_in, cX8_in, 3, (some .boolean), rm_X8_in, m_X8_in l, rfl, rfl, by decide, zTb_in 712 (by decide +kernel) (by decide +kernel), k_X8_in⟩,
  List.forall_mem_cons.mpr ⟨Or.inl ⟨yX8_ringOf, cX8_ringOf, 6, (some .int), rm_X8_ringOf, m_X8_ringOf l, rfl, rfl, by decide, zTb_in 799 (by decide +kernel) (by decide +kernel), k_X8_ringOf⟩,
  fun _ h => absurd h List.not_mem_nil⟩⟩) (Or.inr rfl)
theorem k_X8_ring : Cond.code yX8_ring cX8_ring 3 (some .int) ∈ zTb ∧ Cond.initialized yX8_ring.cls ∈ zTb ∧ (yX8_ring.cls ≠ "java/lang/invoke/MethodHandle" ∧ yX8_ring.cls ≠ "java/lang/invoke/VarHandle") ∧ Cond.instanceMethod yX8_ring ∈ zTb ∧ Cond.selects yX8_ring.cls yX8_ring yX8_ring ∈ zTb ∧ (∃ (T : u_T) (N : Nat), vwCl[8]? = some (yX8_ring.cls, T, N)) ∧ (parseMethodDescriptor yX8_ring.desc).map (fun d => d.parameters.length + 1) = some 3 := ⟨zTb_in 798 (by decide +kernel) (by decide +kernel), zTb_in 44 (by decide +kernel) (by decide +kernel), by decide, zTb_in 796 (by decide +kernel) (by decide +kernel), zTb_in 797 (by decide +kernel) (by decide +kernel), ⟨_, _, rfl⟩, by decide +kernel⟩
def zd_X8_layRings : List zI := [(0, .iconst 0, 1), (1, .istore_n 1, 1), (2, .iload_n 1, 1), (3, .iconst 4, 1), (4, .if_icmp .ge 52, 3), (7, .iconst 0, 1), (8, .istore_n 2, 1), (9, .iload_n 2, 1), (10, .aload_n 0, 1), (11, .getfield 26, 3), (14, .iload_n 1, 1), (15, .iaload, 1), (16, .if_icmp .ge 34, 3), (19, .aload_n 0, 1), (20, .getfield 64, 3), (23, .iconst 3, 1), (24, .iload_n 1, 1), (25, .imul, 1), (26, .iload_n 2, 1), (27, .iadd, 1), (28, .aload_n 0, 1), (29, .aload_n 0, 1), (30, .getfield 29, 3), (33, .iconst 3, 1), (34, .iload_n 1, 1), (35, .imul, 1), (36, .iload_n 2, 1), (37, .iadd, 1), (38, .iaload, 1), (39, .iconst 0, 1), (40, .invokevirtual 134, 3), (43, .iastore, 1), (44, .iinc 2 1, 3), (47, .goto (-38), 3), (50, .iinc 1 1, 3), (53, .goto (-51), 3), (56, .return_, 1)]
def M_X8_layRings : zM := (zd_X8_layRings, zfX8, zgX8, znX8, zoX8, [(134, 3, 1, some 8, R_X8_ringOf)], [])
def R_X8_layRings : zRel := zR M_X8_layRings 3 none
def rm_X8_layRings : Room := { frames := 4, cells := 0, slots := 0, locals := 101 }
theorem dd_X8_layRings : ∀ q ∈ zd_X8_layRings, decode cX8_layRings q.1 = .ok (q.2.1, q.2.2) := by decide +kernel
theorem m_X8_layRings (l : Launch) : zMet l yX8_layRings cX8_layRings 3 none rm_X8_layRings R_X8_layRings := z_met (M := M_X8_layRings) (plainFor_of_name (by decide)) dd_X8_layRings (by decide +kernel) rfl zfX8_ok zgX8_ok znX8_ok zoX8_ok (List.forall_mem_cons.mpr ⟨Or.inl ⟨yX8_ringOf, cX8_ringOf, 6, (some .int), rm_X8_ringOf, m_X8_ringOf l, rfl, rfl, by decide, zTb_in 799 (by decide +kernel) (by decide +kernel), k_X8_ringOf⟩,
  fun _ h => absurd h List.not_mem_nil⟩) (Or.inr rfl)
theorem k_X8_layRings : Cond.code yX8_layRings cX8_layRings 3 none ∈ zTb ∧ Cond.initialized yX8_layRings.cls ∈ zTb ∧ (yX8_layRings.cls ≠ "java/lang/invoke/MethodHandle" ∧ yX8_layRings.cls ≠ "java/lang/invoke/VarHandle") ∧ Cond.instanceMethod yX8_layRings ∈ zTb ∧ Cond.selects yX8_layRings.cls yX8_layRings yX8_layRings ∈ zTb ∧ (∃ (T : u_T) (N : Nat), vwCl[8]? = some (yX8_layRings.cls, T, N)) ∧ (parseMethodDescriptor yX8_layRings.desc).map (fun d => d.parameters.length + 1) = some 1 := ⟨zTb_in 810 (by decide +kernel) (by decide +kernel), zTb_in 44 (by decide +kernel) (by decide +kernel), by decide, zTb_in 809 (by decide +kernel) (by decide +kernel), zTb_in 23 (by decide +kernel) (by decide +kernel), ⟨_, _, rfl⟩, by decide +kernel⟩
def zd_X8_put : List zI := [(0, .aload_n 0, 1), (1, .getfield 67, 3), (4, .aload_n 0, 1), (5, .getfield 137, 3), (8, .iload_n 1, 1), (9, .iastore, 1), (10, .aload_n 0, 1), (11, .getfield 70, 3), (14, .aload_n 0, 1), (15, .getfield 137, 3), (18, .iload_n 2, 1), (19, .iastore, 1), (20, .aload_n 0, 1), (21, .getfield 73, 3), (24, .aload_n 0, 1), (25, .getfield 137, 3), (28, .iload_n 3, 1), (29, .iastore, 1), (30, .aload_n 0, 1), (31, .getfield 76, 3), (34, .aload_n 0, 1), (35, .getfield 137, 3), (38, .iload 4, 2), (40, .iastore, 1), (41, .aload_n 0, 1), (42, .dup, 1), (43, .getfield 137, 3), (46, .iconst 1, 1), (47, .iadd, 1), (48, .putfield 137, 3), (51, .return_, 1)]
def M_X8_put : zM := (zd_X8_put, zfX8, zgX8, znX8, zoX8, [], [])
def R_X8_put : zRel := zR M_X8_put 5 none
def rm_X8_put : Room := { frames := 0, cells := 0, slots := 0, locals := 0 }
theorem dd_X8_put : ∀ q ∈ zd_X8_put, decode cX8_put q.1 = .ok (q.2.1, q.2.2) := by decide +kernel
theorem m_X8_put (l : Launch) : zMet l yX8_put cX8_put 5 none rm_X8_put R_X8_put := z_met (M := M_X8_put) (plainFor_of_name (by decide)) dd_X8_put (by decide +kernel) rfl zfX8_ok zgX8_ok znX8_ok zoX8_ok (fun _ h => absurd h List.not_mem_nil) (Or.inr rfl)
theorem k_X8_put : Cond.code yX8_put cX8_put 5 none ∈ zTb ∧ Cond.initialized yX8_put.cls ∈ zTb ∧ (yX8_put.cls ≠ "java/lang/invoke/MethodHandle" ∧ yX8_put.cls ≠ "java/lang/invoke/VarHandle") ∧ Cond.instanceMethod yX8_put ∈ zTb ∧ Cond.selects yX8_put.cls yX8_put yX8_put ∈ zTb ∧ (∃ (T : u_T) (N : Nat), vwCl[8]? = some (yX8_put.cls, T, N)) ∧ (parseMethodDescriptor yX8_put.desc).map (fun d => d.parameters.length + 1) = some 5 := ⟨zTb_in 822 (by decide +kernel) (by decide +kernel), zTb_in 44 (by decide +kernel) (by decide +kernel), by decide, zTb_in 821 (by decide +kernel) (by decide +kernel), zTb_in 26 (by decide +kernel) (by decide +kernel), ⟨_, _, rfl⟩, by decide +kernel⟩
def zd_X8_putRing : List zI := [(0, .iload_n 2, 1), (1, .iload_n 2, 1), (2, .iload_n 3, 1), (3, .imul, 1), (4, .aload_n 0, 1), (5, .getfield 20, 3), (8, .idiv, 1), (9, .iadd, 1), (10, .istore 4, 2), (12, .iload_n 3, 1), (13, .sipush 600, 3), (16, .if_icmp .gt 15, 3), (19, .iload 4, 2), (21, .sipush 1800, 3), (24, .if_icmp .gt 7, 3), (27, .iconst 1, 1), (28, .goto 4, 3), (31, .iconst 0, 1), (32, .istore 5, 2), (34, .iload_n 1, 1), (35, .tableswitch 87 0 2 #[25, 36, 54], 25), (60, .aload_n 0, 1), (61, .iconst 0, 1), (62, .iconst 0, 1), (63, .iload_n 2, 1), (64, .iload_n 2, 1), (65, .invokevirtual 140, 3), (68, .goto 73, 3), (71, .iload 5, 2), (73, .ifCond .eq 68, 3), (76, .aload_n 0, 1), (77, .iconst 2, 1), (78, .iconst 1, 1), (79, .iload 4, 2), (81, .iload 4, 2), (83, .invokevirtual 140, 3), (86, .goto 55, 3), (89, .iload_n 3, 1), (90, .iload_n 2, 1), (91, .iadd, 1), (92, .sipush 900, 3), (95, .if_icmp .gt 11, 3), (98, .aload_n 0, 1), (99, .iconst 1, 1), (100, .iconst 2, 1), (101, .iload_n 2, 1), (102, .iload_n 2, 1), (103, .invokevirtual 140, 3), (106, .iload_n 3, 1), (107, .iload_n 2, 1), (108, .if_icmp .lt 33, 3), (111, .aload_n 0, 1), (112, .iconst 1, 1), (113, .iconst 3, 1), (114, .iload_n 2, 1), (115, .iload_n 2, 1), (116, .invokevirtual 140, 3), (119, .goto 22, 3), (122, .iload 5, 2), (124, .ifCond .eq 17, 3), (127, .aload_n 0, 1), (128, .iconst 2, 1), (129, .iconst 1, 1), (130, .iload_n 2, 1), (131, .iload 4, 2), (133, .aload_n 0, 1), (134, .getfield 23, 3), (137, .iadd, 1), (138, .invokevirtual 140, 3), (141, .return_, 1)]
def M_X8_putRing : zM := (zd_X8_putRing, zfX8, zgX8, znX8, zoX8, [(140, 5, 0, some 8, R_X8_put)], [])
def R_X8_putRing : zRel := zR M_X8_putRing 6 none
def rm_X8_putRing : Room := { frames := 1, cells := 0, slots := 0, locals := 24 }
theorem dd_X8_putRing : ∀ q ∈ zd_X8_putRing, decode cX8_putRing q.1 = .ok (q.2.1, q.2.2) := by decide +kernel
theorem m_X8_putRing (l : Launch) : zMet l yX8_putRing cX8_putRing 6 none rm_X8_putRing R_X8_putRing := z_met (M := M_X8_putRing) (plainFor_of_name (by decide)) dd_X8_putRing (by decide +kernel) rfl zfX8_ok zgX8_ok znX8_ok zoX8_ok (List.forall_mem_cons.mpr ⟨Or.inl ⟨yX8_put, cX8_put, 5, none, rm_X8_put, m_X8_put l, rfl, rfl, by decide, zTb_in 819 (by decide +kernel) (by decide +kernel), k_X8_put⟩,
  fun _ h => absurd h List.not_mem_nil⟩) (Or.inr rfl)
theorem k_X8_putRing : Cond.code yX8_putRing cX8_putRing 6 none ∈ zTb ∧ Cond.initialized yX8_putRing.cls ∈ zTb ∧ (yX8_putRing.cls ≠ "java/lang/invoke/MethodHandle" ∧ yX8_putRing.cls ≠ "java/lang/invoke/VarHandle") ∧ Cond.instanceMethod yX8_putRing ∈ zTb ∧ Cond.selects yX8_putRing.cls yX8_putRing yX8_putRing ∈ zTb ∧ (∃ (T : u_T) (N : Nat), vwCl[8]? = some (yX8_putRing.cls, T, N)) ∧ (parseMethodDescriptor yX8_putRing.desc).map (fun d => d.parameters.length + 1) = some 4 := ⟨zTb_in 818 (by decide +kernel) (by decide +kernel), zTb_in 44 (by decide +kernel) (by decide +kernel), by decide, zTb_in 817 (by decide +kernel) (by decide +kernel), zTb_in 25 (by decide +kernel) (by decide +kernel), ⟨_, _, rfl⟩, by decide +kernel⟩
def zd_X8_layLights : List zI := [(0, .aload_n 0, 1), (1, .iconst 0, 1), (2, .putfield 137, 3), (5, .iload_n 1, 1), (6, .iconst 4, 1), (7, .idiv, 1), (8, .istore_n 3, 1), (9, .iload_n 1, 1), (10, .iconst 4, 1), (11, .irem, 1), (12, .istore 4, 2), (14, .iconst 0, 1), (15, .istore 5, 2), (17, .iload 5, 2), (19, .aload_n 0, 1), (20, .getfield 26, 3), (23, .iload_n 3, 1), (24, .iaload, 1), (25, .if_icmp .ge 44, 3), (28, .aload_n 0, 1), (29, .getfield 64, 3), (32, .iconst 3, 1), (33, .iload_n 3, 1), (34, .imul, 1), (35, .iload 5, 2), (37, .iadd, 1), (38, .iaload, 1), (39, .sipush (-10000), 3), (42, .if_icmp .eq 21, 3), (45, .aload_n 0, 1), (46, .iload 4, 2), (48, .aload_n 0, 1), (49, .getfield 64, 3), (52, .iconst 3, 1), (53, .iload_n 3, 1), (54, .imul, 1), (55, .iload 5, 2), (57, .iadd, 1), (58, .iaload, 1), (59, .iload_n 2, 1), (60, .invokevirtual 144, 3), (63, .iinc 5 1, 3), (66, .goto (-49), 3), (69, .iload 4, 2), (71, .iconst 1, 1), (72, .if_icmp .ne 26, 3), (75, .aload_n 0, 1), (76, .iload_n 3, 1), (77, .sipush 600, 3), (80, .invokevirtual 127, 3), (83, .ifCond .eq 15, 3), (86, .aload_n 0, 1), (87, .iconst 2, 1), (88, .iconst 1, 1), (89, .sipush 1200, 3), (92, .sipush 1200, 3), (95, .invokevirtual 140, 3), (98, .iload 4, 2), (100, .iconst 2, 1), (101, .if_icmp .ne 26, 3), (104, .aload_n 0, 1), (105, .iload_n 3, 1), (106, .sipush 900, 3), (109, .invokevirtual 127, 3), (112, .ifCond .eq 15, 3), (115, .aload_n 0, 1), (116, .iconst 2, 1), (117, .iconst 1, 1), (118, .sipush 1800, 3), (121, .sipush 1800, 3), (124, .invokevirtual 140, 3), (127, .iload 4, 2), (129, .iconst 3, 1), (130, .if_icmp .ne 13, 3), (133, .aload_n 0, 1), (134, .iconst 3, 1), (135, .iconst 1, 1), (136, .iconst 0, 1), (137, .sipush 1800, 3), (140, .invokevirtual 140, 3), (143, .return_, 1)]
def M_X8_layLights : zM := (zd_X8_layLights, zfX8, zgX8, znX8, zoX8, [(144, 4, 0, some 8, R_X8_putRing), (127, 3, 1, some 8, R_X8_hasWedge), (140, 5, 0, some 8, R_X8_put)], [])
def R_X8_layLights : zRel := zR M_X8_layLights 6 none
def rm_X8_layLights : Room := { frames := 2, cells := 0, slots := 0, locals := 49 }
theorem dd_X8_layLights : ∀ q ∈ zd_X8_layLights, decode cX8_layLights q.1 = .ok (q.2.1, q.2.2) := by decide +kernel
theorem m_X8_layLights (l : Launch) : zMet l yX8_layLights cX8_layLights 6 none rm_X8_layLights R_X8_layLights := z_met (M := M_X8_layLights) (plainFor_of_name (by decide)) dd_X8_layLights (by decide +kernel) rfl zfX8_ok zgX8_ok znX8_ok zoX8_ok (List.forall_mem_cons.mpr ⟨Or.inl ⟨yX8_putRing, cX8_putRing, 6, none, rm_X8_putRing, m_X8_putRing l, rfl, rfl, by decide, zTb_in 815 (by decide +kernel) (by decide +kernel), k_X8_putRing⟩,
  List.forall_mem_cons.mpr ⟨Or.inl ⟨yX8_hasWedge, cX8_hasWedge, 5, (some .boolean), rm_X8_hasWedge, m_X8_hasWedge l, rfl, rfl, by decide, zTb_in 779 (by decide +kernel) (by decide +kernel), k_X8_hasWedge⟩,
  List.forall_mem_cons.mpr ⟨Or.inl ⟨yX8_put, cX8_put, 5, none, rm_X8_put, m_X8_put l, rfl, rfl, by decide, zTb_in 819 (by decide +kernel) (by decide +kernel), k_X8_put⟩,
  fun _ h => absurd h List.not_mem_nil⟩⟩⟩) (Or.inr rfl)
theorem k_X8_layLights : Cond.code yX8_layLights cX8_layLights 6 none ∈ zTb ∧ Cond.initialized yX8_layLights.cls ∈ zTb ∧ (yX8_layLights.cls ≠ "java/lang/invoke/MethodHandle" ∧ yX8_layLights.cls ≠ "java/lang/invoke/VarHandle") ∧ Cond.instanceMethod yX8_layLights ∈ zTb ∧ Cond.selects yX8_layLights.cls yX8_layLights yX8_layLights ∈ zTb ∧ (∃ (T : u_T) (N : Nat), vwCl[8]? = some (yX8_layLights.cls, T, N)) ∧ (parseMethodDescriptor yX8_layLights.desc).map (fun d => d.parameters.length + 1) = some 3 := ⟨zTb_in 814 (by decide +kernel) (by decide +kernel), zTb_in 44 (by decide +kernel) (by decide +kernel), by decide, zTb_in 813 (by decide +kernel) (by decide +kernel), zTb_in 24 (by decide +kernel) (by decide +kernel), ⟨_, _, rfl⟩, by decide +kernel⟩
def zd_X8_light : List zI := [(0, .iload_n 1, 1), (1, .iconst 0, 1), (2, .bipush 15, 2), (4, .invokestatic 89, 3), (7, .ifCond .eq 29, 3), (10, .iload_n 2, 1), (11, .iconst 0, 1), (12, .sipush 900, 3), (15, .invokestatic 89, 3), (18, .ifCond .eq 18, 3), (21, .iload_n 3, 1), (22, .iconst (-1), 1), (23, .if_icmp .lt 13, 3), (26, .iload 4, 2), (28, .iconst 0, 1), (29, .iconst 3, 1), (30, .invokestatic 89, 3), (33, .ifCond .ne 5, 3), (36, .iconst (-1), 1), (37, .ireturn, 1), (38, .aload_n 0, 1), (39, .invokevirtual 148, 3), (42, .aload_n 0, 1), (43, .iload_n 1, 1), (44, .iload_n 2, 1), (45, .invokevirtual 151, 3), (48, .iload_n 3, 1), (49, .ifCond .ge 8, 3), (52, .aload_n 0, 1), (53, .getfield 137, 3), (56, .ireturn, 1), (57, .iload_n 3, 1), (58, .aload_n 0, 1), (59, .getfield 137, 3), (62, .if_icmp .lt 6, 3), (65, .bipush (-4), 2), (67, .ireturn, 1), (68, .iload 4, 2), (70, .ifCond .ne 12, 3), (73, .aload_n 0, 1), (74, .getfield 67, 3), (77, .iload_n 3, 1), (78, .iaload, 1), (79, .goto 39, 3), (82, .iload 4, 2), (84, .iconst 1, 1), (85, .if_icmp .ne 12, 3), (88, .aload_n 0, 1), (89, .getfield 70, 3), (92, .iload_n 3, 1), (93, .iaload, 1), (94, .goto 24, 3), (97, .iload 4, 2), (99, .iconst 2, 1), (100, .if_icmp .ne 12, 3), (103, .aload_n 0, 1), (104, .getfield 73, 3), (107, .iload_n 3, 1), (108, .iaload, 1), (109, .goto 9, 3), (112, .aload_n 0, 1), (113, .getfield 76, 3), (116, .iload_n 3, 1), (117, .iaload, 1), (118, .ireturn, 1)]
def M_X8_light : zM := (zd_X8_light, zfX8, zgX8, znX8, zoX8, [(89, 3, 1, none, R_X8_in), (148, 1, 0, some 8, R_X8_layRings), (151, 3, 0, some 8, R_X8_layLights)], [])
def R_X8_light : zRel := zR M_X8_light 5 (some .int)
def rm_X8_light : Room := { frames := 5, cells := 0, slots := 0, locals := 123 }
theorem dd_X8_light : ∀ q ∈ zd_X8_light, decode cX8_light q.1 = .ok (q.2.1, q.2.2) := by decide +kernel
theorem m_X8_light (l : Launch) : zMet l yX8_light cX8_light 5 (some .int) rm_X8_light R_X8_light := z_met (M := M_X8_light) (plainFor_of_name (by decide)) dd_X8_light (by decide +kernel) rfl zfX8_ok zgX8_ok znX8_ok zoX8_ok (List.forall_mem_cons.mpr ⟨Or.inl ⟨yX8_in, cX8_in, 3, (some .boolean), rm_X8_in, m_X8_in l, rfl, rfl, by decide, zTb_in 712 (by decide +kernel) (by decide +kernel), k_X8_in⟩,
  List.forall_mem_cons.mpr ⟨Or.inl ⟨yX8_layRings, cX8_layRings, 3, none, rm_X8_layRings, m_X8_layRings l, rfl, rfl, by decide, zTb_in 807 (by decide +kernel) (by decide +kernel), k_X8_layRings⟩,
  List.forall_mem_cons.mpr ⟨Or.inl ⟨yX8_layLights, cX8_layLights, 6, none, rm_X8_layLights, m_X8_layLights l, rfl, rfl, by decide, zTb_in 811 (by decide +kernel) (by decide +kernel), k_X8_layLights⟩,
  fun _ h => absurd h List.not_mem_nil⟩⟩⟩) (Or.inr rfl)
theorem k_X8_light : Cond.code yX8_light cX8_light 5 (some .int) ∈ zTb ∧ Cond.initialized yX8_light.cls ∈ zTb ∧ (yX8_light.cls ≠ "java/lang/invoke/MethodHandle" ∧ yX8_light.cls ≠ "java/lang/invoke/VarHandle") ∧ Cond.instanceMethod yX8_light ∈ zTb ∧ Cond.selects yX8_light.cls yX8_light yX8_light ∈ zTb ∧ (∃ (T : u_T) (N : Nat), vwCl[8]? = some (yX8_light.cls, T, N)) ∧ (parseMethodDescriptor yX8_light.desc).map (fun d => d.parameters.length + 1) = some 5 := ⟨zTb_in 806 (by decide +kernel) (by decide +kernel), zTb_in 44 (by decide +kernel) (by decide +kernel), by decide, zTb_in 804 (by decide +kernel) (by decide +kernel), zTb_in 805 (by decide +kernel) (by decide +kernel), ⟨_, _, rfl⟩, by decide +kernel⟩
def zd_X8_mark : List zI := [(0, .iload_n 1, 1), (1, .iconst (-1), 1), (2, .iconst 3, 1), (3, .invokestatic 89, 3), (6, .ifCond .eq 35, 3), (9, .iload_n 2, 1), (10, .iconst (-1), 1), (11, .iconst 3, 1), (12, .invokestatic 89, 3), (15, .ifCond .eq 26, 3), (18, .iload_n 3, 1), (19, .iconst 0, 1), (20, .sipush 1800, 3), (23, .invokestatic 89, 3), (26, .ifCond .eq 15, 3), (29, .iload 4, 2), (31, .iconst 0, 1), (32, .sipush 200, 3), (35, .invokestatic 89, 3), (38, .ifCond .ne 5, 3), (41, .iconst (-1), 1), (42, .ireturn, 1), (43, .aload_n 0, 1), (44, .getfield 154, 3), (47, .bipush 12, 2), (49, .if_icmp .ne 6, 3), (52, .bipush (-3), 2), (54, .ireturn, 1), (55, .aload_n 0, 1), (56, .getfield 32, 3), (59, .aload_n 0, 1), (60, .getfield 154, 3), (63, .iload_n 1, 1), (64, .iastore, 1), (65, .aload_n 0, 1), (66, .getfield 35, 3), (69, .aload_n 0, 1), (70, .getfield 154, 3), (73, .iload_n 2, 1), (74, .iastore, 1), (75, .aload_n 0, 1), (76, .getfield 38, 3), (79, .aload_n 0, 1), (80, .getfield 154, 3), (83, .iload_n 3, 1), (84, .iastore, 1), (85, .aload_n 0, 1), (86, .getfield 41, 3), (89, .aload_n 0, 1), (90, .getfield 154, 3), (93, .iload 4, 2), (95, .iastore, 1), (96, .aload_n 0, 1), (97, .dup, 1), (98, .getfield 154, 3), (101, .iconst 1, 1), (102, .iadd, 1), (103, .putfield 154, 3), (106, .aload_n 0, 1), (107, .getfield 154, 3), (110, .ireturn, 1)]
def M_X8_mark : zM := (zd_X8_mark, zfX8, zgX8, znX8, zoX8, [(89, 3, 1, none, R_X8_in)], [])
def R_X8_mark : zRel := zR M_X8_mark 5 (some .int)
def rm_X8_mark : Room := { frames := 1, cells := 0, slots := 0, locals := 22 }
theorem dd_X8_mark : ∀ q ∈ zd_X8_mark, decode cX8_mark q.1 = .ok (q.2.1, q.2.2) := by decide +kernel
theorem m_X8_mark (l : Launch) : zMet l yX8_mark cX8_mark 5 (some .int) rm_X8_mark R_X8_mark := z_met (M := M_X8_mark) (plainFor_of_name (by decide)) dd_X8_mark (by decide +kernel) rfl zfX8_ok zgX8_ok znX8_ok zoX8_ok (List.forall_mem_cons.mpr ⟨Or.inl ⟨yX8_in, cX8_in, 3, (some .boolean), rm_X8_in, m_X8_in l, rfl, rfl, by decide, zTb_in 712 (by decide +kernel) (by decide +kernel), k_X8_in⟩,
  fun _ h => absurd h List.not_mem_nil⟩) (Or.inr rfl)
theorem k_X8_mark : Cond.code yX8_mark cX8_mark 5 (some .int) ∈ zTb ∧ Cond.initialized yX8_mark.cls ∈ zTb ∧ (yX8_mark.cls ≠ "java/lang/invoke/MethodHandle" ∧ yX8_mark.cls ≠ "java/lang/invoke/VarHandle") ∧ Cond.instanceMethod yX8_mark ∈ zTb ∧ Cond.selects yX8_mark.cls yX8_mark yX8_mark ∈ zTb ∧ (∃ (T : u_T) (N : Nat), vwCl[8]? = some (yX8_mark.cls, T, N)) ∧ (parseMethodDescriptor yX8_mark.desc).map (fun d => d.parameters.length + 1) = some 5 := ⟨zTb_in 826 (by decide +kernel) (by decide +kernel), zTb_in 44 (by decide +kernel) (by decide +kernel), by decide, zTb_in 824 (by decide +kernel) (by decide +kernel), zTb_in 825 (by decide +kernel) (by decide +kernel), ⟨_, _, rfl⟩, by decide +kernel⟩
def zd_X8_wipe : List zI := [(0, .aload_n 0, 1), (1, .getfield 154, 3), (4, .istore_n 1, 1), (5, .aload_n 0, 1), (6, .iconst 0, 1), (7, .putfield 154, 3), (10, .iload_n 1, 1), (11, .ireturn, 1)]
def M_X8_wipe : zM := (zd_X8_wipe, zfX8, zgX8, znX8, zoX8, [], [])
def R_X8_wipe : zRel := zR M_X8_wipe 2 (some .int)
def rm_X8_wipe : Room := { frames := 0, cells := 0, slots := 0, locals := 0 }
theorem dd_X8_wipe : ∀ q ∈ zd_X8_wipe, decode cX8_wipe q.1 = .ok (q.2.1, q.2.2) := by decide +kernel
theorem m_X8_wipe (l : Launch) : zMet l yX8_wipe cX8_wipe 2 (some .int) rm_X8_wipe R_X8_wipe := z_met (M := M_X8_wipe) (plainFor_of_name (by decide)) dd_X8_wipe (by decide +kernel) rfl zfX8_ok zgX8_ok znX8_ok zoX8_ok (fun _ h => absurd h List.not_mem_nil) (Or.inr rfl)
theorem k_X8_wipe : Cond.code yX8_wipe cX8_wipe 2 (some .int) ∈ zTb ∧ Cond.initialized yX8_wipe.cls ∈ zTb ∧ (yX8_wipe.cls ≠ "java/lang/invoke/MethodHandle" ∧ yX8_wipe.cls ≠ "java/lang/invoke/VarHandle") ∧ Cond.instanceMethod yX8_wipe ∈ zTb ∧ Cond.selects yX8_wipe.cls yX8_wipe yX8_wipe ∈ zTb ∧ (∃ (T : u_T) (N : Nat), vwCl[8]? = some (yX8_wipe.cls, T, N)) ∧ (parseMethodDescriptor yX8_wipe.desc).map (fun d => d.parameters.length + 1) = some 1 := ⟨zTb_in 830 (by decide +kernel) (by decide +kernel), zTb_in 44 (by decide +kernel) (by decide +kernel), by decide, zTb_in 828 (by decide +kernel) (by decide +kernel), zTb_in 829 (by decide +kernel) (by decide +kernel), ⟨_, _, rfl⟩, by decide +kernel⟩
def zd_X8_meets : List zI := [(0, .aload_n 0, 1), (1, .getfield 32, 3), (4, .iload_n 2, 1), (5, .iaload, 1), (6, .ifCond .lt 18, 3), (9, .aload_n 0, 1), (10, .getfield 32, 3), (13, .iload_n 2, 1), (14, .iaload, 1), (15, .aload_n 0, 1), (16, .getfield 67, 3), (19, .iload_n 1, 1), (20, .iaload, 1), (21, .if_icmp .ne 7, 3), (24, .iconst 1, 1), (25, .goto 4, 3), (28, .iconst 0, 1), (29, .istore_n 3, 1), (30, .aload_n 0, 1), (31, .getfield 35, 3), (34, .iload_n 2, 1), (35, .iaload, 1), (36, .ifCond .lt 18, 3), (39, .aload_n 0, 1), (40, .getfield 35, 3), (43, .iload_n 2, 1), (44, .iaload, 1), (45, .aload_n 0, 1), (46, .getfield 70, 3), (49, .iload_n 1, 1), (50, .iaload, 1), (51, .if_icmp .ne 7, 3), (54, .iconst 1, 1), (55, .goto 4, 3), (58, .iconst 0, 1), (59, .istore 4, 2), (61, .iload_n 3, 1), (62, .ifCond .eq 56, 3), (65, .iload 4, 2), (67, .ifCond .eq 51, 3), (70, .aload_n 0, 1), (71, .getfield 38, 3), (74, .iload_n 2, 1), (75, .iaload, 1), (76, .aload_n 0, 1), (77, .getfield 73, 3), (80, .iload_n 1, 1), (81, .iaload, 1), (82, .aload_n 0, 1), (83, .getfield 41, 3), (86, .iload_n 2, 1), (87, .iaload, 1), (88, .isub, 1), (89, .if_icmp .lt 29, 3), (92, .aload_n 0, 1), (93, .getfield 38, 3), (96, .iload_n 2, 1), (97, .iaload, 1), (98, .aload_n 0, 1), (99, .getfield 76, 3), (102, .iload_n 1, 1), (103, .iaload, 1), (104, .aload_n 0, 1), (105, .getfield 41, 3), (108, .iload_n 2, 1), (109, .iaload, 1), (110, .iadd, 1), (111, .if_icmp .gt 7, 3), (114, .iconst 1, 1), (115, .goto 4, 3), (118, .iconst 0, 1), (119, .ireturn, 1)]
def M_X8_meets : zM := (zd_X8_meets, zfX8, zgX8, znX8, zoX8, [], [])
def R_X8_meets : zRel := zR M_X8_meets 5 (some .boolean)
def rm_X8_meets : Room := { frames := 0, cells := 0, slots := 0, locals := 0 }
theorem dd_X8_meets : ∀ q ∈ zd_X8_meets, decode cX8_meets q.1 = .ok (q.2.1, q.2.2) := by decide +kernel
theorem m_X8_meets (l : Launch) : zMet l yX8_meets cX8_meets 5 (some .boolean) rm_X8_meets R_X8_meets := z_met (M := M_X8_meets) (plainFor_of_name (by decide)) dd_X8_meets (by decide +kernel) rfl zfX8_ok zgX8_ok znX8_ok zoX8_ok (fun _ h => absurd h List.not_mem_nil) (Or.inr rfl)
theorem k_X8_meets : Cond.code yX8_meets cX8_meets 5 (some .boolean) ∈ zTb ∧ Cond.initialized yX8_meets.cls ∈ zTb ∧ (yX8_meets.cls ≠ "java/lang/invoke/MethodHandle" ∧ yX8_meets.cls ≠ "java/lang/invoke/VarHandle") ∧ Cond.instanceMethod yX8_meets ∈ zTb ∧ Cond.selects yX8_meets.cls yX8_meets yX8_meets ∈ zTb ∧ (∃ (T : u_T) (N : Nat), vwCl[8]? = some (yX8_meets.cls, T, N)) ∧ (parseMethodDescriptor yX8_meets.desc).map (fun d => d.parameters.length + 1) = some 3 := ⟨zTb_in 846 (by decide +kernel) (by decide +kernel), zTb_in 44 (by decide +kernel) (by decide +kernel), by decide, zTb_in 845 (by decide +kernel) (by decide +kernel), zTb_in 28 (by decide +kernel) (by decide +kernel), ⟨_, _, rfl⟩, by decide +kernel⟩
def zd_X8_layMet : List zI := [(0, .iconst 0, 1), (1, .istore_n 2, 1), (2, .iload_n 2, 1), (3, .bipush 16, 2), (5, .if_icmp .ge 82, 3), (8, .aload_n 0, 1), (9, .iload_n 2, 1), (10, .iload_n 1, 1), (11, .invokevirtual 151, 3), (14, .aload_n 0, 1), (15, .getfield 79, 3), (18, .iload_n 2, 1), (19, .iconst 0, 1), (20, .iastore, 1), (21, .iconst 0, 1), (22, .istore_n 3, 1), (23, .iload_n 3, 1), (24, .aload_n 0, 1), (25, .getfield 154, 3), (28, .if_icmp .ge 53, 3), (31, .iconst 0, 1), (32, .istore 4, 2), (34, .iload 4, 2), (36, .aload_n 0, 1), (37, .getfield 137, 3), (40, .if_icmp .ge 35, 3), (43, .aload_n 0, 1), (44, .getfield 79, 3), (47, .iload_n 2, 1), (48, .dup2, 1), (49, .iaload, 1), (50, .aload_n 0, 1), (51, .iload 4, 2), (53, .iload_n 3, 1), (54, .invokevirtual 157, 3), (57, .ifCond .eq 9, 3), (60, .iconst 1, 1), (61, .iload_n 3, 1), (62, .ishl, 1), (63, .goto 4, 3), (66, .iconst 0, 1), (67, .ior, 1), (68, .iastore, 1), (69, .iinc 4 1, 3), (72, .goto (-38), 3), (75, .iinc 3 1, 3), (78, .goto (-55), 3), (81, .iinc 2 1, 3), (84, .goto (-82), 3), (87, .return_, 1)]
def M_X8_layMet : zM := (zd_X8_layMet, zfX8, zgX8, znX8, zoX8, [(151, 3, 0, some 8, R_X8_layLights), (157, 3, 1, some 8, R_X8_meets)], [])
def R_X8_layMet : zRel := zR M_X8_layMet 5 none
def rm_X8_layMet : Room := { frames := 3, cells := 0, slots := 0, locals := 74 }
theorem dd_X8_layMet : ∀ q ∈ zd_X8_layMet, decode cX8_layMet q.1 = .ok (q.2.1, q.2.2) := by decide +kernel
theorem m_X8_layMet (l : Launch) : zMet l yX8_layMet cX8_layMet 5 none rm_X8_layMet R_X8_layMet := z_met (M := M_X8_layMet) (plainFor_of_name (by decide)) dd_X8_layMet (by decide +kernel) rfl zfX8_ok zgX8_ok znX8_ok zoX8_ok (List.forall_mem_cons.mpr ⟨Or.inl ⟨yX8_layLights, cX8_layLights, 6, none, rm_X8_layLights, m_X8_layLights l, rfl, rfl, by decide, zTb_in 811 (by decide +kernel) (by decide +kernel), k_X8_layLights⟩,
  List.forall_mem_cons.mpr ⟨Or.inl ⟨yX8_meets, cX8_meets, 5, (some .boolean), rm_X8_meets, m_X8_meets l, rfl, rfl, by decide, zTb_in 843 (by decide +kernel) (by decide +kernel), k_X8_meets⟩,
  fun _ h => absurd h List.not_mem_nil⟩⟩) (Or.inr rfl)
theorem k_X8_layMet : Cond.code yX8_layMet cX8_layMet 5 none ∈ zTb ∧ Cond.initialized yX8_layMet.cls ∈ zTb ∧ (yX8_layMet.cls ≠ "java/lang/invoke/MethodHandle" ∧ yX8_layMet.cls ≠ "java/lang/invoke/VarHandle") ∧ Cond.instanceMethod yX8_layMet ∈ zTb ∧ Cond.selects yX8_layMet.cls yX8_layMet yX8_layMet ∈ zTb ∧ (∃ (T : u_T) (N : Nat), vwCl[8]? = some (yX8_layMet.cls, T, N)) ∧ (parseMethodDescriptor yX8_layMet.desc).map (fun d => d.parameters.length + 1) = some 2 := ⟨zTb_in 842 (by decide +kernel) (by decide +kernel), zTb_in 44 (by decide +kernel) (by decide +kernel), by decide, zTb_in 841 (by decide +kernel) (by decide +kernel), zTb_in 27 (by decide +kernel) (by decide +kernel), ⟨_, _, rfl⟩, by decide +kernel⟩
def zd_X8_metBy : List zI := [(0, .iconst 0, 1), (1, .istore_n 2, 1), (2, .iconst 0, 1), (3, .istore_n 3, 1), (4, .iload_n 3, 1), (5, .bipush 16, 2), (7, .if_icmp .ge 31, 3), (10, .iload_n 2, 1), (11, .iload_n 1, 1), (12, .iload_n 3, 1), (13, .ishr, 1), (14, .iconst 1, 1), (15, .iand, 1), (16, .iconst 1, 1), (17, .if_icmp .ne 12, 3), (20, .aload_n 0, 1), (21, .getfield 79, 3), (24, .iload_n 3, 1), (25, .iaload, 1), (26, .goto 4, 3), (29, .iconst 0, 1), (30, .ior, 1), (31, .istore_n 2, 1), (32, .iinc 3 1, 3), (35, .goto (-31), 3), (38, .iload_n 2, 1), (39, .ireturn, 1)]
def M_X8_metBy : zM := (zd_X8_metBy, zfX8, zgX8, znX8, zoX8, [], [])
def R_X8_metBy : zRel := zR M_X8_metBy 4 (some .int)
def rm_X8_metBy : Room := { frames := 0, cells := 0, slots := 0, locals := 0 }
theorem dd_X8_metBy : ∀ q ∈ zd_X8_metBy, decode cX8_metBy q.1 = .ok (q.2.1, q.2.2) := by decide +kernel
theorem m_X8_metBy (l : Launch) : zMet l yX8_metBy cX8_metBy 4 (some .int) rm_X8_metBy R_X8_metBy := z_met (M := M_X8_metBy) (plainFor_of_name (by decide)) dd_X8_metBy (by decide +kernel) rfl zfX8_ok zgX8_ok znX8_ok zoX8_ok (fun _ h => absurd h List.not_mem_nil) (Or.inr rfl)
theorem k_X8_metBy : Cond.code yX8_metBy cX8_metBy 4 (some .int) ∈ zTb ∧ Cond.initialized yX8_metBy.cls ∈ zTb ∧ (yX8_metBy.cls ≠ "java/lang/invoke/MethodHandle" ∧ yX8_metBy.cls ≠ "java/lang/invoke/VarHandle") ∧ Cond.instanceMethod yX8_metBy ∈ zTb ∧ Cond.selects yX8_metBy.cls yX8_metBy yX8_metBy ∈ zTb ∧ (∃ (T : u_T) (N : Nat), vwCl[8]? = some (yX8_metBy.cls, T, N)) ∧ (parseMethodDescriptor yX8_metBy.desc).map (fun d => d.parameters.length + 1) = some 2 := ⟨zTb_in 850 (by decide +kernel) (by decide +kernel), zTb_in 44 (by decide +kernel) (by decide +kernel), by decide, zTb_in 849 (by decide +kernel) (by decide +kernel), zTb_in 29 (by decide +kernel) (by decide +kernel), ⟨_, _, rfl⟩, by decide +kernel⟩
def zd_X8_allMarks : List zI := [(0, .iconst 1, 1), (1, .aload_n 0, 1), (2, .getfield 154, 3), (5, .ishl, 1), (6, .iconst 1, 1), (7, .isub, 1), (8, .ireturn, 1)]
def M_X8_allMarks : zM := (zd_X8_allMarks, zfX8, zgX8, znX8, zoX8, [], [])
def R_X8_allMarks : zRel := zR M_X8_allMarks 1 (some .int)
def rm_X8_allMarks : Room := { frames := 0, cells := 0, slots := 0, locals := 0 }
theorem dd_X8_allMarks : ∀ q ∈ zd_X8_allMarks, decode cX8_allMarks q.1 = .ok (q.2.1, q.2.2) := by decide +kernel
theorem m_X8_allMarks (l : Launch) : zMet l yX8_allMarks cX8_allMarks 1 (some .int) rm_X8_allMarks R_X8_allMarks := z_met (M := M_X8_allMarks) (plainFor_of_name (by decide)) dd_X8_allMarks (by decide +kernel) rfl zfX8_ok zgX8_ok znX8_ok zoX8_ok (fun _ h => absurd h List.not_mem_nil) (Or.inr rfl)
theorem k_X8_allMarks : Cond.code yX8_allMarks cX8_allMarks 1 (some .int) ∈ zTb ∧ Cond.initialized yX8_allMarks.cls ∈ zTb ∧ (yX8_allMarks.cls ≠ "java/lang/invoke/MethodHandle" ∧ yX8_allMarks.cls ≠ "java/lang/invoke/VarHandle") ∧ Cond.instanceMethod yX8_allMarks ∈ zTb ∧ Cond.selects yX8_allMarks.cls yX8_allMarks yX8_allMarks ∈ zTb ∧ (∃ (T : u_T) (N : Nat), vwCl[8]? = some (yX8_allMarks.cls, T, N)) ∧ (parseMethodDescriptor yX8_allMarks.desc).map (fun d => d.parameters.length + 1) = some 1 := ⟨zTb_in 854 (by decide +kernel) (by decide +kernel), zTb_in 44 (by decide +kernel) (by decide +kernel), by decide, zTb_in 853 (by decide +kernel) (by decide +kernel), zTb_in 30 (by decide +kernel) (by decide +kernel), ⟨_, _, rfl⟩, by decide +kernel⟩
def zd_X8_isAsked : List zI := [(0, .iload_n 0, 1), (1, .iconst 0, 1), (2, .ldc 160, 2), (4, .invokestatic 89, 3), (7, .ifCond .eq 18, 3), (10, .iload_n 1, 1), (11, .iconst 0, 1), (12, .sipush 900, 3), (15, .invokestatic 89, 3), (18, .ifCond .eq 7, 3), (21, .iconst 1, 1), (22, .goto 4, 3), (25, .iconst 0, 1), (26, .ireturn, 1)]
def M_X8_isAsked : zM := (zd_X8_isAsked, zfX8, zgX8, znX8, zoX8, [(89, 3, 1, none, R_X8_in)], [])
def R_X8_isAsked : zRel := zR M_X8_isAsked 2 (some .boolean)
def rm_X8_isAsked : Room := { frames := 1, cells := 0, slots := 0, locals := 22 }
theorem dd_X8_isAsked : ∀ q ∈ zd_X8_isAsked, decode cX8_isAsked q.1 = .ok (q.2.1, q.2.2) := by decide +kernel
theorem m_X8_isAsked (l : Launch) : zMet l yX8_isAsked cX8_isAsked 2 (some .boolean) rm_X8_isAsked R_X8_isAsked := z_met (M := M_X8_isAsked) (plainFor_of_name (by decide)) dd_X8_isAsked (by decide +kernel) rfl zfX8_ok zgX8_ok znX8_ok zoX8_ok (List.forall_mem_cons.mpr ⟨Or.inl ⟨yX8_in, cX8_in, 3, (some .boolean), rm_X8_in, m_X8_in l, rfl, rfl, by decide, zTb_in 712 (by decide +kernel) (by decide +kernel), k_X8_in⟩,
  fun _ h => absurd h List.not_mem_nil⟩) (Or.inr rfl)
theorem k_X8_isAsked : Cond.code yX8_isAsked cX8_isAsked 2 (some .boolean) ∈ zTb ∧ Cond.initialized yX8_isAsked.cls ∈ zTb ∧ (yX8_isAsked.cls ≠ "java/lang/invoke/MethodHandle" ∧ yX8_isAsked.cls ≠ "java/lang/invoke/VarHandle") ∧ Cond.static yX8_isAsked ∈ zTb ∧ (parseMethodDescriptor yX8_isAsked.desc).map (fun d => d.parameters.length) = some 2 := ⟨zTb_in 837 (by decide +kernel) (by decide +kernel), zTb_in 44 (by decide +kernel) (by decide +kernel), by decide, zTb_in 836 (by decide +kernel) (by decide +kernel), by decide +kernel⟩
def zd_X8_explains : List zI := [(0, .iload_n 1, 1), (1, .iload_n 2, 1), (2, .invokestatic 161, 3), (5, .ifCond .ne 5, 3), (8, .iconst (-1), 1), (9, .ireturn, 1), (10, .aload_n 0, 1), (11, .invokevirtual 148, 3), (14, .aload_n 0, 1), (15, .iload_n 2, 1), (16, .invokevirtual 164, 3), (19, .aload_n 0, 1), (20, .iload_n 1, 1), (21, .invokevirtual 168, 3), (24, .aload_n 0, 1), (25, .invokevirtual 172, 3), (28, .if_icmp .ne 7, 3), (31, .iconst 1, 1), (32, .goto 4, 3), (35, .iconst 0, 1), (36, .ireturn, 1)]
def M_X8_explains : zM := (zd_X8_explains, zfX8, zgX8, znX8, zoX8, [(161, 2, 1, none, R_X8_isAsked), (148, 1, 0, some 8, R_X8_layRings), (164, 2, 0, some 8, R_X8_layMet), (168, 2, 1, some 8, R_X8_metBy), (172, 1, 1, some 8, R_X8_allMarks)], [])
def R_X8_explains : zRel := zR M_X8_explains 3 (some .int)
def rm_X8_explains : Room := { frames := 5, cells := 0, slots := 0, locals := 123 }
theorem dd_X8_explains : ∀ q ∈ zd_X8_explains, decode cX8_explains q.1 = .ok (q.2.1, q.2.2) := by decide +kernel
theorem m_X8_explains (l : Launch) : zMet l yX8_explains cX8_explains 3 (some .int) rm_X8_explains R_X8_explains := z_met (M := M_X8_explains) (plainFor_of_name (by decide)) dd_X8_explains (by decide +kernel) rfl zfX8_ok zgX8_ok znX8_ok zoX8_ok (List.forall_mem_cons.mpr ⟨Or.inl ⟨yX8_isAsked, cX8_isAsked, 2, (some .boolean), rm_X8_isAsked, m_X8_isAsked l, rfl, rfl, by decide, zTb_in 835 (by decide +kernel) (by decide +kernel), k_X8_isAsked⟩,
  List.forall_mem_cons.mpr ⟨Or.inl ⟨yX8_layRings, cX8_layRings, 3, none, rm_X8_layRings, m_X8_layRings l, rfl, rfl, by decide, zTb_in 807 (by decide +kernel) (by decide +kernel), k_X8_layRings⟩,
  List.forall_mem_cons.mpr ⟨Or.inl ⟨yX8_layMet, cX8_layMet, 5, none, rm_X8_layMet, m_X8_layMet l, rfl, rfl, by decide, zTb_in 839 (by decide +kernel) (by decide +kernel), k_X8_layMet⟩,
  List.forall_mem_cons.mpr ⟨Or.inl ⟨yX8_metBy, cX8_metBy, 4, (some .int), rm_X8_metBy, m_X8_metBy l, rfl, rfl, by decide, zTb_in 847 (by decide +kernel) (by decide +kernel), k_X8_metBy⟩,
  List.forall_mem_cons.mpr ⟨Or.inl ⟨yX8_allMarks, cX8_allMarks, 1, (some .int), rm_X8_allMarks, m_X8_allMarks l, rfl, rfl, by decide, zTb_in 851 (by decide +kernel) (by decide +kernel), k_X8_allMarks⟩,
  fun _ h => absurd h List.not_mem_nil⟩⟩⟩⟩⟩) (Or.inr rfl)
theorem k_X8_explains : Cond.code yX8_explains cX8_explains 3 (some .int) ∈ zTb ∧ Cond.initialized yX8_explains.cls ∈ zTb ∧ (yX8_explains.cls ≠ "java/lang/invoke/MethodHandle" ∧ yX8_explains.cls ≠ "java/lang/invoke/VarHandle") ∧ Cond.instanceMethod yX8_explains ∈ zTb ∧ Cond.selects yX8_explains.cls yX8_explains yX8_explains ∈ zTb ∧ (∃ (T : u_T) (N : Nat), vwCl[8]? = some (yX8_explains.cls, T, N)) ∧ (parseMethodDescriptor yX8_explains.desc).map (fun d => d.parameters.length + 1) = some 3 := ⟨zTb_in 834 (by decide +kernel) (by decide +kernel), zTb_in 44 (by decide +kernel) (by decide +kernel), by decide, zTb_in 832 (by decide +kernel) (by decide +kernel), zTb_in 833 (by decide +kernel) (by decide +kernel), ⟨_, _, rfl⟩, by decide +kernel⟩
def zd_X8_bits : List zI := [(0, .iconst 0, 1), (1, .istore_n 1, 1), (2, .iload_n 0, 1), (3, .istore_n 2, 1), (4, .iload_n 2, 1), (5, .ifCond .eq 15, 3), (8, .iinc 1 1, 3), (11, .iload_n 2, 1), (12, .iload_n 2, 1), (13, .iconst 1, 1), (14, .isub, 1), (15, .iand, 1), (16, .istore_n 2, 1), (17, .goto (-13), 3), (20, .iload_n 1, 1), (21, .ireturn, 1)]
def M_X8_bits : zM := (zd_X8_bits, zfX8, zgX8, znX8, zoX8, [], [])
def R_X8_bits : zRel := zR M_X8_bits 3 (some .int)
def rm_X8_bits : Room := { frames := 0, cells := 0, slots := 0, locals := 0 }
theorem dd_X8_bits : ∀ q ∈ zd_X8_bits, decode cX8_bits q.1 = .ok (q.2.1, q.2.2) := by decide +kernel
theorem m_X8_bits (l : Launch) : zMet l yX8_bits cX8_bits 3 (some .int) rm_X8_bits R_X8_bits := z_met (M := M_X8_bits) (plainFor_of_name (by decide)) dd_X8_bits (by decide +kernel) rfl zfX8_ok zgX8_ok znX8_ok zoX8_ok (fun _ h => absurd h List.not_mem_nil) (Or.inr rfl)
theorem k_X8_bits : Cond.code yX8_bits cX8_bits 3 (some .int) ∈ zTb ∧ Cond.initialized yX8_bits.cls ∈ zTb ∧ (yX8_bits.cls ≠ "java/lang/invoke/MethodHandle" ∧ yX8_bits.cls ≠ "java/lang/invoke/VarHandle") ∧ Cond.static yX8_bits ∈ zTb ∧ (parseMethodDescriptor yX8_bits.desc).map (fun d => d.parameters.length) = some 1 := ⟨zTb_in 862 (by decide +kernel) (by decide +kernel), zTb_in 44 (by decide +kernel) (by decide +kernel), by decide, zTb_in 861 (by decide +kernel) (by decide +kernel), by decide +kernel⟩
def zd_X8_fewest : List zI := [(0, .iload_n 1, 1), (1, .iconst 0, 1), (2, .sipush 900, 3), (5, .invokestatic 89, 3), (8, .ifCond .ne 5, 3), (11, .iconst (-1), 1), (12, .ireturn, 1), (13, .aload_n 0, 1), (14, .invokevirtual 148, 3), (17, .aload_n 0, 1), (18, .iload_n 1, 1), (19, .invokevirtual 164, 3), (22, .bipush (-4), 2), (24, .istore_n 2, 1), (25, .bipush 17, 2), (27, .istore_n 3, 1), (28, .iconst 0, 1), (29, .istore 4, 2), (31, .iload 4, 2), (33, .ldc 175, 2), (35, .if_icmp .ge 41, 3), (38, .iload 4, 2), (40, .invokestatic 176, 3), (43, .istore 5, 2), (45, .iload 5, 2), (47, .iload_n 3, 1), (48, .if_icmp .ge 22, 3), (51, .aload_n 0, 1), (52, .iload 4, 2), (54, .invokevirtual 168, 3), (57, .aload_n 0, 1), (58, .invokevirtual 172, 3), (61, .if_icmp .ne 9, 3), (64, .iload 4, 2), (66, .istore_n 2, 1), (67, .iload 5, 2), (69, .istore_n 3, 1), (70, .iinc 4 1, 3), (73, .goto (-42), 3), (76, .iload_n 2, 1), (77, .ireturn, 1)]
def M_X8_fewest : zM := (zd_X8_fewest, zfX8, zgX8, znX8, zoX8, [(89, 3, 1, none, R_X8_in), (148, 1, 0, some 8, R_X8_layRings), (164, 2, 0, some 8, R_X8_layMet), (176, 1, 1, none, R_X8_bits), (168, 2, 1, some 8, R_X8_metBy), (172, 1, 1, some 8, R_X8_allMarks)], [])
def R_X8_fewest : zRel := zR M_X8_fewest 6 (some .int)
def rm_X8_fewest : Room := { frames := 5, cells := 0, slots := 0, locals := 123 }
theorem dd_X8_fewest : ∀ q ∈ zd_X8_fewest, decode cX8_fewest q.1 = .ok (q.2.1, q.2.2) := by decide +kernel
theorem m_X8_fewest (l : Launch) : zMet l yX8_fewest cX8_fewest 6 (some .int) rm_X8_fewest R_X8_fewest := z_met (M := M_X8_fewest) (plainFor_of_name (by decide)) dd_X8_fewest (by decide +kernel) rfl zfX8_ok zgX8_ok znX8_ok zoX8_ok (List.forall_mem_cons.mpr ⟨Or.inl ⟨yX8_in, cX8_in, 3, (some .boolean), rm_X8_in, m_X8_in l, rfl, rfl, by decide, zTb_in 712 (by decide +kernel) (by decide +kernel), k_X8_in⟩,
  List.forall_mem_cons.mpr ⟨Or.inl ⟨yX8_layRings, cX8_layRings, 3, none, rm_X8_layRings, m_X8_layRings l, rfl, rfl, by decide, zTb_in 807 (by decide +kernel) (by decide +kernel), k_X8_layRings⟩,
  List.forall_mem_cons.mpr ⟨Or.inl ⟨yX8_layMet, cX8_layMet, 5, none, rm_X8_layMet, m_X8_layMet l, rfl, rfl, by decide, zTb_in 839 (by decide +kernel) (by decide +kernel), k_X8_layMet⟩,
  List.forall_mem_cons.mpr ⟨Or.inl ⟨yX8_bits, cX8_bits, 3, (some .int), rm_X8_bits, m_X8_bits l, rfl, rfl, by decide, zTb_in 860 (by decide +kernel) (by decide +kernel), k_X8_bits⟩,
  List.forall_mem_cons.mpr ⟨Or.inl ⟨yX8_metBy, cX8_metBy, 4, (some .int), rm_X8_metBy, m_X8_metBy l, rfl, rfl, by decide, zTb_in 847 (by decide +kernel) (by decide +kernel), k_X8_metBy⟩,
  List.forall_mem_cons.mpr ⟨Or.inl ⟨yX8_allMarks, cX8_allMarks, 1, (some .int), rm_X8_allMarks, m_X8_allMarks l, rfl, rfl, by decide, zTb_in 851 (by decide +kernel) (by decide +kernel), k_X8_allMarks⟩,
  fun _ h => absurd h List.not_mem_nil⟩⟩⟩⟩⟩⟩) (Or.inr rfl)
theorem k_X8_fewest : Cond.code yX8_fewest cX8_fewest 6 (some .int) ∈ zTb ∧ Cond.initialized yX8_fewest.cls ∈ zTb ∧ (yX8_fewest.cls ≠ "java/lang/invoke/MethodHandle" ∧ yX8_fewest.cls ≠ "java/lang/invoke/VarHandle") ∧ Cond.instanceMethod yX8_fewest ∈ zTb ∧ Cond.selects yX8_fewest.cls yX8_fewest yX8_fewest ∈ zTb ∧ (∃ (T : u_T) (N : Nat), vwCl[8]? = some (yX8_fewest.cls, T, N)) ∧ (parseMethodDescriptor yX8_fewest.desc).map (fun d => d.parameters.length + 1) = some 2 := ⟨zTb_in 858 (by decide +kernel) (by decide +kernel), zTb_in 44 (by decide +kernel) (by decide +kernel), by decide, zTb_in 856 (by decide +kernel) (by decide +kernel), zTb_in 857 (by decide +kernel) (by decide +kernel), ⟨_, _, rfl⟩, by decide +kernel⟩
end
section
def zd_X8_owed : List zI := [(0, .iload_n 1, 1), (1, .iload_n 2, 1), (2, .invokestatic 161, 3), (5, .ifCond .ne 5, 3), (8, .iconst (-1), 1), (9, .ireturn, 1), (10, .aload_n 0, 1), (11, .invokevirtual 148, 3), (14, .iconst 0, 1), (15, .istore_n 3, 1), (16, .iconst 0, 1), (17, .istore 4, 2), (19, .iload 4, 2), (21, .bipush 16, 2), (23, .if_icmp .ge 101, 3), (26, .aload_n 0, 1), (27, .iload 4, 2), (29, .iload_n 2, 1), (30, .invokevirtual 151, 3), (33, .iconst 0, 1), (34, .istore 5, 2), (36, .iload 5, 2), (38, .aload_n 0, 1), (39, .getfield 137, 3), (42, .if_icmp .ge 76, 3), (45, .iload_n 1, 1), (46, .iload 4, 2), (48, .ishr, 1), (49, .iconst 1, 1), (50, .iand, 1), (51, .iconst 1, 1), (52, .if_icmp .ne 66, 3), (55, .iconst 0, 1), (56, .istore 6, 2), (58, .iconst 0, 1), (59, .istore 7, 2), (61, .iload 7, 2), (63, .aload_n 0, 1), (64, .getfield 154, 3), (67, .if_icmp .ge 32, 3), (70, .iload 6, 2), (72, .ifCond .ne 14, 3), (75, .aload_n 0, 1), (76, .iload 5, 2), (78, .iload 7, 2), (80, .invokevirtual 157, 3), (83, .ifCond .eq 7, 3), (86, .iconst 1, 1), (87, .goto 4, 3), (90, .iconst 0, 1), (91, .istore 6, 2), (93, .iinc 7 1, 3), (96, .goto (-35), 3), (99, .iload_n 3, 1), (100, .iload 6, 2), (102, .ifCond .eq 7, 3), (105, .iconst 0, 1), (106, .goto 4, 3), (109, .iconst 1, 1), (110, .iadd, 1), (111, .istore_n 3, 1), (112, .iinc 5 1, 3), (115, .goto (-79), 3), (118, .iinc 4 1, 3), (121, .goto (-102), 3), (124, .iload_n 3, 1), (125, .ireturn, 1)]
def M_X8_owed : zM := (zd_X8_owed, zfX8, zgX8, znX8, zoX8, [(161, 2, 1, none, R_X8_isAsked), (148, 1, 0, some 8, R_X8_layRings), (151, 3, 0, some 8, R_X8_layLights), (157, 3, 1, some 8, R_X8_meets)], [])
def R_X8_owed : zRel := zR M_X8_owed 8 (some .int)
def rm_X8_owed : Room := { frames := 5, cells := 0, slots := 0, locals := 123 }
theorem dd_X8_owed : ∀ q ∈ zd_X8_owed, decode cX8_owed q.1 = .ok (q.2.1, q.2.2) := by decide +kernel
theorem m_X8_owed (l : Launch) : zMet l yX8_owed cX8_owed 8 (some .int) rm_X8_owed R_X8_owed := z_met (M := M_X8_owed) (plainFor_of_name (by decide)) dd_X8_owed (by decide +kernel) rfl zfX8_ok zgX8_ok znX8_ok zoX8_ok (List.forall_mem_cons.mpr ⟨Or.inl ⟨yX8_isAsked, cX8_isAsked, 2, (some .boolean), rm_X8_isAsked, m_X8_isAsked l, rfl, rfl, by decide, zTb_in 835 (by decide +kernel) (by decide +kernel), k_X8_isAsked⟩,
  List.forall_mem_cons.mpr ⟨Or.inl ⟨yX8_layRings, cX8_layRings, 3, none, rm_X8_layRings, m_X8_layRings l, rfl, rfl, by decide, zTb_in 807 (by decide +kernel) (by decide +kernel), k_X8_layRings⟩,
  List.forall_mem_cons.mpr ⟨Or.inl ⟨yX8_layLights, cX8_layLights, 6, none, rm_X8_layLights, m_X8_layLights l, rfl, rfl, by decide, zTb_in 811 (by decide +kernel) (by decide +kernel), k_X8_layLights⟩,
  List.forall_mem_cons.mpr ⟨Or.inl ⟨yX8_meets, cX8_meets, 5, (some .boolean), rm_X8_meets, m_X8_meets l, rfl, rfl, by decide, zTb_in 843 (by decide +kernel) (by decide +kernel), k_X8_meets⟩,
  fun _ h => absurd h List.not_mem_nil⟩⟩⟩⟩) (Or.inr rfl)
theorem k_X8_owed : Cond.code yX8_owed cX8_owed 8 (some .int) ∈ zTb ∧ Cond.initialized yX8_owed.cls ∈ zTb ∧ (yX8_owed.cls ≠ "java/lang/invoke/MethodHandle" ∧ yX8_owed.cls ≠ "java/lang/invoke/VarHandle") ∧ Cond.instanceMethod yX8_owed ∈ zTb ∧ Cond.selects yX8_owed.cls yX8_owed yX8_owed ∈ zTb ∧ (∃ (T : u_T) (N : Nat), vwCl[8]? = some (yX8_owed.cls, T, N)) ∧ (parseMethodDescriptor yX8_owed.desc).map (fun d => d.parameters.length + 1) = some 3 := ⟨zTb_in 866 (by decide +kernel) (by decide +kernel), zTb_in 44 (by decide +kernel) (by decide +kernel), by decide, zTb_in 864 (by decide +kernel) (by decide +kernel), zTb_in 865 (by decide +kernel) (by decide +kernel), ⟨_, _, rfl⟩, by decide +kernel⟩
def zd_X8_never : List zI := [(0, .aload_n 0, 1), (1, .invokevirtual 148, 3), (4, .iconst 0, 1), (5, .istore_n 1, 1), (6, .iconst 0, 1), (7, .istore_n 2, 1), (8, .iload_n 2, 1), (9, .sipush 900, 3), (12, .if_icmp .gt 23, 3), (15, .aload_n 0, 1), (16, .iload_n 2, 1), (17, .invokevirtual 164, 3), (20, .iload_n 1, 1), (21, .aload_n 0, 1), (22, .ldc 160, 2), (24, .invokevirtual 168, 3), (27, .ior, 1), (28, .istore_n 1, 1), (29, .iinc 2 50, 3), (32, .goto (-24), 3), (35, .aload_n 0, 1), (36, .invokevirtual 172, 3), (39, .iload_n 1, 1), (40, .iconst (-1), 1), (41, .ixor, 1), (42, .iand, 1), (43, .ireturn, 1)]
def M_X8_never : zM := (zd_X8_never, zfX8, zgX8, znX8, zoX8, [(148, 1, 0, some 8, R_X8_layRings), (164, 2, 0, some 8, R_X8_layMet), (168, 2, 1, some 8, R_X8_metBy), (172, 1, 1, some 8, R_X8_allMarks)], [])
def R_X8_never : zRel := zR M_X8_never 3 (some .int)
def rm_X8_never : Room := { frames := 5, cells := 0, slots := 0, locals := 123 }
theorem dd_X8_never : ∀ q ∈ zd_X8_never, decode cX8_never q.1 = .ok (q.2.1, q.2.2) := by decide +kernel
theorem m_X8_never (l : Launch) : zMet l yX8_never cX8_never 3 (some .int) rm_X8_never R_X8_never := z_met (M := M_X8_never) (plainFor_of_name (by decide)) dd_X8_never (by decide +kernel) rfl zfX8_ok zgX8_ok znX8_ok zoX8_ok (List.forall_mem_cons.mpr ⟨Or.inl ⟨yX8_layRings, cX8_layRings, 3, none, rm_X8_layRings, m_X8_layRings l, rfl, rfl, by decide, zTb_in 807 (by decide +kernel) (by decide +kernel), k_X8_layRings⟩,
  List.forall_mem_cons.mpr ⟨Or.inl ⟨yX8_layMet, cX8_layMet, 5, none, rm_X8_layMet, m_X8_layMet l, rfl, rfl, by decide, zTb_in 839 (by decide +kernel) (by decide +kernel), k_X8_layMet⟩,
  List.forall_mem_cons.mpr ⟨Or.inl ⟨yX8_metBy, cX8_metBy, 4, (some .int), rm_X8_metBy, m_X8_metBy l, rfl, rfl, by decide, zTb_in 847 (by decide +kernel) (by decide +kernel), k_X8_metBy⟩,
  List.forall_mem_cons.mpr ⟨Or.inl ⟨yX8_allMarks, cX8_allMarks, 1, (some .int), rm_X8_allMarks, m_X8_allMarks l, rfl, rfl, by decide, zTb_in 851 (by decide +kernel) (by decide +kernel), k_X8_allMarks⟩,
  fun _ h => absurd h List.not_mem_nil⟩⟩⟩⟩) (Or.inr rfl)
theorem k_X8_never : Cond.code yX8_never cX8_never 3 (some .int) ∈ zTb ∧ Cond.initialized yX8_never.cls ∈ zTb ∧ (yX8_never.cls ≠ "java/lang/invoke/MethodHandle" ∧ yX8_never.cls ≠ "java/lang/invoke/VarHandle") ∧ Cond.instanceMethod yX8_never ∈ zTb ∧ Cond.selects yX8_never.cls yX8_never yX8_never ∈ zTb ∧ (∃ (T : u_T) (N : Nat), vwCl[8]? = some (yX8_never.cls, T, N)) ∧ (parseMethodDescriptor yX8_never.desc).map (fun d => d.parameters.length + 1) = some 1 := ⟨zTb_in 870 (by decide +kernel) (by decide +kernel), zTb_in 44 (by decide +kernel) (by decide +kernel), by decide, zTb_in 868 (by decide +kernel) (by decide +kernel), zTb_in 869 (by decide +kernel) (by decide +kernel), ⟨_, _, rfl⟩, by decide +kernel⟩
def zd_X8_heights : List zI := [(0, .iload_n 1, 1), (1, .iconst 0, 1), (2, .ldc 160, 2), (4, .invokestatic 89, 3), (7, .ifCond .eq 8, 3), (10, .iload_n 2, 1), (11, .iconst (-1), 1), (12, .if_icmp .ge 5, 3), (15, .iconst (-1), 1), (16, .ireturn, 1), (17, .aload_n 0, 1), (18, .invokevirtual 148, 3), (21, .iconst 0, 1), (22, .istore_n 3, 1), (23, .iconst 0, 1), (24, .istore 4, 2), (26, .iload 4, 2), (28, .sipush 900, 3), (31, .if_icmp .gt 38, 3), (34, .aload_n 0, 1), (35, .iload 4, 2), (37, .invokevirtual 164, 3), (40, .aload_n 0, 1), (41, .iload_n 1, 1), (42, .invokevirtual 168, 3), (45, .aload_n 0, 1), (46, .invokevirtual 172, 3), (49, .if_icmp .ne 14, 3), (52, .iload_n 3, 1), (53, .iload_n 2, 1), (54, .if_icmp .ne 6, 3), (57, .iload 4, 2), (59, .ireturn, 1), (60, .iinc 3 1, 3), (63, .iinc 4 50, 3), (66, .goto (-40), 3), (69, .iload_n 2, 1), (70, .ifCond .ge 7, 3), (73, .iload_n 3, 1), (74, .goto 5, 3), (77, .bipush (-4), 2), (79, .ireturn, 1)]
def M_X8_heights : zM := (zd_X8_heights, zfX8, zgX8, znX8, zoX8, [(89, 3, 1, none, R_X8_in), (148, 1, 0, some 8, R_X8_layRings), (164, 2, 0, some 8, R_X8_layMet), (168, 2, 1, some 8, R_X8_metBy), (172, 1, 1, some 8, R_X8_allMarks)], [])
def R_X8_heights : zRel := zR M_X8_heights 5 (some .int)
def rm_X8_heights : Room := { frames := 5, cells := 0, slots := 0, locals := 123 }
theorem dd_X8_heights : ∀ q ∈ zd_X8_heights, decode cX8_heights q.1 = .ok (q.2.1, q.2.2) := by decide +kernel
theorem m_X8_heights (l : Launch) : zMet l yX8_heights cX8_heights 5 (some .int) rm_X8_heights R_X8_heights := z_met (M := M_X8_heights) (plainFor_of_name (by decide)) dd_X8_heights (by decide +kernel) rfl zfX8_ok zgX8_ok znX8_ok zoX8_ok (List.forall_mem_cons.mpr ⟨Or.inl ⟨yX8_in, cX8_in, 3, (some .boolean), rm_X8_in, m_X8_in l, rfl, rfl, by decide, zTb_in 712 (by decide +kernel) (by decide +kernel), k_X8_in⟩,
  List.forall_mem_cons.mpr ⟨Or.inl ⟨yX8_layRings, cX8_layRings, 3, none, rm_X8_layRings, m_X8_layRings l, rfl, rfl, by decide, zTb_in 807 (by decide +kernel) (by decide +kernel), k_X8_layRings⟩,
  List.forall_mem_cons.mpr ⟨Or.inl ⟨yX8_layMet, cX8_layMet, 5, none, rm_X8_layMet, m_X8_layMet l, rfl, rfl, by decide, zTb_in 839 (by decide +kernel) (by decide +kernel), k_X8_layMet⟩,
  List.forall_mem_cons.mpr ⟨Or.inl ⟨yX8_metBy, cX8_metBy, 4, (some .int), rm_X8_metBy, m_X8_metBy l, rfl, rfl, by decide, zTb_in 847 (by decide +kernel) (by decide +kernel), k_X8_metBy⟩,
  List.forall_mem_cons.mpr ⟨Or.inl ⟨yX8_allMarks, cX8_allMarks, 1, (some .int), rm_X8_allMarks, m_X8_allMarks l, rfl, rfl, by decide, zTb_in 851 (by decide +kernel) (by decide +kernel), k_X8_allMarks⟩,
  fun _ h => absurd h List.not_mem_nil⟩⟩⟩⟩⟩) (Or.inr rfl)
theorem k_X8_heights : Cond.code yX8_heights cX8_heights 5 (some .int) ∈ zTb ∧ Cond.initialized yX8_heights.cls ∈ zTb ∧ (yX8_heights.cls ≠ "java/lang/invoke/MethodHandle" ∧ yX8_heights.cls ≠ "java/lang/invoke/VarHandle") ∧ Cond.instanceMethod yX8_heights ∈ zTb ∧ Cond.selects yX8_heights.cls yX8_heights yX8_heights ∈ zTb ∧ (∃ (T : u_T) (N : Nat), vwCl[8]? = some (yX8_heights.cls, T, N)) ∧ (parseMethodDescriptor yX8_heights.desc).map (fun d => d.parameters.length + 1) = some 3 := ⟨zTb_in 874 (by decide +kernel) (by decide +kernel), zTb_in 44 (by decide +kernel) (by decide +kernel), by decide, zTb_in 872 (by decide +kernel) (by decide +kernel), zTb_in 873 (by decide +kernel) (by decide +kernel), ⟨_, _, rfl⟩, by decide +kernel⟩
def zd_X8_cut : List zI := [(0, .iload_n 1, 1), (1, .iconst 0, 1), (2, .bipush 11, 2), (4, .invokestatic 89, 3), (7, .ifCond .eq 12, 3), (10, .iload_n 2, 1), (11, .iconst (-1), 1), (12, .iconst 1, 1), (13, .invokestatic 89, 3), (16, .ifCond .ne 6, 3), (19, .bipush (-100), 2), (21, .ireturn, 1), (22, .aload_n 0, 1), (23, .getfield 44, 3), (26, .iload_n 1, 1), (27, .iaload, 1), (28, .istore_n 3, 1), (29, .aload_n 0, 1), (30, .getfield 44, 3), (33, .iload_n 1, 1), (34, .iload_n 2, 1), (35, .iastore, 1), (36, .iload_n 3, 1), (37, .ireturn, 1)]
def M_X8_cut : zM := (zd_X8_cut, zfX8, zgX8, znX8, zoX8, [(89, 3, 1, none, R_X8_in)], [])
def R_X8_cut : zRel := zR M_X8_cut 4 (some .int)
def rm_X8_cut : Room := { frames := 1, cells := 0, slots := 0, locals := 22 }
theorem dd_X8_cut : ∀ q ∈ zd_X8_cut, decode cX8_cut q.1 = .ok (q.2.1, q.2.2) := by decide +kernel
theorem m_X8_cut (l : Launch) : zMet l yX8_cut cX8_cut 4 (some .int) rm_X8_cut R_X8_cut := z_met (M := M_X8_cut) (plainFor_of_name (by decide)) dd_X8_cut (by decide +kernel) rfl zfX8_ok zgX8_ok znX8_ok zoX8_ok (List.forall_mem_cons.mpr ⟨Or.inl ⟨yX8_in, cX8_in, 3, (some .boolean), rm_X8_in, m_X8_in l, rfl, rfl, by decide, zTb_in 712 (by decide +kernel) (by decide +kernel), k_X8_in⟩,
  fun _ h => absurd h List.not_mem_nil⟩) (Or.inr rfl)
theorem k_X8_cut : Cond.code yX8_cut cX8_cut 4 (some .int) ∈ zTb ∧ Cond.initialized yX8_cut.cls ∈ zTb ∧ (yX8_cut.cls ≠ "java/lang/invoke/MethodHandle" ∧ yX8_cut.cls ≠ "java/lang/invoke/VarHandle") ∧ Cond.instanceMethod yX8_cut ∈ zTb ∧ Cond.selects yX8_cut.cls yX8_cut yX8_cut ∈ zTb ∧ (∃ (T : u_T) (N : Nat), vwCl[8]? = some (yX8_cut.cls, T, N)) ∧ (parseMethodDescriptor yX8_cut.desc).map (fun d => d.parameters.length + 1) = some 3 := ⟨zTb_in 878 (by decide +kernel) (by decide +kernel), zTb_in 44 (by decide +kernel) (by decide +kernel), by decide, zTb_in 876 (by decide +kernel) (by decide +kernel), zTb_in 877 (by decide +kernel) (by decide +kernel), ⟨_, _, rfl⟩, by decide +kernel⟩
def zd_X8_spots : List zI := [(0, .aload_n 0, 1), (1, .iload_n 1, 1), (2, .iload_n 2, 1), (3, .invokevirtual 151, 3), (6, .iconst 0, 1), (7, .istore_n 3, 1), (8, .iconst 0, 1), (9, .istore 4, 2), (11, .iload 4, 2), (13, .aload_n 0, 1), (14, .getfield 137, 3), (17, .if_icmp .ge 108, 3), (20, .iconst 0, 1), (21, .istore 5, 2), (23, .iload 5, 2), (25, .bipush 12, 2), (27, .if_icmp .ge 92, 3), (30, .aload_n 0, 1), (31, .getfield 67, 3), (34, .iload 4, 2), (36, .iaload, 1), (37, .iconst 2, 1), (38, .if_icmp .ne 56, 3), (41, .aload_n 0, 1), (42, .getfield 70, 3), (45, .iload 4, 2), (47, .iaload, 1), (48, .iconst 1, 1), (49, .if_icmp .ne 45, 3), (52, .sipush 150, 3), (55, .iload 5, 2), (57, .imul, 1), (58, .aload_n 0, 1), (59, .getfield 73, 3), (62, .iload 4, 2), (64, .iaload, 1), (65, .bipush 75, 2), (67, .isub, 1), (68, .if_icmp .lt 26, 3), (71, .sipush 150, 3), (74, .iload 5, 2), (76, .imul, 1), (77, .aload_n 0, 1), (78, .getfield 76, 3), (81, .iload 4, 2), (83, .iaload, 1), (84, .bipush 75, 2), (86, .iadd, 1), (87, .if_icmp .gt 7, 3), (90, .iconst 1, 1), (91, .goto 4, 3), (94, .iconst 0, 1), (95, .istore 6, 2), (97, .iload_n 3, 1), (98, .iload 6, 2), (100, .ifCond .eq 10, 3), (103, .iconst 1, 1), (104, .iload 5, 2), (106, .ishl, 1), (107, .goto 4, 3), (110, .iconst 0, 1), (111, .ior, 1), (112, .istore_n 3, 1), (113, .iinc 5 1, 3), (116, .goto (-93), 3), (119, .iinc 4 1, 3), (122, .goto (-111), 3), (125, .iload_n 3, 1), (126, .ireturn, 1)]
def M_X8_spots : zM := (zd_X8_spots, zfX8, zgX8, znX8, zoX8, [(151, 3, 0, some 8, R_X8_layLights)], [])
def R_X8_spots : zRel := zR M_X8_spots 7 (some .int)
def rm_X8_spots : Room := { frames := 3, cells := 0, slots := 0, locals := 74 }
theorem dd_X8_spots : ∀ q ∈ zd_X8_spots, decode cX8_spots q.1 = .ok (q.2.1, q.2.2) := by decide +kernel
theorem m_X8_spots (l : Launch) : zMet l yX8_spots cX8_spots 7 (some .int) rm_X8_spots R_X8_spots := z_met (M := M_X8_spots) (plainFor_of_name (by decide)) dd_X8_spots (by decide +kernel) rfl zfX8_ok zgX8_ok znX8_ok zoX8_ok (List.forall_mem_cons.mpr ⟨Or.inl ⟨yX8_layLights, cX8_layLights, 6, none, rm_X8_layLights, m_X8_layLights l, rfl, rfl, by decide, zTb_in 811 (by decide +kernel) (by decide +kernel), k_X8_layLights⟩,
  fun _ h => absurd h List.not_mem_nil⟩) (Or.inr rfl)
theorem k_X8_spots : Cond.code yX8_spots cX8_spots 7 (some .int) ∈ zTb ∧ Cond.initialized yX8_spots.cls ∈ zTb ∧ (yX8_spots.cls ≠ "java/lang/invoke/MethodHandle" ∧ yX8_spots.cls ≠ "java/lang/invoke/VarHandle") ∧ Cond.instanceMethod yX8_spots ∈ zTb ∧ Cond.selects yX8_spots.cls yX8_spots yX8_spots ∈ zTb ∧ (∃ (T : u_T) (N : Nat), vwCl[8]? = some (yX8_spots.cls, T, N)) ∧ (parseMethodDescriptor yX8_spots.desc).map (fun d => d.parameters.length + 1) = some 3 := ⟨zTb_in 890 (by decide +kernel) (by decide +kernel), zTb_in 44 (by decide +kernel) (by decide +kernel), by decide, zTb_in 889 (by decide +kernel) (by decide +kernel), zTb_in 32 (by decide +kernel) (by decide +kernel), ⟨_, _, rfl⟩, by decide +kernel⟩
def zd_X8_isMade : List zI := [(0, .iconst 1, 1), (1, .istore_n 2, 1), (2, .iconst 0, 1), (3, .istore_n 3, 1), (4, .iload_n 3, 1), (5, .bipush 12, 2), (7, .if_icmp .ge 42, 3), (10, .iload_n 2, 1), (11, .ifCond .eq 30, 3), (14, .aload_n 0, 1), (15, .getfield 44, 3), (18, .iload_n 3, 1), (19, .iaload, 1), (20, .ifCond .lt 17, 3), (23, .aload_n 0, 1), (24, .getfield 44, 3), (27, .iload_n 3, 1), (28, .iaload, 1), (29, .iload_n 1, 1), (30, .iload_n 3, 1), (31, .ishr, 1), (32, .iconst 1, 1), (33, .iand, 1), (34, .if_icmp .ne 7, 3), (37, .iconst 1, 1), (38, .goto 4, 3), (41, .iconst 0, 1), (42, .istore_n 2, 1), (43, .iinc 3 1, 3), (46, .goto (-42), 3), (49, .iload_n 2, 1), (50, .ireturn, 1)]
def M_X8_isMade : zM := (zd_X8_isMade, zfX8, zgX8, znX8, zoX8, [], [])
def R_X8_isMade : zRel := zR M_X8_isMade 4 (some .boolean)
def rm_X8_isMade : Room := { frames := 0, cells := 0, slots := 0, locals := 0 }
theorem dd_X8_isMade : ∀ q ∈ zd_X8_isMade, decode cX8_isMade q.1 = .ok (q.2.1, q.2.2) := by decide +kernel
theorem m_X8_isMade (l : Launch) : zMet l yX8_isMade cX8_isMade 4 (some .boolean) rm_X8_isMade R_X8_isMade := z_met (M := M_X8_isMade) (plainFor_of_name (by decide)) dd_X8_isMade (by decide +kernel) rfl zfX8_ok zgX8_ok znX8_ok zoX8_ok (fun _ h => absurd h List.not_mem_nil) (Or.inr rfl)
theorem k_X8_isMade : Cond.code yX8_isMade cX8_isMade 4 (some .boolean) ∈ zTb ∧ Cond.initialized yX8_isMade.cls ∈ zTb ∧ (yX8_isMade.cls ≠ "java/lang/invoke/MethodHandle" ∧ yX8_isMade.cls ≠ "java/lang/invoke/VarHandle") ∧ Cond.instanceMethod yX8_isMade ∈ zTb ∧ Cond.selects yX8_isMade.cls yX8_isMade yX8_isMade ∈ zTb ∧ (∃ (T : u_T) (N : Nat), vwCl[8]? = some (yX8_isMade.cls, T, N)) ∧ (parseMethodDescriptor yX8_isMade.desc).map (fun d => d.parameters.length + 1) = some 2 := ⟨zTb_in 894 (by decide +kernel) (by decide +kernel), zTb_in 44 (by decide +kernel) (by decide +kernel), by decide, zTb_in 893 (by decide +kernel) (by decide +kernel), zTb_in 33 (by decide +kernel) (by decide +kernel), ⟨_, _, rfl⟩, by decide +kernel⟩
def zd_X8_laySpots : List zI := [(0, .aload_n 0, 1), (1, .invokevirtual 148, 3), (4, .iconst 0, 1), (5, .istore_n 2, 1), (6, .iload_n 2, 1), (7, .bipush 16, 2), (9, .if_icmp .ge 21, 3), (12, .aload_n 0, 1), (13, .getfield 79, 3), (16, .iload_n 2, 1), (17, .aload_n 0, 1), (18, .iload_n 2, 1), (19, .iload_n 1, 1), (20, .invokevirtual 179, 3), (23, .iastore, 1), (24, .iinc 2 1, 3), (27, .goto (-21), 3), (30, .return_, 1)]
def M_X8_laySpots : zM := (zd_X8_laySpots, zfX8, zgX8, znX8, zoX8, [(148, 1, 0, some 8, R_X8_layRings), (179, 3, 1, some 8, R_X8_spots)], [])
def R_X8_laySpots : zRel := zR M_X8_laySpots 3 none
def rm_X8_laySpots : Room := { frames := 5, cells := 0, slots := 0, locals := 123 }
theorem dd_X8_laySpots : ∀ q ∈ zd_X8_laySpots, decode cX8_laySpots q.1 = .ok (q.2.1, q.2.2) := by decide +kernel
theorem m_X8_laySpots (l : Launch) : zMet l yX8_laySpots cX8_laySpots 3 none rm_X8_laySpots R_X8_laySpots := z_met (M := M_X8_laySpots) (plainFor_of_name (by decide)) dd_X8_laySpots (by decide +kernel) rfl zfX8_ok zgX8_ok znX8_ok zoX8_ok (List.forall_mem_cons.mpr ⟨Or.inl ⟨yX8_layRings, cX8_layRings, 3, none, rm_X8_layRings, m_X8_layRings l, rfl, rfl, by decide, zTb_in 807 (by decide +kernel) (by decide +kernel), k_X8_layRings⟩,
  List.forall_mem_cons.mpr ⟨Or.inl ⟨yX8_spots, cX8_spots, 7, (some .int), rm_X8_spots, m_X8_spots l, rfl, rfl, by decide, zTb_in 887 (by decide +kernel) (by decide +kernel), k_X8_spots⟩,
  fun _ h => absurd h List.not_mem_nil⟩⟩) (Or.inr rfl)
theorem k_X8_laySpots : Cond.code yX8_laySpots cX8_laySpots 3 none ∈ zTb ∧ Cond.initialized yX8_laySpots.cls ∈ zTb ∧ (yX8_laySpots.cls ≠ "java/lang/invoke/MethodHandle" ∧ yX8_laySpots.cls ≠ "java/lang/invoke/VarHandle") ∧ Cond.instanceMethod yX8_laySpots ∈ zTb ∧ Cond.selects yX8_laySpots.cls yX8_laySpots yX8_laySpots ∈ zTb ∧ (∃ (T : u_T) (N : Nat), vwCl[8]? = some (yX8_laySpots.cls, T, N)) ∧ (parseMethodDescriptor yX8_laySpots.desc).map (fun d => d.parameters.length + 1) = some 2 := ⟨zTb_in 886 (by decide +kernel) (by decide +kernel), zTb_in 44 (by decide +kernel) (by decide +kernel), by decide, zTb_in 885 (by decide +kernel) (by decide +kernel), zTb_in 31 (by decide +kernel) (by decide +kernel), ⟨_, _, rfl⟩, by decide +kernel⟩
def zd_X8_made : List zI := [(0, .iload_n 1, 1), (1, .iload_n 2, 1), (2, .invokestatic 161, 3), (5, .ifCond .ne 5, 3), (8, .iconst (-1), 1), (9, .ireturn, 1), (10, .aload_n 0, 1), (11, .iload_n 2, 1), (12, .invokevirtual 182, 3), (15, .aload_n 0, 1), (16, .aload_n 0, 1), (17, .iload_n 1, 1), (18, .invokevirtual 168, 3), (21, .invokevirtual 185, 3), (24, .ifCond .eq 7, 3), (27, .iconst 1, 1), (28, .goto 4, 3), (31, .iconst 0, 1), (32, .ireturn, 1)]
def M_X8_made : zM := (zd_X8_made, zfX8, zgX8, znX8, zoX8, [(161, 2, 1, none, R_X8_isAsked), (182, 2, 0, some 8, R_X8_laySpots), (168, 2, 1, some 8, R_X8_metBy), (185, 2, 1, some 8, R_X8_isMade)], [])
def R_X8_made : zRel := zR M_X8_made 3 (some .int)
def rm_X8_made : Room := { frames := 6, cells := 0, slots := 0, locals := 145 }
theorem dd_X8_made : ∀ q ∈ zd_X8_made, decode cX8_made q.1 = .ok (q.2.1, q.2.2) := by decide +kernel
theorem m_X8_made (l : Launch) : zMet l yX8_made cX8_made 3 (some .int) rm_X8_made R_X8_made := z_met (M := M_X8_made) (plainFor_of_name (by decide)) dd_X8_made (by decide +kernel) rfl zfX8_ok zgX8_ok znX8_ok zoX8_ok (List.forall_mem_cons.mpr ⟨Or.inl ⟨yX8_isAsked, cX8_isAsked, 2, (some .boolean), rm_X8_isAsked, m_X8_isAsked l, rfl, rfl, by decide, zTb_in 835 (by decide +kernel) (by decide +kernel), k_X8_isAsked⟩,
  List.forall_mem_cons.mpr ⟨Or.inl ⟨yX8_laySpots, cX8_laySpots, 3, none, rm_X8_laySpots, m_X8_laySpots l, rfl, rfl, by decide, zTb_in 883 (by decide +kernel) (by decide +kernel), k_X8_laySpots⟩,
  List.forall_mem_cons.mpr ⟨Or.inl ⟨yX8_metBy, cX8_metBy, 4, (some .int), rm_X8_metBy, m_X8_metBy l, rfl, rfl, by decide, zTb_in 847 (by decide +kernel) (by decide +kernel), k_X8_metBy⟩,
  List.forall_mem_cons.mpr ⟨Or.inl ⟨yX8_isMade, cX8_isMade, 4, (some .boolean), rm_X8_isMade, m_X8_isMade l, rfl, rfl, by decide, zTb_in 891 (by decide +kernel) (by decide +kernel), k_X8_isMade⟩,
  fun _ h => absurd h List.not_mem_nil⟩⟩⟩⟩) (Or.inr rfl)
theorem k_X8_made : Cond.code yX8_made cX8_made 3 (some .int) ∈ zTb ∧ Cond.initialized yX8_made.cls ∈ zTb ∧ (yX8_made.cls ≠ "java/lang/invoke/MethodHandle" ∧ yX8_made.cls ≠ "java/lang/invoke/VarHandle") ∧ Cond.instanceMethod yX8_made ∈ zTb ∧ Cond.selects yX8_made.cls yX8_made yX8_made ∈ zTb ∧ (∃ (T : u_T) (N : Nat), vwCl[8]? = some (yX8_made.cls, T, N)) ∧ (parseMethodDescriptor yX8_made.desc).map (fun d => d.parameters.length + 1) = some 3 := ⟨zTb_in 882 (by decide +kernel) (by decide +kernel), zTb_in 44 (by decide +kernel) (by decide +kernel), by decide, zTb_in 880 (by decide +kernel) (by decide +kernel), zTb_in 881 (by decide +kernel) (by decide +kernel), ⟨_, _, rfl⟩, by decide +kernel⟩
def zd_X8_maker : List zI := [(0, .iload_n 1, 1), (1, .iconst 0, 1), (2, .sipush 900, 3), (5, .invokestatic 89, 3), (8, .ifCond .ne 5, 3), (11, .iconst (-1), 1), (12, .ireturn, 1), (13, .aload_n 0, 1), (14, .iload_n 1, 1), (15, .invokevirtual 182, 3), (18, .iconst 1, 1), (19, .istore_n 2, 1), (20, .iload_n 2, 1), (21, .ldc 175, 2), (23, .if_icmp .ge 31, 3), (26, .iload_n 2, 1), (27, .invokestatic 176, 3), (30, .iconst 3, 1), (31, .if_icmp .ge 17, 3), (34, .aload_n 0, 1), (35, .aload_n 0, 1), (36, .iload_n 2, 1), (37, .invokevirtual 168, 3), (40, .invokevirtual 185, 3), (43, .ifCond .eq 5, 3), (46, .iload_n 2, 1), (47, .ireturn, 1), (48, .iinc 2 1, 3), (51, .goto (-31), 3), (54, .bipush (-4), 2), (56, .ireturn, 1)]
def M_X8_maker : zM := (zd_X8_maker, zfX8, zgX8, znX8, zoX8, [(89, 3, 1, none, R_X8_in), (182, 2, 0, some 8, R_X8_laySpots), (176, 1, 1, none, R_X8_bits), (168, 2, 1, some 8, R_X8_metBy), (185, 2, 1, some 8, R_X8_isMade)], [])
def R_X8_maker : zRel := zR M_X8_maker 3 (some .int)
def rm_X8_maker : Room := { frames := 6, cells := 0, slots := 0, locals := 145 }
theorem dd_X8_maker : ∀ q ∈ zd_X8_maker, decode cX8_maker q.1 = .ok (q.2.1, q.2.2) := by decide +kernel
theorem m_X8_maker (l : Launch) : zMet l yX8_maker cX8_maker 3 (some .int) rm_X8_maker R_X8_maker := z_met (M := M_X8_maker) (plainFor_of_name (by decide)) dd_X8_maker (by decide +kernel) rfl zfX8_ok zgX8_ok znX8_ok zoX8_ok (List.forall_mem_cons.mpr ⟨Or.inl ⟨yX8_in, cX8_in, 3, (some .boolean), rm_X8_in, m_X8_in l, rfl, rfl, by decide, zTb_in 712 (by decide +kernel) (by decide +kernel), k_X8_in⟩,
  List.forall_mem_cons.mpr ⟨Or.inl ⟨yX8_laySpots, cX8_laySpots, 3, none, rm_X8_laySpots, m_X8_laySpots l, rfl, rfl, by decide, zTb_in 883 (by decide +kernel) (by decide +kernel), k_X8_laySpots⟩,
  List.forall_mem_cons.mpr ⟨Or.inl ⟨yX8_bits, cX8_bits, 3, (some .int), rm_X8_bits, m_X8_bits l, rfl, rfl, by decide, zTb_in 860 (by decide +kernel) (by decide +kernel), k_X8_bits⟩,
  List.forall_mem_cons.mpr ⟨Or.inl ⟨yX8_metBy, cX8_metBy, 4, (some .int), rm_X8_metBy, m_X8_metBy l, rfl, rfl, by decide, zTb_in 847 (by decide +kernel) (by decide +kernel), k_X8_metBy⟩,
  List.forall_mem_cons.mpr ⟨Or.inl ⟨yX8_isMade, cX8_isMade, 4, (some .boolean), rm_X8_isMade, m_X8_isMade l, rfl, rfl, by decide, zTb_in 891 (by decide +kernel) (by decide +kernel), k_X8_isMade⟩,
  fun _ h => absurd h List.not_mem_nil⟩⟩⟩⟩⟩) (Or.inr rfl)
theorem k_X8_maker : Cond.code yX8_maker cX8_maker 3 (some .int) ∈ zTb ∧ Cond.initialized yX8_maker.cls ∈ zTb ∧ (yX8_maker.cls ≠ "java/lang/invoke/MethodHandle" ∧ yX8_maker.cls ≠ "java/lang/invoke/VarHandle") ∧ Cond.instanceMethod yX8_maker ∈ zTb ∧ Cond.selects yX8_maker.cls yX8_maker yX8_maker ∈ zTb ∧ (∃ (T : u_T) (N : Nat), vwCl[8]? = some (yX8_maker.cls, T, N)) ∧ (parseMethodDescriptor yX8_maker.desc).map (fun d => d.parameters.length + 1) = some 2 := ⟨zTb_in 898 (by decide +kernel) (by decide +kernel), zTb_in 44 (by decide +kernel) (by decide +kernel), by decide, zTb_in 896 (by decide +kernel) (by decide +kernel), zTb_in 897 (by decide +kernel) (by decide +kernel), ⟨_, _, rfl⟩, by decide +kernel⟩
def zd_X8_day : List zI := [(0, .iload_n 1, 1), (1, .bipush (-60), 2), (3, .bipush 40, 2), (5, .invokestatic 89, 3), (8, .ifCond .eq 22, 3), (11, .iload_n 2, 1), (12, .iconst 0, 1), (13, .iconst 3, 1), (14, .invokestatic 89, 3), (17, .ifCond .eq 13, 3), (20, .iload_n 3, 1), (21, .iconst 0, 1), (22, .ldc 160, 2), (24, .invokestatic 89, 3), (27, .ifCond .ne 5, 3), (30, .iconst (-1), 1), (31, .ireturn, 1), (32, .aload_n 0, 1), (33, .getfield 189, 3), (36, .bipush 60, 2), (38, .if_icmp .ne 6, 3), (41, .bipush (-3), 2), (43, .ireturn, 1), (44, .aload_n 0, 1), (45, .getfield 47, 3), (48, .aload_n 0, 1), (49, .getfield 189, 3), (52, .iload_n 1, 1), (53, .iastore, 1), (54, .aload_n 0, 1), (55, .getfield 50, 3), (58, .aload_n 0, 1), (59, .getfield 189, 3), (62, .iload_n 2, 1), (63, .iastore, 1), (64, .aload_n 0, 1), (65, .getfield 53, 3), (68, .aload_n 0, 1), (69, .getfield 189, 3), (72, .iload_n 3, 1), (73, .iastore, 1), (74, .aload_n 0, 1), (75, .dup, 1), (76, .getfield 189, 3), (79, .iconst 1, 1), (80, .iadd, 1), (81, .putfield 189, 3), (84, .aload_n 0, 1), (85, .getfield 189, 3), (88, .ireturn, 1)]
def M_X8_day : zM := (zd_X8_day, zfX8, zgX8, znX8, zoX8, [(89, 3, 1, none, R_X8_in)], [])
def R_X8_day : zRel := zR M_X8_day 4 (some .int)
def rm_X8_day : Room := { frames := 1, cells := 0, slots := 0, locals := 22 }
theorem dd_X8_day : ∀ q ∈ zd_X8_day, decode cX8_day q.1 = .ok (q.2.1, q.2.2) := by decide +kernel
theorem m_X8_day (l : Launch) : zMet l yX8_day cX8_day 4 (some .int) rm_X8_day R_X8_day := z_met (M := M_X8_day) (plainFor_of_name (by decide)) dd_X8_day (by decide +kernel) rfl zfX8_ok zgX8_ok znX8_ok zoX8_ok (List.forall_mem_cons.mpr ⟨Or.inl ⟨yX8_in, cX8_in, 3, (some .boolean), rm_X8_in, m_X8_in l, rfl, rfl, by decide, zTb_in 712 (by decide +kernel) (by decide +kernel), k_X8_in⟩,
  fun _ h => absurd h List.not_mem_nil⟩) (Or.inr rfl)
theorem k_X8_day : Cond.code yX8_day cX8_day 4 (some .int) ∈ zTb ∧ Cond.initialized yX8_day.cls ∈ zTb ∧ (yX8_day.cls ≠ "java/lang/invoke/MethodHandle" ∧ yX8_day.cls ≠ "java/lang/invoke/VarHandle") ∧ Cond.instanceMethod yX8_day ∈ zTb ∧ Cond.selects yX8_day.cls yX8_day yX8_day ∈ zTb ∧ (∃ (T : u_T) (N : Nat), vwCl[8]? = some (yX8_day.cls, T, N)) ∧ (parseMethodDescriptor yX8_day.desc).map (fun d => d.parameters.length + 1) = some 4 := ⟨zTb_in 902 (by decide +kernel) (by decide +kernel), zTb_in 44 (by decide +kernel) (by decide +kernel), by decide, zTb_in 900 (by decide +kernel) (by decide +kernel), zTb_in 901 (by decide +kernel) (by decide +kernel), ⟨_, _, rfl⟩, by decide +kernel⟩
def zd_X8_odds : List zI := [(0, .iload_n 1, 1), (1, .iconst 0, 1), (2, .bipush 15, 2), (4, .invokestatic 89, 3), (7, .ifCond .eq 44, 3), (10, .iload_n 2, 1), (11, .bipush (-60), 2), (13, .bipush 40, 2), (15, .invokestatic 89, 3), (18, .ifCond .eq 33, 3), (21, .iload_n 3, 1), (22, .iload_n 2, 1), (23, .bipush 40, 2), (25, .invokestatic 89, 3), (28, .ifCond .eq 23, 3), (31, .iload 4, 2), (33, .iconst (-1), 1), (34, .iconst 3, 1), (35, .invokestatic 89, 3), (38, .ifCond .eq 13, 3), (41, .iload 5, 2), (43, .iconst 0, 1), (44, .iconst 1, 1), (45, .invokestatic 89, 3), (48, .ifCond .ne 5, 3), (51, .iconst (-1), 1), (52, .ireturn, 1), (53, .iconst 0, 1), (54, .istore 6, 2), (56, .iconst 0, 1), (57, .istore 7, 2), (59, .iconst 0, 1), (60, .istore 8, 2), (62, .iload 8, 2), (64, .aload_n 0, 1), (65, .getfield 189, 3), (68, .if_icmp .ge 60, 3), (71, .aload_n 0, 1), (72, .getfield 47, 3), (75, .iload 8, 2), (77, .iaload, 1), (78, .iload_n 2, 1), (79, .iload_n 3, 1), (80, .invokestatic 89, 3), (83, .ifCond .eq 39, 3), (86, .iload 4, 2), (88, .ifCond .lt 15, 3), (91, .aload_n 0, 1), (92, .getfield 50, 3), (95, .iload 8, 2), (97, .iaload, 1), (98, .iload 4, 2), (100, .if_icmp .ne 22, 3), (103, .iinc 7 1, 3), (106, .iload 6, 2), (108, .aload_n 0, 1), (109, .getfield 53, 3), (112, .iload 8, 2), (114, .iaload, 1), (115, .iload_n 1, 1), (116, .ishr, 1), (117, .iconst 1, 1), (118, .iand, 1), (119, .iadd, 1), (120, .istore 6, 2), (122, .iinc 8 1, 3), (125, .goto (-63), 3), (128, .iload 7, 2), (130, .ifCond .ne 6, 3), (133, .bipush (-4), 2), (135, .ireturn, 1), (136, .iload 6, 2), (138, .istore 8, 2), (140, .iload 7, 2), (142, .istore 9, 2), (144, .iload 9, 2), (146, .ifCond .eq 21, 3), (149, .iload 8, 2), (151, .iload 9, 2), (153, .irem, 1), (154, .istore 10, 2), (156, .iload 9, 2), (158, .istore 8, 2), (160, .iload 10, 2), (162, .istore 9, 2), (164, .goto (-20), 3), (167, .iload 5, 2), (169, .ifCond .ne 8, 3), (172, .iload 6, 2), (174, .goto 5, 3), (177, .iload 7, 2), (179, .iload 8, 2), (181, .idiv, 1), (182, .ireturn, 1)]
def M_X8_odds : zM := (zd_X8_odds, zfX8, zgX8, znX8, zoX8, [(89, 3, 1, none, R_X8_in)], [])
def R_X8_odds : zRel := zR M_X8_odds 11 (some .int)
def rm_X8_odds : Room := { frames := 1, cells := 0, slots := 0, locals := 22 }
theorem dd_X8_odds : ∀ q ∈ zd_X8_odds, decode cX8_odds q.1 = .ok (q.2.1, q.2.2) := by decide +kernel
theorem m_X8_odds (l : Launch) : zMet l yX8_odds cX8_odds 11 (some .int) rm_X8_odds R_X8_odds := z_met (M := M_X8_odds) (plainFor_of_name (by decide)) dd_X8_odds (by decide +kernel) rfl zfX8_ok zgX8_ok znX8_ok zoX8_ok (List.forall_mem_cons.mpr ⟨Or.inl ⟨yX8_in, cX8_in, 3, (some .boolean), rm_X8_in, m_X8_in l, rfl, rfl, by decide, zTb_in 712 (by decide +kernel) (by decide +kernel), k_X8_in⟩,
  fun _ h => absurd h List.not_mem_nil⟩) (Or.inr rfl)
theorem k_X8_odds : Cond.code yX8_odds cX8_odds 11 (some .int) ∈ zTb ∧ Cond.initialized yX8_odds.cls ∈ zTb ∧ (yX8_odds.cls ≠ "java/lang/invoke/MethodHandle" ∧ yX8_odds.cls ≠ "java/lang/invoke/VarHandle") ∧ Cond.instanceMethod yX8_odds ∈ zTb ∧ Cond.selects yX8_odds.cls yX8_odds yX8_odds ∈ zTb ∧ (∃ (T : u_T) (N : Nat), vwCl[8]? = some (yX8_odds.cls, T, N)) ∧ (parseMethodDescriptor yX8_odds.desc).map (fun d => d.parameters.length + 1) = some 6 := ⟨zTb_in 906 (by decide +kernel) (by decide +kernel), zTb_in 44 (by decide +kernel) (by decide +kernel), by decide, zTb_in 904 (by decide +kernel) (by decide +kernel), zTb_in 905 (by decide +kernel) (by decide +kernel), ⟨_, _, rfl⟩, by decide +kernel⟩
def zd_X8_together : List zI := [(0, .iload_n 1, 1), (1, .iconst 0, 1), (2, .bipush 15, 2), (4, .invokestatic 89, 3), (7, .ifCond .eq 18, 3), (10, .iload_n 2, 1), (11, .iconst 0, 1), (12, .bipush 15, 2), (14, .invokestatic 89, 3), (17, .ifCond .eq 8, 3), (20, .iload_n 1, 1), (21, .iload_n 2, 1), (22, .if_icmp .ne 5, 3), (25, .iconst (-1), 1), (26, .ireturn, 1), (27, .iconst 0, 1), (28, .istore_n 3, 1), (29, .iconst 0, 1), (30, .istore 4, 2), (32, .iload 4, 2), (34, .aload_n 0, 1), (35, .getfield 189, 3), (38, .if_icmp .ge 44, 3), (41, .iload_n 3, 1), (42, .aload_n 0, 1), (43, .getfield 53, 3), (46, .iload 4, 2), (48, .iaload, 1), (49, .iload_n 1, 1), (50, .ishr, 1), (51, .iconst 1, 1), (52, .iand, 1), (53, .aload_n 0, 1), (54, .getfield 53, 3), (57, .iload 4, 2), (59, .iaload, 1), (60, .iload_n 2, 1), (61, .ishr, 1), (62, .iconst 1, 1), (63, .iand, 1), (64, .iadd, 1), (65, .iconst 2, 1), (66, .if_icmp .ne 7, 3), (69, .iconst 1, 1), (70, .goto 4, 3), (73, .iconst 0, 1), (74, .iadd, 1), (75, .istore_n 3, 1), (76, .iinc 4 1, 3), (79, .goto (-47), 3), (82, .iload_n 3, 1), (83, .ireturn, 1)]
def M_X8_together : zM := (zd_X8_together, zfX8, zgX8, znX8, zoX8, [(89, 3, 1, none, R_X8_in)], [])
def R_X8_together : zRel := zR M_X8_together 5 (some .int)
def rm_X8_together : Room := { frames := 1, cells := 0, slots := 0, locals := 22 }
theorem dd_X8_together : ∀ q ∈ zd_X8_together, decode cX8_together q.1 = .ok (q.2.1, q.2.2) := by decide +kernel
theorem m_X8_together (l : Launch) : zMet l yX8_together cX8_together 5 (some .int) rm_X8_together R_X8_together := z_met (M := M_X8_together) (plainFor_of_name (by decide)) dd_X8_together (by decide +kernel) rfl zfX8_ok zgX8_ok znX8_ok zoX8_ok (List.forall_mem_cons.mpr ⟨Or.inl ⟨yX8_in, cX8_in, 3, (some .boolean), rm_X8_in, m_X8_in l, rfl, rfl, by decide, zTb_in 712 (by decide +kernel) (by decide +kernel), k_X8_in⟩,
  fun _ h => absurd h List.not_mem_nil⟩) (Or.inr rfl)
theorem k_X8_together : Cond.code yX8_together cX8_together 5 (some .int) ∈ zTb ∧ Cond.initialized yX8_together.cls ∈ zTb ∧ (yX8_together.cls ≠ "java/lang/invoke/MethodHandle" ∧ yX8_together.cls ≠ "java/lang/invoke/VarHandle") ∧ Cond.instanceMethod yX8_together ∈ zTb ∧ Cond.selects yX8_together.cls yX8_together yX8_together ∈ zTb ∧ (∃ (T : u_T) (N : Nat), vwCl[8]? = some (yX8_together.cls, T, N)) ∧ (parseMethodDescriptor yX8_together.desc).map (fun d => d.parameters.length + 1) = some 3 := ⟨zTb_in 910 (by decide +kernel) (by decide +kernel), zTb_in 44 (by decide +kernel) (by decide +kernel), by decide, zTb_in 908 (by decide +kernel) (by decide +kernel), zTb_in 909 (by decide +kernel) (by decide +kernel), ⟨_, _, rfl⟩, by decide +kernel⟩
def zd_X8_keep : List zI := [(0, .aload_n 0, 1), (1, .getfield 192, 3), (4, .iconst 3, 1), (5, .if_icmp .ne 6, 3), (8, .bipush (-3), 2), (10, .ireturn, 1), (11, .bipush 51, 2), (13, .aload_n 0, 1), (14, .getfield 192, 3), (17, .imul, 1), (18, .istore_n 1, 1), (19, .iconst 0, 1), (20, .istore_n 2, 1), (21, .iload_n 2, 1), (22, .bipush 30, 2), (24, .if_icmp .ge 23, 3), (27, .aload_n 0, 1), (28, .getfield 82, 3), (31, .iload_n 1, 1), (32, .iload_n 2, 1), (33, .iadd, 1), (34, .aload_n 0, 1), (35, .getfield 7, 3), (38, .iload_n 2, 1), (39, .iaload, 1), (40, .iastore, 1), (41, .iinc 2 1, 3), (44, .goto (-23), 3), (47, .iconst 0, 1), (48, .istore_n 2, 1), (49, .iload_n 2, 1), (50, .bipush 12, 2), (52, .if_icmp .ge 26, 3), (55, .aload_n 0, 1), (56, .getfield 82, 3), (59, .iload_n 1, 1), (60, .bipush 30, 2), (62, .iadd, 1), (63, .iload_n 2, 1), (64, .iadd, 1), (65, .aload_n 0, 1), (66, .getfield 29, 3), (69, .iload_n 2, 1), (70, .iaload, 1), (71, .iastore, 1), (72, .iinc 2 1, 3), (75, .goto (-26), 3), (78, .iconst 0, 1), (79, .istore_n 2, 1), (80, .iload_n 2, 1), (81, .iconst 4, 1), (82, .if_icmp .ge 26, 3), (85, .aload_n 0, 1), (86, .getfield 82, 3), (89, .iload_n 1, 1), (90, .bipush 42, 2), (92, .iadd, 1), (93, .iload_n 2, 1), (94, .iadd, 1), (95, .aload_n 0, 1), (96, .getfield 26, 3), (99, .iload_n 2, 1), (100, .iaload, 1), (101, .iastore, 1), (102, .iinc 2 1, 3), (105, .goto (-25), 3), (108, .aload_n 0, 1), (109, .getfield 82, 3), (112, .iload_n 1, 1), (113, .bipush 46, 2), (115, .iadd, 1), (116, .aload_n 0, 1), (117, .getfield 13, 3), (120, .iastore, 1), (121, .aload_n 0, 1), (122, .getfield 82, 3), (125, .iload_n 1, 1), (126, .bipush 47, 2), (128, .iadd, 1), (129, .aload_n 0, 1), (130, .getfield 93, 3), (133, .iastore, 1), (134, .aload_n 0, 1), (135, .getfield 82, 3), (138, .iload_n 1, 1), (139, .bipush 48, 2), (141, .iadd, 1), (142, .aload_n 0, 1), (143, .getfield 17, 3), (146, .iastore, 1), (147, .aload_n 0, 1), (148, .getfield 82, 3), (151, .iload_n 1, 1), (152, .bipush 49, 2), (154, .iadd, 1), (155, .aload_n 0, 1), (156, .getfield 20, 3), (159, .iastore, 1), (160, .aload_n 0, 1), (161, .getfield 82, 3), (164, .iload_n 1, 1), (165, .bipush 50, 2), (167, .iadd, 1), (168, .aload_n 0, 1), (169, .getfield 23, 3), (172, .iastore, 1), (173, .aload_n 0, 1), (174, .dup, 1), (175, .getfield 192, 3), (178, .iconst 1, 1), (179, .iadd, 1), (180, .putfield 192, 3), (183, .aload_n 0, 1), (184, .getfield 192, 3), (187, .ireturn, 1)]
def M_X8_keep : zM := (zd_X8_keep, zfX8, zgX8, znX8, zoX8, [], [])
def R_X8_keep : zRel := zR M_X8_keep 3 (some .int)
def rm_X8_keep : Room := { frames := 0, cells := 0, slots := 0, locals := 0 }
theorem dd_X8_keep : ∀ q ∈ zd_X8_keep, decode cX8_keep q.1 = .ok (q.2.1, q.2.2) := by decide +kernel
theorem m_X8_keep (l : Launch) : zMet l yX8_keep cX8_keep 3 (some .int) rm_X8_keep R_X8_keep := z_met (M := M_X8_keep) (plainFor_of_name (by decide)) dd_X8_keep (by decide +kernel) rfl zfX8_ok zgX8_ok znX8_ok zoX8_ok (fun _ h => absurd h List.not_mem_nil) (Or.inr rfl)
theorem k_X8_keep : Cond.code yX8_keep cX8_keep 3 (some .int) ∈ zTb ∧ Cond.initialized yX8_keep.cls ∈ zTb ∧ (yX8_keep.cls ≠ "java/lang/invoke/MethodHandle" ∧ yX8_keep.cls ≠ "java/lang/invoke/VarHandle") ∧ Cond.instanceMethod yX8_keep ∈ zTb ∧ Cond.selects yX8_keep.cls yX8_keep yX8_keep ∈ zTb ∧ (∃ (T : u_T) (N : Nat), vwCl[8]? = some (yX8_keep.cls, T, N)) ∧ (parseMethodDescriptor yX8_keep.desc).map (fun d => d.parameters.length + 1) = some 1 := ⟨zTb_in 914 (by decide +kernel) (by decide +kernel), zTb_in 44 (by decide +kernel) (by decide +kernel), by decide, zTb_in 912 (by decide +kernel) (by decide +kernel), zTb_in 913 (by decide +kernel) (by decide +kernel), ⟨_, _, rfl⟩, by decide +kernel⟩
def zd_X8_back : List zI := [(0, .aload_n 0, 1), (1, .getfield 192, 3), (4, .ifCond .ne 6, 3), (7, .bipush (-2), 2), (9, .ireturn, 1), (10, .aload_n 0, 1), (11, .dup, 1), (12, .getfield 192, 3), (15, .iconst 1, 1), (16, .isub, 1), (17, .putfield 192, 3), (20, .bipush 51, 2), (22, .aload_n 0, 1), (23, .getfield 192, 3), (26, .imul, 1), (27, .istore_n 1, 1), (28, .iconst 0, 1), (29, .istore_n 2, 1), (30, .iload_n 2, 1), (31, .bipush 30, 2), (33, .if_icmp .ge 23, 3), (36, .aload_n 0, 1), (37, .getfield 7, 3), (40, .iload_n 2, 1), (41, .aload_n 0, 1), (42, .getfield 82, 3), (45, .iload_n 1, 1), (46, .iload_n 2, 1), (47, .iadd, 1), (48, .iaload, 1), (49, .iastore, 1), (50, .iinc 2 1, 3), (53, .goto (-23), 3), (56, .iconst 0, 1), (57, .istore_n 2, 1), (58, .iload_n 2, 1), (59, .bipush 12, 2), (61, .if_icmp .ge 26, 3), (64, .aload_n 0, 1), (65, .getfield 29, 3), (68, .iload_n 2, 1), (69, .aload_n 0, 1), (70, .getfield 82, 3), (73, .iload_n 1, 1), (74, .bipush 30, 2), (76, .iadd, 1), (77, .iload_n 2, 1), (78, .iadd, 1), (79, .iaload, 1), (80, .iastore, 1), (81, .iinc 2 1, 3), (84, .goto (-26), 3), (87, .iconst 0, 1), (88, .istore_n 2, 1), (89, .iload_n 2, 1), (90, .iconst 4, 1), (91, .if_icmp .ge 26, 3), (94, .aload_n 0, 1), (95, .getfield 26, 3), (98, .iload_n 2, 1), (99, .aload_n 0, 1), (100, .getfield 82, 3), (103, .iload_n 1, 1), (104, .bipush 42, 2), (106, .iadd, 1), (107, .iload_n 2, 1), (108, .iadd, 1), (109, .iaload, 1), (110, .iastore, 1), (111, .iinc 2 1, 3), (114, .goto (-25), 3), (117, .aload_n 0, 1), (118, .aload_n 0, 1), (119, .getfield 82, 3), (122, .iload_n 1, 1), (123, .bipush 46, 2), (125, .iadd, 1), (126, .iaload, 1), (127, .putfield 13, 3), (130, .aload_n 0, 1), (131, .aload_n 0, 1), (132, .getfield 82, 3), (135, .iload_n 1, 1), (136, .bipush 47, 2), (138, .iadd, 1), (139, .iaload, 1), (140, .putfield 93, 3), (143, .aload_n 0, 1), (144, .aload_n 0, 1), (145, .getfield 82, 3), (148, .iload_n 1, 1), (149, .bipush 48, 2), (151, .iadd, 1), (152, .iaload, 1), (153, .putfield 17, 3), (156, .aload_n 0, 1), (157, .aload_n 0, 1), (158, .getfield 82, 3), (161, .iload_n 1, 1), (162, .bipush 49, 2), (164, .iadd, 1), (165, .iaload, 1), (166, .putfield 20, 3), (169, .aload_n 0, 1), (170, .aload_n 0, 1), (171, .getfield 82, 3), (174, .iload_n 1, 1), (175, .bipush 50, 2), (177, .iadd, 1), (178, .iaload, 1), (179, .putfield 23, 3), (182, .aload_n 0, 1), (183, .getfield 192, 3), (186, .ireturn, 1)]
def M_X8_back : zM := (zd_X8_back, zfX8, zgX8, znX8, zoX8, [], [])
def R_X8_back : zRel := zR M_X8_back 3 (some .int)
def rm_X8_back : Room := { frames := 0, cells := 0, slots := 0, locals := 0 }
theorem dd_X8_back : ∀ q ∈ zd_X8_back, decode cX8_back q.1 = .ok (q.2.1, q.2.2) := by decide +kernel
theorem m_X8_back (l : Launch) : zMet l yX8_back cX8_back 3 (some .int) rm_X8_back R_X8_back := z_met (M := M_X8_back) (plainFor_of_name (by decide)) dd_X8_back (by decide +kernel) rfl zfX8_ok zgX8_ok znX8_ok zoX8_ok (fun _ h => absurd h List.not_mem_nil) (Or.inr rfl)
theorem k_X8_back : Cond.code yX8_back cX8_back 3 (some .int) ∈ zTb ∧ Cond.initialized yX8_back.cls ∈ zTb ∧ (yX8_back.cls ≠ "java/lang/invoke/MethodHandle" ∧ yX8_back.cls ≠ "java/lang/invoke/VarHandle") ∧ Cond.instanceMethod yX8_back ∈ zTb ∧ Cond.selects yX8_back.cls yX8_back yX8_back ∈ zTb ∧ (∃ (T : u_T) (N : Nat), vwCl[8]? = some (yX8_back.cls, T, N)) ∧ (parseMethodDescriptor yX8_back.desc).map (fun d => d.parameters.length + 1) = some 1 := ⟨zTb_in 918 (by decide +kernel) (by decide +kernel), zTb_in 44 (by decide +kernel) (by decide +kernel), by decide, zTb_in 916 (by decide +kernel) (by decide +kernel), zTb_in 917 (by decide +kernel) (by decide +kernel), ⟨_, _, rfl⟩, by decide +kernel⟩
def zd_X8_count : List zI := [(0, .iconst 0, 1), (1, .istore_n 2, 1), (2, .iload_n 1, 1), (3, .tableswitch 143 0 5 #[37, 65, 70, 75, 80, 113], 37), (40, .aload_n 0, 1), (41, .getfield 26, 3), (44, .iconst 0, 1), (45, .iaload, 1), (46, .aload_n 0, 1), (47, .getfield 26, 3), (50, .iconst 1, 1), (51, .iaload, 1), (52, .iadd, 1), (53, .aload_n 0, 1), (54, .getfield 26, 3), (57, .iconst 2, 1), (58, .iaload, 1), (59, .iadd, 1), (60, .aload_n 0, 1), (61, .getfield 26, 3), (64, .iconst 3, 1), (65, .iaload, 1), (66, .iadd, 1), (67, .ireturn, 1), (68, .aload_n 0, 1), (69, .getfield 154, 3), (72, .ireturn, 1), (73, .aload_n 0, 1), (74, .getfield 189, 3), (77, .ireturn, 1), (78, .aload_n 0, 1), (79, .getfield 192, 3), (82, .ireturn, 1), (83, .iconst 0, 1), (84, .istore_n 3, 1), (85, .iload_n 3, 1), (86, .bipush 12, 2), (88, .if_icmp .ge 26, 3), (91, .iload_n 2, 1), (92, .aload_n 0, 1), (93, .getfield 44, 3), (96, .iload_n 3, 1), (97, .iaload, 1), (98, .ifCond .ge 7, 3), (101, .iconst 0, 1), (102, .goto 4, 3), (105, .iconst 1, 1), (106, .iadd, 1), (107, .istore_n 2, 1), (108, .iinc 3 1, 3), (111, .goto (-26), 3), (114, .iload_n 2, 1), (115, .ireturn, 1), (116, .iconst 0, 1), (117, .istore_n 3, 1), (118, .iload_n 3, 1), (119, .aload_n 0, 1), (120, .getfield 189, 3), (123, .if_icmp .ge 18, 3), (126, .iload_n 2, 1), (127, .aload_n 0, 1), (128, .getfield 53, 3), (131, .iload_n 3, 1), (132, .iaload, 1), (133, .ior, 1), (134, .istore_n 2, 1), (135, .iinc 3 1, 3), (138, .goto (-20), 3), (141, .iload_n 2, 1), (142, .invokestatic 176, 3), (145, .ireturn, 1), (146, .iconst (-1), 1), (147, .ireturn, 1)]
def M_X8_count : zM := (zd_X8_count, zfX8, zgX8, znX8, zoX8, [(176, 1, 1, none, R_X8_bits)], [])
def R_X8_count : zRel := zR M_X8_count 4 (some .int)
def rm_X8_count : Room := { frames := 1, cells := 0, slots := 0, locals := 22 }
theorem dd_X8_count : ∀ q ∈ zd_X8_count, decode cX8_count q.1 = .ok (q.2.1, q.2.2) := by decide +kernel
theorem m_X8_count (l : Launch) : zMet l yX8_count cX8_count 4 (some .int) rm_X8_count R_X8_count := z_met (M := M_X8_count) (plainFor_of_name (by decide)) dd_X8_count (by decide +kernel) rfl zfX8_ok zgX8_ok znX8_ok zoX8_ok (List.forall_mem_cons.mpr ⟨Or.inl ⟨yX8_bits, cX8_bits, 3, (some .int), rm_X8_bits, m_X8_bits l, rfl, rfl, by decide, zTb_in 860 (by decide +kernel) (by decide +kernel), k_X8_bits⟩,
  fun _ h => absurd h List.not_mem_nil⟩) (Or.inr rfl)
theorem k_X8_count : Cond.code yX8_count cX8_count 4 (some .int) ∈ zTb ∧ Cond.initialized yX8_count.cls ∈ zTb ∧ (yX8_count.cls ≠ "java/lang/invoke/MethodHandle" ∧ yX8_count.cls ≠ "java/lang/invoke/VarHandle") ∧ Cond.instanceMethod yX8_count ∈ zTb ∧ Cond.selects yX8_count.cls yX8_count yX8_count ∈ zTb ∧ (∃ (T : u_T) (N : Nat), vwCl[8]? = some (yX8_count.cls, T, N)) ∧ (parseMethodDescriptor yX8_count.desc).map (fun d => d.parameters.length + 1) = some 2 := ⟨zTb_in 922 (by decide +kernel) (by decide +kernel), zTb_in 44 (by decide +kernel) (by decide +kernel), by decide, zTb_in 920 (by decide +kernel) (by decide +kernel), zTb_in 921 (by decide +kernel) (by decide +kernel), ⟨_, _, rfl⟩, by decide +kernel⟩
end
section
theorem t_X0_placesTold_0 (a1 : Int32) (h : zH) (post : Option Value → zH → Prop) (t : zG M_X0_placesTold post (zat M_X0_placesTold 4) [some (.ref 35), some (.int a1), some (.int (0 : Int32)), some (.int (0 : Int32))] [] h) : zG M_X0_placesTold post (M_X0_placesTold.1) [some (.ref 35), some (.int a1), none, none] [] h := zsg_sound (cuts := [(4, [true, true, true, true])]) 6 t
theorem r_X0_placesTold (a1 : Int32) (h : zH) (o : Option Value) (h' : zH) (ho : ∃ v, o = some (.int v)) (t : zG M_X0_placesTold (fun r1 h1 => r1 = o ∧ h1 = h') M_X0_placesTold.1 [some (.ref 35), some (.int a1), none, none] [] h) : R_X0_placesTold [.ref 35, .int a1] h o h' := ⟨rfl, ho, t⟩
theorem t_X0_placesTold_4 (x1 : Int32) (x2 : Int32) (x3 : Int32) (h : zH) (post : Option Value → zH → Prop) (t : ((12 : Int32) ≤ x3 → post (some (.int x2)) h) ∧ (¬ ((12 : Int32) ≤ x3) → vp_in x3 12 ∧ (¬ (h.1 36 x3.toNatClampNeg) = x1 → zG M_X0_placesTold post (zat M_X0_placesTold 4) [some (.ref 35), some (.int x1), some (.int x2), some (.int (x3 + (1 : Int32)))] [] h) ∧ (¬ ¬ (h.1 36 x3.toNatClampNeg) = x1 → zG M_X0_placesTold post (zat M_X0_placesTold 4) [some (.ref 35), some (.int x1), some (.int (x2 ||| ((1 : Int32) <<< (x3 &&& 31)))), some (.int (x3 + (1 : Int32)))] [] h))) : zG M_X0_placesTold post (zat M_X0_placesTold 4) [some (.ref 35), some (.int x1), some (.int x2), some (.int x3)] [] h := zsg_sound (cuts := [(4, [true, true, true, true])]) 19 t
theorem t_X6_bent_0 (a1 : Int32) (a2 : Int32) (a3 : Int32) (h : zH) (post : Option Value → zH → Prop) (t : ¬ (100 : Int32) = 0 ∧ vp_in ((a1 * (10 : Int32)) + (a3 / (100 : Int32))) 30 ∧ ((900 : Int32) ≤ a3 → vp_in (0 : Int32) 5 ∧ ¬ (1000 : Int32) = 0 ∧ post (some (.int ((h.1 2 ((a1 * (10 : Int32)) + (a3 / (100 : Int32))).toNatClampNeg) - ((((h.1 2 ((a1 * (10 : Int32)) + (a3 / (100 : Int32))).toNatClampNeg) * (h.1 3 (0 : Int32).toNatClampNeg)) * a2) / (1000 : Int32))))) h) ∧ (¬ ((900 : Int32) ≤ a3) → vp_in (((a1 * (10 : Int32)) + (a3 / (100 : Int32))) + (1 : Int32)) 30 ∧ ¬ (100 : Int32) = 0 ∧ ¬ (100 : Int32) = 0 ∧ vp_in (0 : Int32) 5 ∧ ¬ (1000 : Int32) = 0 ∧ post (some (.int (((h.1 2 ((a1 * (10 : Int32)) + (a3 / (100 : Int32))).toNatClampNeg) + ((((h.1 2 (((a1 * (10 : Int32)) + (a3 / (100 : Int32))) + (1 : Int32)).toNatClampNeg) - (h.1 2 ((a1 * (10 : Int32)) + (a3 / (100 : Int32))).toNatClampNeg)) * (a3 - a3 / (100 : Int32) * (100 : Int32))) / (100 : Int32))) - (((((h.1 2 ((a1 * (10 : Int32)) + (a3 / (100 : Int32))).toNatClampNeg) + ((((h.1 2 (((a1 * (10 : Int32)) + (a3 / (100 : Int32))) + (1 : Int32)).toNatClampNeg) - (h.1 2 ((a1 * (10 : Int32)) + (a3 / (100 : Int32))).toNatClampNeg)) * (a3 - a3 / (100 : Int32) * (100 : Int32))) / (100 : Int32))) * (h.1 3 (0 : Int32).toNatClampNeg)) * a2) / (1000 : Int32))))) h)) : zG M_X6_bent post (M_X6_bent.1) [some (.ref 1), some (.int a1), some (.int a2), some (.int a3), none, none] [] h := zsg_sound (cuts := []) 47 t
theorem r_X6_bent (a1 : Int32) (a2 : Int32) (a3 : Int32) (h : zH) (o : Option Value) (h' : zH) (ho : ∃ v, o = some (.int v)) (t : zG M_X6_bent (fun r1 h1 => r1 = o ∧ h1 = h') M_X6_bent.1 [some (.ref 1), some (.int a1), some (.int a2), some (.int a3), none, none] [] h) : R_X6_bent [.ref 1, .int a1, .int a2, .int a3] h o h' := ⟨rfl, ho, t⟩
theorem t_X4_leastTurn_0 (a1 : Int32) (a2 : Int32) (h : zH) (post : Option Value → zH → Prop) (t : zG M_X4_leastTurn post (zat M_X4_leastTurn 12) [some (.ref 29), some (.int a1), some (.int a2), some (.int (-10000 : Int32)), some (.int (901 : Int32)), some (.int (0 : Int32)), none] [] h) : zG M_X4_leastTurn post (M_X4_leastTurn.1) [some (.ref 29), some (.int a1), some (.int a2), none, none, none, none] [] h := zsg_sound (cuts := [(12, [true, true, true, true, true, true, false]), (43, [true, true, true, true, true, true, true])]) 8 t
theorem r_X4_leastTurn (a1 : Int32) (a2 : Int32) (h : zH) (o : Option Value) (h' : zH) (ho : ∃ v, o = some (.int v)) (t : zG M_X4_leastTurn (fun r1 h1 => r1 = o ∧ h1 = h') M_X4_leastTurn.1 [some (.ref 29), some (.int a1), some (.int a2), none, none, none, none] [] h) : R_X4_leastTurn [.ref 29, .int a1, .int a2] h o h' := ⟨rfl, ho, t⟩
theorem t_X4_leastTurn_12 (x1 : Int32) (x2 : Int32) (x3 : Int32) (x4 : Int32) (x5 : Int32) (h : zH) (post : Option Value → zH → Prop) (t : ((900 : Int32) < x5 → post (some (.int x3)) h) ∧ (¬ ((900 : Int32) < x5) → ∃ (v1 : Int32) (h1 : zH), R_X6_bent [.ref 1, .int (1 : Int32), .int x2, .int x5] h (some (.int v1)) h1 ∧ (0 ≤ (x1 - v1) → zG M_X4_leastTurn post (zat M_X4_leastTurn 43) [some (.ref 29), some (.int x1), some (.int x2), some (.int x3), some (.int x4), some (.int x5), some (.int (x1 - v1))] [] h1) ∧ (¬ (0 ≤ (x1 - v1)) → post (some (.int x3)) h1))) : zG M_X4_leastTurn post (zat M_X4_leastTurn 12) [some (.ref 29), some (.int x1), some (.int x2), some (.int x3), some (.int x4), some (.int x5), none] [] h := zsg_sound (cuts := [(12, [true, true, true, true, true, true, false]), (43, [true, true, true, true, true, true, true])]) 18 t
theorem t_X4_leastTurn_43 (x1 : Int32) (x2 : Int32) (x3 : Int32) (x4 : Int32) (x5 : Int32) (x6 : Int32) (h : zH) (post : Option Value → zH → Prop) (t : (x4 ≤ 0 → ((900 : Int32) < x4 → zG M_X4_leastTurn post (zat M_X4_leastTurn 12) [some (.ref 29), some (.int x1), some (.int x2), some (.int x3), some (.int x4), some (.int (x5 + (1 : Int32))), none] [] h) ∧ (¬ ((900 : Int32) < x4) → (x3 = (-10000 : Int32) → zG M_X4_leastTurn post (zat M_X4_leastTurn 12) [some (.ref 29), some (.int x1), some (.int x2), some (.int ((x5 + x4) - x1)), some (.int x4), some (.int (x5 + (1 : Int32))), none] [] h) ∧ (¬ (x3 = (-10000 : Int32)) → (x3 ≤ ((x5 + x4) - x1) → zG M_X4_leastTurn post (zat M_X4_leastTurn 12) [some (.ref 29), some (.int x1), some (.int x2), some (.int x3), some (.int x4), some (.int (x5 + (1 : Int32))), none] [] h) ∧ (¬ (x3 ≤ ((x5 + x4) - x1)) → zG M_X4_leastTurn post (zat M_X4_leastTurn 12) [some (.ref 29), some (.int x1), some (.int x2), some (.int ((x5 + x4) - x1)), some (.int x4), some (.int (x5 + (1 : Int32))), none] [] h)))) ∧ (¬ (x4 ≤ 0) → ∃ (v1 : Int32) (h1 : zH), R_X6_bent [.ref 1, .int (1 : Int32), .int x2, .int (x4 - (1 : Int32))] h (some (.int v1)) h1 ∧ (v1 < x6 → ((900 : Int32) < x4 → zG M_X4_leastTurn post (zat M_X4_leastTurn 12) [some (.ref 29), some (.int x1), some (.int x2), some (.int x3), some (.int x4), some (.int (x5 + (1 : Int32))), none] [] h1) ∧ (¬ ((900 : Int32) < x4) → (x3 = (-10000 : Int32) → zG M_X4_leastTurn post (zat M_X4_leastTurn 12) [some (.ref 29), some (.int x1), some (.int x2), some (.int ((x5 + x4) - x1)), some (.int x4), some (.int (x5 + (1 : Int32))), none] [] h1) ∧ (¬ (x3 = (-10000 : Int32)) → (x3 ≤ ((x5 + x4) - x1) → zG M_X4_leastTurn post (zat M_X4_leastTurn 12) [some (.ref 29), some (.int x1), some (.int x2), some (.int x3), some (.int x4), some (.int (x5 + (1 : Int32))), none] [] h1) ∧ (¬ (x3 ≤ ((x5 + x4) - x1)) → zG M_X4_leastTurn post (zat M_X4_leastTurn 12) [some (.ref 29), some (.int x1), some (.int x2), some (.int ((x5 + x4) - x1)), some (.int x4), some (.int (x5 + (1 : Int32))), none] [] h1)))) ∧ (¬ (v1 < x6) → zG M_X4_leastTurn post (zat M_X4_leastTurn 43) [some (.ref 29), some (.int x1), some (.int x2), some (.int x3), some (.int (x4 + (-1 : Int32))), some (.int x5), some (.int x6)] [] h1))) : zG M_X4_leastTurn post (zat M_X4_leastTurn 43) [some (.ref 29), some (.int x1), some (.int x2), some (.int x3), some (.int x4), some (.int x5), some (.int x6)] [] h := zsg_sound (cuts := [(12, [true, true, true, true, true, true, false]), (43, [true, true, true, true, true, true, true])]) 35 t
theorem t_X5_add_0 (a1 : Int32) (a2 : Int32) (a3 : Int32) (a4 : Int32) (h : zH) (post : Option Value → zH → Prop) (t : ((h.1 30 1) < (7 : Int32) → vp_in (((h.1 30 1) * (4 : Int32)) + (0 : Int32)) 28 ∧ vp_in ((((zsi h 31 (((h.1 30 1) * (4 : Int32)) + (0 : Int32)).toNatClampNeg a1).1 30 1) * (4 : Int32)) + (1 : Int32)) 28 ∧ vp_in ((((zsi (zsi h 31 (((h.1 30 1) * (4 : Int32)) + (0 : Int32)).toNatClampNeg a1) 31 ((((zsi h 31 (((h.1 30 1) * (4 : Int32)) + (0 : Int32)).toNatClampNeg a1).1 30 1) * (4 : Int32)) + (1 : Int32)).toNatClampNeg a2).1 30 1) * (4 : Int32)) + (2 : Int32)) 28 ∧ vp_in ((((zsi (zsi (zsi h 31 (((h.1 30 1) * (4 : Int32)) + (0 : Int32)).toNatClampNeg a1) 31 ((((zsi h 31 (((h.1 30 1) * (4 : Int32)) + (0 : Int32)).toNatClampNeg a1).1 30 1) * (4 : Int32)) + (1 : Int32)).toNatClampNeg a2) 31 ((((zsi (zsi h 31 (((h.1 30 1) * (4 : Int32)) + (0 : Int32)).toNatClampNeg a1) 31 ((((zsi h 31 (((h.1 30 1) * (4 : Int32)) + (0 : Int32)).toNatClampNeg a1).1 30 1) * (4 : Int32)) + (1 : Int32)).toNatClampNeg a2).1 30 1) * (4 : Int32)) + (2 : Int32)).toNatClampNeg a3).1 30 1) * (4 : Int32)) + (3 : Int32)) 28 ∧ post none (zsi (zsi (zsi (zsi (zsi h 31 (((h.1 30 1) * (4 : Int32)) + (0 : Int32)).toNatClampNeg a1) 31 ((((zsi h 31 (((h.1 30 1) * (4 : Int32)) + (0 : Int32)).toNatClampNeg a1).1 30 1) * (4 : Int32)) + (1 : Int32)).toNatClampNeg a2) 31 ((((zsi (zsi h 31 (((h.1 30 1) * (4 : Int32)) + (0 : Int32)).toNatClampNeg a1) 31 ((((zsi h 31 (((h.1 30 1) * (4 : Int32)) + (0 : Int32)).toNatClampNeg a1).1 30 1) * (4 : Int32)) + (1 : Int32)).toNatClampNeg a2).1 30 1) * (4 : Int32)) + (2 : Int32)).toNatClampNeg a3) 31 ((((zsi (zsi (zsi h 31 (((h.1 30 1) * (4 : Int32)) + (0 : Int32)).toNatClampNeg a1) 31 ((((zsi h 31 (((h.1 30 1) * (4 : Int32)) + (0 : Int32)).toNatClampNeg a1).1 30 1) * (4 : Int32)) + (1 : Int32)).toNatClampNeg a2) 31 ((((zsi (zsi h 31 (((h.1 30 1) * (4 : Int32)) + (0 : Int32)).toNatClampNeg a1) 31 ((((zsi h 31 (((h.1 30 1) * (4 : Int32)) + (0 : Int32)).toNatClampNeg a1).1 30 1) * (4 : Int32)) + (1 : Int32)).toNatClampNeg a2).1 30 1) * (4 : Int32)) + (2 : Int32)).toNatClampNeg a3).1 30 1) * (4 : Int32)) + (3 : Int32)).toNatClampNeg a4) 30 1 (((zsi (zsi (zsi (zsi h 31 (((h.1 30 1) * (4 : Int32)) + (0 : Int32)).toNatClampNeg a1) 31 ((((zsi h 31 (((h.1 30 1) * (4 : Int32)) + (0 : Int32)).toNatClampNeg a1).1 30 1) * (4 : Int32)) + (1 : Int32)).toNatClampNeg a2) 31 ((((zsi (zsi h 31 (((h.1 30 1) * (4 : Int32)) + (0 : Int32)).toNatClampNeg a1) 31 ((((zsi h 31 (((h.1 30 1) * (4 : Int32)) + (0 : Int32)).toNatClampNeg a1).1 30 1) * (4 : Int32)) + (1 : Int32)).toNatClampNeg a2).1 30 1) * (4 : Int32)) + (2 : Int32)).toNatClampNeg a3) 31 ((((zsi (zsi (zsi h 31 (((h.1 30 1) * (4 : Int32)) + (0 : Int32)).toNatClampNeg a1) 31 ((((zsi h 31 (((h.1 30 1) * (4 : Int32)) + (0 : Int32)).toNatClampNeg a1).1 30 1) * (4 : Int32)) + (1 : Int32)).toNatClampNeg a2) 31 ((((zsi (zsi h 31 (((h.1 30 1) * (4 : Int32)) + (0 : Int32)).toNatClampNeg a1) 31 ((((zsi h 31 (((h.1 30 1) * (4 : Int32)) + (0 : Int32)).toNatClampNeg a1).1 30 1) * (4 : Int32)) + (1 : Int32)).toNatClampNeg a2).1 30 1) * (4 : Int32)) + (2 : Int32)).toNatClampNeg a3).1 30 1) * (4 : Int32)) + (3 : Int32)).toNatClampNeg a4).1 30 1) + (1 : Int32)))) ∧ (¬ ((h.1 30 1) < (7 : Int32)) → post none h)) : zG M_X5_add post (M_X5_add.1) [some (.ref 30), some (.int a1), some (.int a2), some (.int a3), some (.int a4)] [] h := zsg_sound (cuts := []) 52 t
theorem r_X5_add (a1 : Int32) (a2 : Int32) (a3 : Int32) (a4 : Int32) (h : zH) (o : Option Value) (h' : zH) (ho : o = none) (t : zG M_X5_add (fun r1 h1 => r1 = o ∧ h1 = h') M_X5_add.1 [some (.ref 30), some (.int a1), some (.int a2), some (.int a3), some (.int a4)] [] h) : R_X5_add [.ref 30, .int a1, .int a2, .int a3, .int a4] h o h' := ⟨rfl, ho, t⟩
theorem t_X4_addArcs_0 (a1 : Int32) (a2 : Int32) (h : zH) (post : Option Value → zH → Prop) (t : ((900 : Int32) < (a2 + a1) → (a2 < a1 → post none h) ∧ (¬ (a2 < a1) → ∃ h1 : zH, R_X5_add [.ref 30, .int (1 : Int32), .int (3 : Int32), .int a1, .int a1] h none h1 ∧ post none h1)) ∧ (¬ ((900 : Int32) < (a2 + a1)) → ∃ h1 : zH, R_X5_add [.ref 30, .int (1 : Int32), .int (2 : Int32), .int a1, .int a1] h none h1 ∧ (a2 < a1 → post none h1) ∧ (¬ (a2 < a1) → ∃ h2 : zH, R_X5_add [.ref 30, .int (1 : Int32), .int (3 : Int32), .int a1, .int a1] h1 none h2 ∧ post none h2))) : zG M_X4_addArcs post (M_X4_addArcs.1) [some (.ref 29), some (.int a1), some (.int a2)] [] h := zsg_sound (cuts := []) 24 t
theorem r_X4_addArcs (a1 : Int32) (a2 : Int32) (h : zH) (o : Option Value) (h' : zH) (ho : o = none) (t : zG M_X4_addArcs (fun r1 h1 => r1 = o ∧ h1 = h') M_X4_addArcs.1 [some (.ref 29), some (.int a1), some (.int a2)] [] h) : R_X4_addArcs [.ref 29, .int a1, .int a2] h o h' := ⟨rfl, ho, t⟩
theorem t_J9_max_7cf53_0 (a1 : Int32) (a2 : Int32) (h : zH) (post : Option Value → zH → Prop) (t : (a1 < a2 → post (some (.int a2)) h) ∧ (¬ (a1 < a2) → post (some (.int a1)) h)) : zG M_J9_max_7cf53 post (M_J9_max_7cf53.1) [some (.int a1), some (.int a2)] [] h := zsg_sound (cuts := []) 7 t
theorem r_J9_max_7cf53 (a1 : Int32) (a2 : Int32) (h : zH) (o : Option Value) (h' : zH) (ho : ∃ v, o = some (.int v)) (t : zG M_J9_max_7cf53 (fun r1 h1 => r1 = o ∧ h1 = h') M_J9_max_7cf53.1 [some (.int a1), some (.int a2)] [] h) : R_J9_max_7cf53 [.int a1, .int a2] h o h' := ⟨rfl, ho, t⟩
theorem t_X4_addSpot_0 (a1 : Int32) (a2 : Int32) (a3 : Int32) (h : zH) (post : Option Value → zH → Prop) (t : vp_in (3 : Int32) 5 ∧ vp_in (3 : Int32) 5 ∧ ∃ (v1 : Int32) (h1 : zH), R_J9_max_7cf53 [.int (zRL (3 : Int32).toNatClampNeg), .int (h.1 3 (3 : Int32).toNatClampNeg)] h (some (.int v1)) h1 ∧ ¬ v1 = 0 ∧ ((600 : Int32) < a3 → post none h1) ∧ (¬ ((600 : Int32) < a3) → ((a2 + ((a2 * a3) / v1)) ≤ (1800 : Int32) → (¬ a1 = (1 : Int32) → vp_in (4 : Int32) 5 ∧ ∃ h2 : zH, R_X5_add [.ref 30, .int (2 : Int32), .int (1 : Int32), .int a2, .int ((a2 + ((a2 * a3) / v1)) + (h1.1 3 (4 : Int32).toNatClampNeg))] h1 none h2 ∧ post none h2) ∧ (¬ ¬ a1 = (1 : Int32) → ∃ h2 : zH, R_X5_add [.ref 30, .int (2 : Int32), .int (1 : Int32), .int (a2 + ((a2 * a3) / v1)), .int (a2 + ((a2 * a3) / v1))] h1 none h2 ∧ post none h2)) ∧ (¬ ((a2 + ((a2 * a3) / v1)) ≤ (1800 : Int32)) → post none h1))) : zG M_X4_addSpot post (M_X4_addSpot.1) [some (.ref 29), some (.int a1), some (.int a2), some (.int a3), none, none] [] h := zsg_sound (cuts := []) 42 t
theorem r_X4_addSpot (a1 : Int32) (a2 : Int32) (a3 : Int32) (h : zH) (o : Option Value) (h' : zH) (ho : o = none) (t : zG M_X4_addSpot (fun r1 h1 => r1 = o ∧ h1 = h') M_X4_addSpot.1 [some (.ref 29), some (.int a1), some (.int a2), some (.int a3), none, none] [] h) : R_X4_addSpot [.ref 29, .int a1, .int a2, .int a3] h o h' := ⟨rfl, ho, t⟩
theorem t_X6_hasWedge_0 (a1 : Int32) (a2 : Int32) (h : zH) (post : Option Value → zH → Prop) (t : zG M_X6_hasWedge post (zat M_X6_hasWedge 2) [some (.ref 1), some (.int a1), some (.int a2), some (.int (0 : Int32))] [] h) : zG M_X6_hasWedge post (M_X6_hasWedge.1) [some (.ref 1), some (.int a1), some (.int a2), none] [] h := zsg_sound (cuts := [(2, [true, true, true, true])]) 4 t
theorem r_X6_hasWedge (a1 : Int32) (a2 : Int32) (h : zH) (o : Option Value) (h' : zH) (ho : o = some (.int 0) ∨ o = some (.int 1)) (t : zG M_X6_hasWedge (fun r1 h1 => r1 = o ∧ h1 = h') M_X6_hasWedge.1 [some (.ref 1), some (.int a1), some (.int a2), none] [] h) : R_X6_hasWedge [.ref 1, .int a1, .int a2] h o h' := ⟨rfl, ho, t⟩
theorem t_X6_hasWedge_2 (x1 : Int32) (x2 : Int32) (x3 : Int32) (h : zH) (post : Option Value → zH → Prop) (t : vp_in x1 4 ∧ ((h.1 5 x1.toNatClampNeg) ≤ x3 → post (some (.int (0 : Int32))) h) ∧ (¬ ((h.1 5 x1.toNatClampNeg) ≤ x3) → vp_in ((x1 * (3 : Int32)) + x3) 12 ∧ (¬ (h.1 4 ((x1 * (3 : Int32)) + x3).toNatClampNeg) = x2 → zG M_X6_hasWedge post (zat M_X6_hasWedge 2) [some (.ref 1), some (.int x1), some (.int x2), some (.int (x3 + (1 : Int32)))] [] h) ∧ (¬ ¬ (h.1 4 ((x1 * (3 : Int32)) + x3).toNatClampNeg) = x2 → post (some (.int (1 : Int32))) h))) : zG M_X6_hasWedge post (zat M_X6_hasWedge 2) [some (.ref 1), some (.int x1), some (.int x2), some (.int x3)] [] h := zsg_sound (cuts := [(2, [true, true, true, true])]) 20 t
theorem t_X4_addLightsBehind_0 (a1 : Int32) (a2 : Int32) (h : zH) (post : Option Value → zH → Prop) (t : (¬ a2 = (1 : Int32) → (¬ a2 = (2 : Int32) → (¬ a2 = (3 : Int32) → post none h) ∧ (¬ ¬ a2 = (3 : Int32) → ∃ h1 : zH, R_X5_add [.ref 30, .int (3 : Int32), .int (1 : Int32), .int (0 : Int32), .int (1800 : Int32)] h none h1 ∧ post none h1)) ∧ (¬ ¬ a2 = (2 : Int32) → ∃ (v1 : Int32) (h1 : zH), R_X6_hasWedge [.ref 1, .int a1, .int (900 : Int32)] h (some (.int v1)) h1 ∧ (v1 = 0 → (¬ a2 = (3 : Int32) → post none h1) ∧ (¬ ¬ a2 = (3 : Int32) → ∃ h2 : zH, R_X5_add [.ref 30, .int (3 : Int32), .int (1 : Int32), .int (0 : Int32), .int (1800 : Int32)] h1 none h2 ∧ post none h2)) ∧ (¬ (v1 = 0) → ∃ h2 : zH, R_X5_add [.ref 30, .int (2 : Int32), .int (1 : Int32), .int (1800 : Int32), .int (1800 : Int32)] h1 none h2 ∧ post none h2))) ∧ (¬ ¬ a2 = (1 : Int32) → ∃ (v1 : Int32) (h1 : zH), R_X6_hasWedge [.ref 1, .int a1, .int (600 : Int32)] h (some (.int v1)) h1 ∧ (v1 = 0 → (¬ a2 = (2 : Int32) → (¬ a2 = (3 : Int32) → post none h1) ∧ (¬ ¬ a2 = (3 : Int32) → ∃ h2 : zH, R_X5_add [.ref 30, .int (3 : Int32), .int (1 : Int32), .int (0 : Int32), .int (1800 : Int32)] h1 none h2 ∧ post none h2)) ∧ (¬ ¬ a2 = (2 : Int32) → ∃ (v2 : Int32) (h2 : zH), R_X6_hasWedge [.ref 1, .int a1, .int (900 : Int32)] h1 (some (.int v2)) h2 ∧ (v2 = 0 → (¬ a2 = (3 : Int32) → post none h2) ∧ (¬ ¬ a2 = (3 : Int32) → ∃ h3 : zH, R_X5_add [.ref 30, .int (3 : Int32), .int (1 : Int32), .int (0 : Int32), .int (1800 : Int32)] h2 none h3 ∧ post none h3)) ∧ (¬ (v2 = 0) → ∃ h3 : zH, R_X5_add [.ref 30, .int (2 : Int32), .int (1 : Int32), .int (1800 : Int32), .int (1800 : Int32)] h2 none h3 ∧ post none h3))) ∧ (¬ (v1 = 0) → ∃ h2 : zH, R_X5_add [.ref 30, .int (2 : Int32), .int (1 : Int32), .int (1200 : Int32), .int (1200 : Int32)] h1 none h2 ∧ post none h2))) : zG M_X4_addLightsBehind post (M_X4_addLightsBehind.1) [some (.ref 29), some (.int a1), some (.int a2)] [] h := zsg_sound (cuts := []) 30 t
theorem r_X4_addLightsBehind (a1 : Int32) (a2 : Int32) (h : zH) (o : Option Value) (h' : zH) (ho : o = none) (t : zG M_X4_addLightsBehind (fun r1 h1 => r1 = o ∧ h1 = h') M_X4_addLightsBehind.1 [some (.ref 29), some (.int a1), some (.int a2)] [] h) : R_X4_addLightsBehind [.ref 29, .int a1, .int a2] h o h' := ⟨rfl, ho, t⟩
theorem t_X4_lightUp_0 (a1 : Int32) (a2 : Int32) (h : zH) (post : Option Value → zH → Prop) (t : ¬ (4 : Int32) = 0 ∧ ¬ (4 : Int32) = 0 ∧ zG M_X4_lightUp post (zat M_X4_lightUp 20) [some (.ref 29), some (.int a1), some (.int a2), some (.int (a1 / (4 : Int32))), some (.int (a1 - a1 / (4 : Int32) * (4 : Int32))), some (.int (0 : Int32)), none, none] [] (zsi h 30 1 (0 : Int32))) : zG M_X4_lightUp post (M_X4_lightUp.1) [some (.ref 29), some (.int a1), some (.int a2), none, none, none, none, none] [] h := zsg_sound (cuts := [(20, [true, true, true, true, true, true, false, false])]) 16 t
theorem r_X4_lightUp (a1 : Int32) (a2 : Int32) (h : zH) (o : Option Value) (h' : zH) (ho : o = none) (t : zG M_X4_lightUp (fun r1 h1 => r1 = o ∧ h1 = h') M_X4_lightUp.1 [some (.ref 29), some (.int a1), some (.int a2), none, none, none, none, none] [] h) : R_X4_lightUp [.ref 29, .int a1, .int a2] h o h' := ⟨rfl, ho, t⟩
theorem t_X4_lightUp_20 (x1 : Int32) (x2 : Int32) (x3 : Int32) (x4 : Int32) (x5 : Int32) (h : zH) (post : Option Value → zH → Prop) (t : vp_in x3 4 ∧ ((h.1 5 x3.toNatClampNeg) ≤ x5 → ∃ h1 : zH, R_X4_addLightsBehind [.ref 29, .int x3, .int x4] h none h1 ∧ post none h1) ∧ (¬ ((h.1 5 x3.toNatClampNeg) ≤ x5) → vp_in ((x3 * (3 : Int32)) + x5) 12 ∧ (¬ (h.1 6 ((x3 * (3 : Int32)) + x5).toNatClampNeg) = (-1 : Int32) → vp_in ((x3 * (3 : Int32)) + x5) 12 ∧ (¬ (h.1 6 ((x3 * (3 : Int32)) + x5).toNatClampNeg) = (-10000 : Int32) → (¬ x4 = 0 → (¬ x4 = (2 : Int32) → ∃ h1 : zH, R_X4_addSpot [.ref 29, .int x4, .int (h.1 6 ((x3 * (3 : Int32)) + x5).toNatClampNeg), .int x2] h none h1 ∧ zG M_X4_lightUp post (zat M_X4_lightUp 20) [some (.ref 29), some (.int x1), some (.int x2), some (.int x3), some (.int x4), some (.int (x5 + (1 : Int32))), none, none] [] h1) ∧ (¬ ¬ x4 = (2 : Int32) → ∃ h1 : zH, R_X4_addArcs [.ref 29, .int (h.1 6 ((x3 * (3 : Int32)) + x5).toNatClampNeg), .int x2] h none h1 ∧ zG M_X4_lightUp post (zat M_X4_lightUp 20) [some (.ref 29), some (.int x1), some (.int x2), some (.int x3), some (.int x4), some (.int (x5 + (1 : Int32))), none, none] [] h1)) ∧ (¬ ¬ x4 = 0 → ∃ h1 : zH, R_X5_add [.ref 30, .int (0 : Int32), .int (0 : Int32), .int (h.1 6 ((x3 * (3 : Int32)) + x5).toNatClampNeg), .int (h.1 6 ((x3 * (3 : Int32)) + x5).toNatClampNeg)] h none h1 ∧ zG M_X4_lightUp post (zat M_X4_lightUp 20) [some (.ref 29), some (.int x1), some (.int x2), some (.int x3), some (.int x4), some (.int (x5 + (1 : Int32))), none, none] [] h1)) ∧ (¬ ¬ (h.1 6 ((x3 * (3 : Int32)) + x5).toNatClampNeg) = (-10000 : Int32) → zG M_X4_lightUp post (zat M_X4_lightUp 20) [some (.ref 29), some (.int x1), some (.int x2), some (.int x3), some (.int x4), some (.int (x5 + (1 : Int32))), none, none] [] h)) ∧ (¬ ¬ (h.1 6 ((x3 * (3 : Int32)) + x5).toNatClampNeg) = (-1 : Int32) → vp_in ((x3 * (3 : Int32)) + x5) 12 ∧ ∃ (v1 : Int32) (h1 : zH), R_X4_leastTurn [.ref 29, .int (h.1 4 ((x3 * (3 : Int32)) + x5).toNatClampNeg), .int (0 : Int32)] h (some (.int v1)) h1 ∧ vp_in ((x3 * (3 : Int32)) + x5) 12 ∧ vp_in ((x3 * (3 : Int32)) + x5) 12 ∧ (¬ ((zsi h1 6 ((x3 * (3 : Int32)) + x5).toNatClampNeg v1).1 6 ((x3 * (3 : Int32)) + x5).toNatClampNeg) = (-10000 : Int32) → (¬ x4 = 0 → (¬ x4 = (2 : Int32) → ∃ h2 : zH, R_X4_addSpot [.ref 29, .int x4, .int ((zsi h1 6 ((x3 * (3 : Int32)) + x5).toNatClampNeg v1).1 6 ((x3 * (3 : Int32)) + x5).toNatClampNeg), .int x2] (zsi h1 6 ((x3 * (3 : Int32)) + x5).toNatClampNeg v1) none h2 ∧ zG M_X4_lightUp post (zat M_X4_lightUp 20) [some (.ref 29), some (.int x1), some (.int x2), some (.int x3), some (.int x4), some (.int (x5 + (1 : Int32))), none, none] [] h2) ∧ (¬ ¬ x4 = (2 : Int32) → ∃ h2 : zH, R_X4_addArcs [.ref 29, .int ((zsi h1 6 ((x3 * (3 : Int32)) + x5).toNatClampNeg v1).1 6 ((x3 * (3 : Int32)) + x5).toNatClampNeg), .int x2] (zsi h1 6 ((x3 * (3 : Int32)) + x5).toNatClampNeg v1) none h2 ∧ zG M_X4_lightUp post (zat M_X4_lightUp 20) [some (.ref 29), some (.int x1), some (.int x2), some (.int x3), some (.int x4), some (.int (x5 + (1 : Int32))), none, none] [] h2)) ∧ (¬ ¬ x4 = 0 → ∃ h2 : zH, R_X5_add [.ref 30, .int (0 : Int32), .int (0 : Int32), .int ((zsi h1 6 ((x3 * (3 : Int32)) + x5).toNatClampNeg v1).1 6 ((x3 * (3 : Int32)) + x5).toNatClampNeg), .int ((zsi h1 6 ((x3 * (3 : Int32)) + x5).toNatClampNeg v1).1 6 ((x3 * (3 : Int32)) + x5).toNatClampNeg)] (zsi h1 6 ((x3 * (3 : Int32)) + x5).toNatClampNeg v1) none h2 ∧ zG M_X4_lightUp post (zat M_X4_lightUp 20) [some (.ref 29), some (.int x1), some (.int x2), some (.int x3), some (.int x4), some (.int (x5 + (1 : Int32))), none, none] [] h2)) ∧ (¬ ¬ ((zsi h1 6 ((x3 * (3 : Int32)) + x5).toNatClampNeg v1).1 6 ((x3 * (3 : Int32)) + x5).toNatClampNeg) = (-10000 : Int32) → zG M_X4_lightUp post (zat M_X4_lightUp 20) [some (.ref 29), some (.int x1), some (.int x2), some (.int x3), some (.int x4), some (.int (x5 + (1 : Int32))), none, none] [] (zsi h1 6 ((x3 * (3 : Int32)) + x5).toNatClampNeg v1))))) : zG M_X4_lightUp post (zat M_X4_lightUp 20) [some (.ref 29), some (.int x1), some (.int x2), some (.int x3), some (.int x4), some (.int x5), none, none] [] h := zsg_sound (cuts := [(20, [true, true, true, true, true, true, false, false])]) 56 t
theorem t_X5_part_0 (a1 : Int32) (a2 : Int32) (h : zH) (post : Option Value → zH → Prop) (t : vp_in ((a1 * (4 : Int32)) + a2) 28 ∧ post (some (.int (h.1 31 ((a1 * (4 : Int32)) + a2).toNatClampNeg))) h) : zG M_X5_part post (M_X5_part.1) [some (.ref 30), some (.int a1), some (.int a2)] [] h := zsg_sound (cuts := []) 10 t
theorem r_X5_part (a1 : Int32) (a2 : Int32) (h : zH) (o : Option Value) (h' : zH) (ho : ∃ v, o = some (.int v)) (t : zG M_X5_part (fun r1 h1 => r1 = o ∧ h1 = h') M_X5_part.1 [some (.ref 30), some (.int a1), some (.int a2)] [] h) : R_X5_part [.ref 30, .int a1, .int a2] h o h' := ⟨rfl, ho, t⟩
theorem t_X5_isNear_0 (a1 : Int32) (a2 : Int32) (a3 : Int32) (h : zH) (post : Option Value → zH → Prop) (t : ∃ (v1 : Int32) (h1 : zH), R_X5_part [.ref 30, .int a1, .int (2 : Int32)] h (some (.int v1)) h1 ∧ (a2 < (v1 - a3) → post (some (.int (0 : Int32))) h1) ∧ (¬ (a2 < (v1 - a3)) → ∃ (v2 : Int32) (h2 : zH), R_X5_part [.ref 30, .int a1, .int (3 : Int32)] h1 (some (.int v2)) h2 ∧ ((v2 + a3) < a2 → post (some (.int (0 : Int32))) h2) ∧ (¬ ((v2 + a3) < a2) → post (some (.int (1 : Int32))) h2))) : zG M_X5_isNear post (M_X5_isNear.1) [some (.ref 30), some (.int a1), some (.int a2), some (.int a3)] [] h := zsg_sound (cuts := []) 20 t
theorem r_X5_isNear (a1 : Int32) (a2 : Int32) (a3 : Int32) (h : zH) (o : Option Value) (h' : zH) (ho : o = some (.int 0) ∨ o = some (.int 1)) (t : zG M_X5_isNear (fun r1 h1 => r1 = o ∧ h1 = h') M_X5_isNear.1 [some (.ref 30), some (.int a1), some (.int a2), some (.int a3)] [] h) : R_X5_isNear [.ref 30, .int a1, .int a2, .int a3] h o h' := ⟨rfl, ho, t⟩
theorem t_X0_placesNear_0 (a1 : Int32) (h : zH) (post : Option Value → zH → Prop) (t : zG M_X0_placesNear post (zat M_X0_placesNear 4) [some (.ref 35), some (.int a1), some (.int (0 : Int32)), some (.int (0 : Int32))] [] h) : zG M_X0_placesNear post (M_X0_placesNear.1) [some (.ref 35), some (.int a1), none, none] [] h := zsg_sound (cuts := [(4, [true, true, true, true])]) 6 t
theorem r_X0_placesNear (a1 : Int32) (h : zH) (o : Option Value) (h' : zH) (ho : ∃ v, o = some (.int v)) (t : zG M_X0_placesNear (fun r1 h1 => r1 = o ∧ h1 = h') M_X0_placesNear.1 [some (.ref 35), some (.int a1), none, none] [] h) : R_X0_placesNear [.ref 35, .int a1] h o h' := ⟨rfl, ho, t⟩
theorem t_X0_placesNear_4 (x1 : Int32) (x2 : Int32) (x3 : Int32) (h : zH) (post : Option Value → zH → Prop) (t : ((12 : Int32) ≤ x3 → post (some (.int x2)) h) ∧ (¬ ((12 : Int32) ≤ x3) → ∃ (v1 : Int32) (h1 : zH), R_X5_isNear [.ref 30, .int x1, .int ((150 : Int32) * x3), .int (75 : Int32)] h (some (.int v1)) h1 ∧ (v1 = 0 → zG M_X0_placesNear post (zat M_X0_placesNear 4) [some (.ref 35), some (.int x1), some (.int x2), some (.int (x3 + (1 : Int32)))] [] h1) ∧ (¬ (v1 = 0) → zG M_X0_placesNear post (zat M_X0_placesNear 4) [some (.ref 35), some (.int x1), some (.int (x2 ||| ((1 : Int32) <<< (x3 &&& 31)))), some (.int (x3 + (1 : Int32)))] [] h1))) : zG M_X0_placesNear post (zat M_X0_placesNear 4) [some (.ref 35), some (.int x1), some (.int x2), some (.int x3)] [] h := zsg_sound (cuts := [(4, [true, true, true, true])]) 23 t
theorem t_X0_placesMet_0 (a1 : Int32) (a2 : Int32) (h : zH) (post : Option Value → zH → Prop) (t : ∃ h1 : zH, R_X4_lightUp [.ref 29, .int a1, .int a2] h none h1 ∧ zG M_X0_placesMet post (zat M_X0_placesMet 14) [some (.ref 35), some (.int a1), some (.int a2), some (.int (0 : Int32)), some (.int (0 : Int32))] [] h1) : zG M_X0_placesMet post (M_X0_placesMet.1) [some (.ref 35), some (.int a1), some (.int a2), none, none] [] h := zsg_sound (cuts := [(14, [true, true, true, true, true])]) 11 t
theorem r_X0_placesMet (a1 : Int32) (a2 : Int32) (h : zH) (o : Option Value) (h' : zH) (ho : ∃ v, o = some (.int v)) (t : zG M_X0_placesMet (fun r1 h1 => r1 = o ∧ h1 = h') M_X0_placesMet.1 [some (.ref 35), some (.int a1), some (.int a2), none, none] [] h) : R_X0_placesMet [.ref 35, .int a1, .int a2] h o h' := ⟨rfl, ho, t⟩
theorem t_X0_placesMet_14 (x1 : Int32) (x2 : Int32) (x3 : Int32) (x4 : Int32) (h : zH) (post : Option Value → zH → Prop) (t : ((h.1 30 1) ≤ x4 → post (some (.int x3)) h) ∧ (¬ ((h.1 30 1) ≤ x4) → ∃ (v1 : Int32) (h1 : zH), R_X5_part [.ref 30, .int x4, .int (0 : Int32)] h (some (.int v1)) h1 ∧ (¬ v1 = (2 : Int32) → zG M_X0_placesMet post (zat M_X0_placesMet 14) [some (.ref 35), some (.int x1), some (.int x2), some (.int x3), some (.int (x4 + (1 : Int32)))] [] h1) ∧ (¬ ¬ v1 = (2 : Int32) → ∃ (v2 : Int32) (h2 : zH), R_X5_part [.ref 30, .int x4, .int (1 : Int32)] h1 (some (.int v2)) h2 ∧ (¬ v2 = (1 : Int32) → zG M_X0_placesMet post (zat M_X0_placesMet 14) [some (.ref 35), some (.int x1), some (.int x2), some (.int x3), some (.int (x4 + (1 : Int32)))] [] h2) ∧ (¬ ¬ v2 = (1 : Int32) → ∃ (v3 : Int32) (h3 : zH), R_X0_placesNear [.ref 35, .int x4] h2 (some (.int v3)) h3 ∧ zG M_X0_placesMet post (zat M_X0_placesMet 14) [some (.ref 35), some (.int x1), some (.int x2), some (.int (x3 ||| v3)), some (.int (x4 + (1 : Int32)))] [] h3)))) : zG M_X0_placesMet post (zat M_X0_placesMet 14) [some (.ref 35), some (.int x1), some (.int x2), some (.int x3), some (.int x4)] [] h := zsg_sound (cuts := [(14, [true, true, true, true, true])]) 32 t
theorem t_X0_fits_0 (a1 : Int32) (a2 : Int32) (a3 : Int32) (h : zH) (post : Option Value → zH → Prop) (t : (¬ (a2 &&& (a1 ^^^ (-1 : Int32))) = 0 → post (some (.int (0 : Int32))) h) ∧ (¬ ¬ (a2 &&& (a1 ^^^ (-1 : Int32))) = 0 → (¬ (a3 &&& a1) = 0 → post (some (.int (0 : Int32))) h) ∧ (¬ ¬ (a3 &&& a1) = 0 → post (some (.int (1 : Int32))) h))) : zG M_X0_fits post (M_X0_fits.1) [some (.int a1), some (.int a2), some (.int a3)] [] h := zsg_sound (cuts := []) 14 t
theorem r_X0_fits (a1 : Int32) (a2 : Int32) (a3 : Int32) (h : zH) (o : Option Value) (h' : zH) (ho : o = some (.int 0) ∨ o = some (.int 1)) (t : zG M_X0_fits (fun r1 h1 => r1 = o ∧ h1 = h') M_X0_fits.1 [some (.int a1), some (.int a2), some (.int a3)] [] h) : R_X0_fits [.int a1, .int a2, .int a3] h o h' := ⟨rfl, ho, t⟩
theorem t_X0_isMade_0 (a1 : Int32) (a2 : Int32) (h : zH) (post : Option Value → zH → Prop) (t : zG M_X0_isMade post (zat M_X0_isMade 5) [some (.ref 35), some (.int a1), some (.int a2), some (.int (0 : Int32)), some (.int (0 : Int32))] [] h) : zG M_X0_isMade post (M_X0_isMade.1) [some (.ref 35), some (.int a1), some (.int a2), none, none] [] h := zsg_sound (cuts := [(5, [true, true, true, true, true])]) 6 t
theorem r_X0_isMade (a1 : Int32) (a2 : Int32) (h : zH) (o : Option Value) (h' : zH) (ho : o = some (.int 0) ∨ o = some (.int 1)) (t : zG M_X0_isMade (fun r1 h1 => r1 = o ∧ h1 = h') M_X0_isMade.1 [some (.ref 35), some (.int a1), some (.int a2), none, none] [] h) : R_X0_isMade [.ref 35, .int a1, .int a2] h o h' := ⟨rfl, ho, t⟩
theorem t_X0_isMade_5 (x1 : Int32) (x2 : Int32) (x3 : Int32) (x4 : Int32) (h : zH) (post : Option Value → zH → Prop) (t : ((16 : Int32) ≤ x4 → ∃ (v1 : Int32) (h1 : zH), R_X0_placesTold [.ref 35, .int (1 : Int32)] h (some (.int v1)) h1 ∧ ∃ (v2 : Int32) (h2 : zH), R_X0_placesTold [.ref 35, .int (0 : Int32)] h1 (some (.int v2)) h2 ∧ ∃ (v3 : Int32) (h3 : zH), R_X0_fits [.int x3, .int v1, .int v2] h2 (some (.int v3)) h3 ∧ post (some (.int v3)) h3) ∧ (¬ ((16 : Int32) ≤ x4) → (¬ ((x1 >>> (x4 &&& 31)) &&& (1 : Int32)) = (1 : Int32) → zG M_X0_isMade post (zat M_X0_isMade 5) [some (.ref 35), some (.int x1), some (.int x2), some (.int x3), some (.int (x4 + (1 : Int32)))] [] h) ∧ (¬ ¬ ((x1 >>> (x4 &&& 31)) &&& (1 : Int32)) = (1 : Int32) → ∃ (v1 : Int32) (h1 : zH), R_X0_placesMet [.ref 35, .int x4, .int x2] h (some (.int v1)) h1 ∧ zG M_X0_isMade post (zat M_X0_isMade 5) [some (.ref 35), some (.int x1), some (.int x2), some (.int (x3 ||| v1)), some (.int (x4 + (1 : Int32)))] [] h1))) : zG M_X0_isMade post (zat M_X0_isMade 5) [some (.ref 35), some (.int x1), some (.int x2), some (.int x3), some (.int x4)] [] h := zsg_sound (cuts := [(5, [true, true, true, true, true])]) 21 t
theorem t_X0_firstMaker_0 (a1 : Int32) (h : zH) (post : Option Value → zH → Prop) (t : ∃ (v1 : Int32) (h1 : zH), R_X0_placesTold [.ref 35, .int (1 : Int32)] h (some (.int v1)) h1 ∧ ∃ (v2 : Int32) (h2 : zH), R_X0_placesTold [.ref 35, .int (0 : Int32)] h1 (some (.int v2)) h2 ∧ zG M_X0_firstMaker post (zat M_X0_firstMaker 15) [some (.ref 35), some (.int a1), some (.int v1), some (.int v2), some (.int (0 : Int32)), none] [] h2) : zG M_X0_firstMaker post (M_X0_firstMaker.1) [some (.ref 35), some (.int a1), none, none, none, none] [] h := zsg_sound (cuts := [(15, [true, true, true, true, true, false]), (59, [true, true, true, true, true, true])]) 12 t
theorem r_X0_firstMaker (a1 : Int32) (h : zH) (o : Option Value) (h' : zH) (ho : ∃ v, o = some (.int v)) (t : zG M_X0_firstMaker (fun r1 h1 => r1 = o ∧ h1 = h') M_X0_firstMaker.1 [some (.ref 35), some (.int a1), none, none, none, none] [] h) : R_X0_firstMaker [.ref 35, .int a1] h o h' := ⟨rfl, ho, t⟩
theorem t_X0_firstMaker_15 (x1 : Int32) (x2 : Int32) (x3 : Int32) (x4 : Int32) (h : zH) (post : Option Value → zH → Prop) (t : ((16 : Int32) ≤ x4 → post (some (.int (-4 : Int32))) h) ∧ (¬ ((16 : Int32) ≤ x4) → ∃ (v1 : Int32) (h1 : zH), R_X0_placesMet [.ref 35, .int x4, .int x1] h (some (.int v1)) h1 ∧ vp_in x4 16 ∧ vp_in x4 16 ∧ ∃ (v2 : Int32) (h2 : zH), R_X0_fits [.int ((zsi h1 37 x4.toNatClampNeg v1).1 37 x4.toNatClampNeg), .int x2, .int x3] (zsi h1 37 x4.toNatClampNeg v1) (some (.int v2)) h2 ∧ (v2 = 0 → zG M_X0_firstMaker post (zat M_X0_firstMaker 59) [some (.ref 35), some (.int x1), some (.int x2), some (.int x3), some (.int x4), some (.int (0 : Int32))] [] h2) ∧ (¬ (v2 = 0) → post (some (.int ((1 : Int32) <<< (x4 &&& 31)))) h2))) : zG M_X0_firstMaker post (zat M_X0_firstMaker 15) [some (.ref 35), some (.int x1), some (.int x2), some (.int x3), some (.int x4), none] [] h := zsg_sound (cuts := [(15, [true, true, true, true, true, false]), (59, [true, true, true, true, true, true])]) 24 t
theorem t_X0_firstMaker_59 (x1 : Int32) (x2 : Int32) (x3 : Int32) (x4 : Int32) (x5 : Int32) (h : zH) (post : Option Value → zH → Prop) (t : (x4 ≤ x5 → zG M_X0_firstMaker post (zat M_X0_firstMaker 15) [some (.ref 35), some (.int x1), some (.int x2), some (.int x3), some (.int (x4 + (1 : Int32))), none] [] h) ∧ (¬ (x4 ≤ x5) → vp_in x4 16 ∧ vp_in x5 16 ∧ ∃ (v1 : Int32) (h1 : zH), R_X0_fits [.int ((h.1 37 x4.toNatClampNeg) ||| (h.1 37 x5.toNatClampNeg)), .int x2, .int x3] h (some (.int v1)) h1 ∧ (v1 = 0 → zG M_X0_firstMaker post (zat M_X0_firstMaker 59) [some (.ref 35), some (.int x1), some (.int x2), some (.int x3), some (.int x4), some (.int (x5 + (1 : Int32)))] [] h1) ∧ (¬ (v1 = 0) → post (some (.int (((1 : Int32) <<< (x4 &&& 31)) ||| ((1 : Int32) <<< (x5 &&& 31))))) h1))) : zG M_X0_firstMaker post (zat M_X0_firstMaker 59) [some (.ref 35), some (.int x1), some (.int x2), some (.int x3), some (.int x4), some (.int x5)] [] h := zsg_sound (cuts := [(15, [true, true, true, true, true, false]), (59, [true, true, true, true, true, true])]) 25 t
theorem t_X1_addDay_0 (a1 : Int32) (a2 : Int32) (a3 : Int32) (h : zH) (post : Option Value → zH → Prop) (t : ((h.1 38 3) < (60 : Int32) → vp_in (h.1 38 3) 60 ∧ vp_in ((zsi h 39 (h.1 38 3).toNatClampNeg a1).1 38 3) 60 ∧ vp_in ((zsi (zsi h 39 (h.1 38 3).toNatClampNeg a1) 40 ((zsi h 39 (h.1 38 3).toNatClampNeg a1).1 38 3).toNatClampNeg a2).1 38 3) 60 ∧ post (some (.int ((zsi (zsi (zsi (zsi h 39 (h.1 38 3).toNatClampNeg a1) 40 ((zsi h 39 (h.1 38 3).toNatClampNeg a1).1 38 3).toNatClampNeg a2) 41 ((zsi (zsi h 39 (h.1 38 3).toNatClampNeg a1) 40 ((zsi h 39 (h.1 38 3).toNatClampNeg a1).1 38 3).toNatClampNeg a2).1 38 3).toNatClampNeg a3) 38 3 (((zsi (zsi (zsi h 39 (h.1 38 3).toNatClampNeg a1) 40 ((zsi h 39 (h.1 38 3).toNatClampNeg a1).1 38 3).toNatClampNeg a2) 41 ((zsi (zsi h 39 (h.1 38 3).toNatClampNeg a1) 40 ((zsi h 39 (h.1 38 3).toNatClampNeg a1).1 38 3).toNatClampNeg a2).1 38 3).toNatClampNeg a3).1 38 3) + (1 : Int32))).1 38 3))) (zsi (zsi (zsi (zsi h 39 (h.1 38 3).toNatClampNeg a1) 40 ((zsi h 39 (h.1 38 3).toNatClampNeg a1).1 38 3).toNatClampNeg a2) 41 ((zsi (zsi h 39 (h.1 38 3).toNatClampNeg a1) 40 ((zsi h 39 (h.1 38 3).toNatClampNeg a1).1 38 3).toNatClampNeg a2).1 38 3).toNatClampNeg a3) 38 3 (((zsi (zsi (zsi h 39 (h.1 38 3).toNatClampNeg a1) 40 ((zsi h 39 (h.1 38 3).toNatClampNeg a1).1 38 3).toNatClampNeg a2) 41 ((zsi (zsi h 39 (h.1 38 3).toNatClampNeg a1) 40 ((zsi h 39 (h.1 38 3).toNatClampNeg a1).1 38 3).toNatClampNeg a2).1 38 3).toNatClampNeg a3).1 38 3) + (1 : Int32)))) ∧ (¬ ((h.1 38 3) < (60 : Int32)) → post (some (.int (-3 : Int32))) h)) : zG M_X1_addDay post (M_X1_addDay.1) [some (.ref 38), some (.int a1), some (.int a2), some (.int a3)] [] h := zsg_sound (cuts := []) 32 t
theorem r_X1_addDay (a1 : Int32) (a2 : Int32) (a3 : Int32) (h : zH) (o : Option Value) (h' : zH) (ho : ∃ v, o = some (.int v)) (t : zG M_X1_addDay (fun r1 h1 => r1 = o ∧ h1 = h') M_X1_addDay.1 [some (.ref 38), some (.int a1), some (.int a2), some (.int a3)] [] h) : R_X1_addDay [.ref 38, .int a1, .int a2, .int a3] h o h' := ⟨rfl, ho, t⟩
theorem t_X1_daysWith_0 (a1 : Int32) (a2 : Int32) (a3 : Int32) (a4 : Int32) (h : zH) (post : Option Value → zH → Prop) (t : zG M_X1_daysWith post (zat M_X1_daysWith 6) [some (.ref 38), some (.int a1), some (.int a2), some (.int a3), some (.int a4), some (.int (0 : Int32)), some (.int (0 : Int32))] [] h) : zG M_X1_daysWith post (M_X1_daysWith.1) [some (.ref 38), some (.int a1), some (.int a2), some (.int a3), some (.int a4), none, none] [] h := zsg_sound (cuts := [(6, [true, true, true, true, true, true, true])]) 6 t
theorem r_X1_daysWith (a1 : Int32) (a2 : Int32) (a3 : Int32) (a4 : Int32) (h : zH) (o : Option Value) (h' : zH) (ho : ∃ v, o = some (.int v)) (t : zG M_X1_daysWith (fun r1 h1 => r1 = o ∧ h1 = h') M_X1_daysWith.1 [some (.ref 38), some (.int a1), some (.int a2), some (.int a3), some (.int a4), none, none] [] h) : R_X1_daysWith [.ref 38, .int a1, .int a2, .int a3, .int a4] h o h' := ⟨rfl, ho, t⟩
theorem t_X1_daysWith_6 (x1 : Int32) (x2 : Int32) (x3 : Int32) (x4 : Int32) (x5 : Int32) (x6 : Int32) (h : zH) (post : Option Value → zH → Prop) (t : ((h.1 38 3) ≤ x6 → post (some (.int x5)) h) ∧ (¬ ((h.1 38 3) ≤ x6) → vp_in x6 60 ∧ ((h.1 39 x6.toNatClampNeg) < x2 → zG M_X1_daysWith post (zat M_X1_daysWith 6) [some (.ref 38), some (.int x1), some (.int x2), some (.int x3), some (.int x4), some (.int x5), some (.int (x6 + (1 : Int32)))] [] h) ∧ (¬ ((h.1 39 x6.toNatClampNeg) < x2) → vp_in x6 60 ∧ (x3 < (h.1 39 x6.toNatClampNeg) → zG M_X1_daysWith post (zat M_X1_daysWith 6) [some (.ref 38), some (.int x1), some (.int x2), some (.int x3), some (.int x4), some (.int x5), some (.int (x6 + (1 : Int32)))] [] h) ∧ (¬ (x3 < (h.1 39 x6.toNatClampNeg)) → (x4 = (-1 : Int32) → vp_in x6 60 ∧ (¬ ((h.1 41 x6.toNatClampNeg) &&& x1) = x1 → zG M_X1_daysWith post (zat M_X1_daysWith 6) [some (.ref 38), some (.int x1), some (.int x2), some (.int x3), some (.int x4), some (.int x5), some (.int (x6 + (1 : Int32)))] [] h) ∧ (¬ ¬ ((h.1 41 x6.toNatClampNeg) &&& x1) = x1 → zG M_X1_daysWith post (zat M_X1_daysWith 6) [some (.ref 38), some (.int x1), some (.int x2), some (.int x3), some (.int x4), some (.int (x5 + (1 : Int32))), some (.int (x6 + (1 : Int32)))] [] h)) ∧ (¬ (x4 = (-1 : Int32)) → vp_in x6 60 ∧ (¬ (h.1 40 x6.toNatClampNeg) = x4 → zG M_X1_daysWith post (zat M_X1_daysWith 6) [some (.ref 38), some (.int x1), some (.int x2), some (.int x3), some (.int x4), some (.int x5), some (.int (x6 + (1 : Int32)))] [] h) ∧ (¬ ¬ (h.1 40 x6.toNatClampNeg) = x4 → vp_in x6 60 ∧ (¬ ((h.1 41 x6.toNatClampNeg) &&& x1) = x1 → zG M_X1_daysWith post (zat M_X1_daysWith 6) [some (.ref 38), some (.int x1), some (.int x2), some (.int x3), some (.int x4), some (.int x5), some (.int (x6 + (1 : Int32)))] [] h) ∧ (¬ ¬ ((h.1 41 x6.toNatClampNeg) &&& x1) = x1 → zG M_X1_daysWith post (zat M_X1_daysWith 6) [some (.ref 38), some (.int x1), some (.int x2), some (.int x3), some (.int x4), some (.int (x5 + (1 : Int32))), some (.int (x6 + (1 : Int32)))] [] h))))))) : zG M_X1_daysWith post (zat M_X1_daysWith 6) [some (.ref 38), some (.int x1), some (.int x2), some (.int x3), some (.int x4), some (.int x5), some (.int x6)] [] h := zsg_sound (cuts := [(6, [true, true, true, true, true, true, true])]) 38 t
theorem t_X1_causesSeen_0  (h : zH) (post : Option Value → zH → Prop) (t : zG M_X1_causesSeen post (zat M_X1_causesSeen 4) [some (.ref 38), some (.int (0 : Int32)), some (.int (0 : Int32))] [] h) : zG M_X1_causesSeen post (M_X1_causesSeen.1) [some (.ref 38), none, none] [] h := zsg_sound (cuts := [(4, [true, true, true])]) 6 t
theorem r_X1_causesSeen  (h : zH) (o : Option Value) (h' : zH) (ho : ∃ v, o = some (.int v)) (t : zG M_X1_causesSeen (fun r1 h1 => r1 = o ∧ h1 = h') M_X1_causesSeen.1 [some (.ref 38), none, none] [] h) : R_X1_causesSeen [.ref 38] h o h' := ⟨rfl, ho, t⟩
theorem t_X1_causesSeen_4 (x1 : Int32) (x2 : Int32) (h : zH) (post : Option Value → zH → Prop) (t : ((h.1 38 3) ≤ x2 → post (some (.int x1)) h) ∧ (¬ ((h.1 38 3) ≤ x2) → vp_in x2 60 ∧ zG M_X1_causesSeen post (zat M_X1_causesSeen 4) [some (.ref 38), some (.int (x1 ||| (h.1 41 x2.toNatClampNeg))), some (.int (x2 + (1 : Int32)))] [] h)) : zG M_X1_causesSeen post (zat M_X1_causesSeen 4) [some (.ref 38), some (.int x1), some (.int x2)] [] h := zsg_sound (cuts := [(4, [true, true, true])]) 15 t
theorem t_X2_addMark_0 (a1 : Int32) (a2 : Int32) (a3 : Int32) (a4 : Int32) (h : zH) (post : Option Value → zH → Prop) (t : ((h.1 32 2) < (12 : Int32) → vp_in (((h.1 32 2) * (4 : Int32)) + (0 : Int32)) 48 ∧ vp_in ((((zsi h 33 (((h.1 32 2) * (4 : Int32)) + (0 : Int32)).toNatClampNeg a1).1 32 2) * (4 : Int32)) + (1 : Int32)) 48 ∧ vp_in ((((zsi (zsi h 33 (((h.1 32 2) * (4 : Int32)) + (0 : Int32)).toNatClampNeg a1) 33 ((((zsi h 33 (((h.1 32 2) * (4 : Int32)) + (0 : Int32)).toNatClampNeg a1).1 32 2) * (4 : Int32)) + (1 : Int32)).toNatClampNeg a2).1 32 2) * (4 : Int32)) + (2 : Int32)) 48 ∧ vp_in ((((zsi (zsi (zsi h 33 (((h.1 32 2) * (4 : Int32)) + (0 : Int32)).toNatClampNeg a1) 33 ((((zsi h 33 (((h.1 32 2) * (4 : Int32)) + (0 : Int32)).toNatClampNeg a1).1 32 2) * (4 : Int32)) + (1 : Int32)).toNatClampNeg a2) 33 ((((zsi (zsi h 33 (((h.1 32 2) * (4 : Int32)) + (0 : Int32)).toNatClampNeg a1) 33 ((((zsi h 33 (((h.1 32 2) * (4 : Int32)) + (0 : Int32)).toNatClampNeg a1).1 32 2) * (4 : Int32)) + (1 : Int32)).toNatClampNeg a2).1 32 2) * (4 : Int32)) + (2 : Int32)).toNatClampNeg a3).1 32 2) * (4 : Int32)) + (3 : Int32)) 48 ∧ post (some (.int ((zsi (zsi (zsi (zsi (zsi h 33 (((h.1 32 2) * (4 : Int32)) + (0 : Int32)).toNatClampNeg a1) 33 ((((zsi h 33 (((h.1 32 2) * (4 : Int32)) + (0 : Int32)).toNatClampNeg a1).1 32 2) * (4 : Int32)) + (1 : Int32)).toNatClampNeg a2) 33 ((((zsi (zsi h 33 (((h.1 32 2) * (4 : Int32)) + (0 : Int32)).toNatClampNeg a1) 33 ((((zsi h 33 (((h.1 32 2) * (4 : Int32)) + (0 : Int32)).toNatClampNeg a1).1 32 2) * (4 : Int32)) + (1 : Int32)).toNatClampNeg a2).1 32 2) * (4 : Int32)) + (2 : Int32)).toNatClampNeg a3) 33 ((((zsi (zsi (zsi h 33 (((h.1 32 2) * (4 : Int32)) + (0 : Int32)).toNatClampNeg a1) 33 ((((zsi h 33 (((h.1 32 2) * (4 : Int32)) + (0 : Int32)).toNatClampNeg a1).1 32 2) * (4 : Int32)) + (1 : Int32)).toNatClampNeg a2) 33 ((((zsi (zsi h 33 (((h.1 32 2) * (4 : Int32)) + (0 : Int32)).toNatClampNeg a1) 33 ((((zsi h 33 (((h.1 32 2) * (4 : Int32)) + (0 : Int32)).toNatClampNeg a1).1 32 2) * (4 : Int32)) + (1 : Int32)).toNatClampNeg a2).1 32 2) * (4 : Int32)) + (2 : Int32)).toNatClampNeg a3).1 32 2) * (4 : Int32)) + (3 : Int32)).toNatClampNeg a4) 32 2 (((zsi (zsi (zsi (zsi h 33 (((h.1 32 2) * (4 : Int32)) + (0 : Int32)).toNatClampNeg a1) 33 ((((zsi h 33 (((h.1 32 2) * (4 : Int32)) + (0 : Int32)).toNatClampNeg a1).1 32 2) * (4 : Int32)) + (1 : Int32)).toNatClampNeg a2) 33 ((((zsi (zsi h 33 (((h.1 32 2) * (4 : Int32)) + (0 : Int32)).toNatClampNeg a1) 33 ((((zsi h 33 (((h.1 32 2) * (4 : Int32)) + (0 : Int32)).toNatClampNeg a1).1 32 2) * (4 : Int32)) + (1 : Int32)).toNatClampNeg a2).1 32 2) * (4 : Int32)) + (2 : Int32)).toNatClampNeg a3) 33 ((((zsi (zsi (zsi h 33 (((h.1 32 2) * (4 : Int32)) + (0 : Int32)).toNatClampNeg a1) 33 ((((zsi h 33 (((h.1 32 2) * (4 : Int32)) + (0 : Int32)).toNatClampNeg a1).1 32 2) * (4 : Int32)) + (1 : Int32)).toNatClampNeg a2) 33 ((((zsi (zsi h 33 (((h.1 32 2) * (4 : Int32)) + (0 : Int32)).toNatClampNeg a1) 33 ((((zsi h 33 (((h.1 32 2) * (4 : Int32)) + (0 : Int32)).toNatClampNeg a1).1 32 2) * (4 : Int32)) + (1 : Int32)).toNatClampNeg a2).1 32 2) * (4 : Int32)) + (2 : Int32)).toNatClampNeg a3).1 32 2) * (4 : Int32)) + (3 : Int32)).toNatClampNeg a4).1 32 2) + (1 : Int32))).1 32 2))) (zsi (zsi (zsi (zsi (zsi h 33 (((h.1 32 2) * (4 : Int32)) + (0 : Int32)).toNatClampNeg a1) 33 ((((zsi h 33 (((h.1 32 2) * (4 : Int32)) + (0 : Int32)).toNatClampNeg a1).1 32 2) * (4 : Int32)) + (1 : Int32)).toNatClampNeg a2) 33 ((((zsi (zsi h 33 (((h.1 32 2) * (4 : Int32)) + (0 : Int32)).toNatClampNeg a1) 33 ((((zsi h 33 (((h.1 32 2) * (4 : Int32)) + (0 : Int32)).toNatClampNeg a1).1 32 2) * (4 : Int32)) + (1 : Int32)).toNatClampNeg a2).1 32 2) * (4 : Int32)) + (2 : Int32)).toNatClampNeg a3) 33 ((((zsi (zsi (zsi h 33 (((h.1 32 2) * (4 : Int32)) + (0 : Int32)).toNatClampNeg a1) 33 ((((zsi h 33 (((h.1 32 2) * (4 : Int32)) + (0 : Int32)).toNatClampNeg a1).1 32 2) * (4 : Int32)) + (1 : Int32)).toNatClampNeg a2) 33 ((((zsi (zsi h 33 (((h.1 32 2) * (4 : Int32)) + (0 : Int32)).toNatClampNeg a1) 33 ((((zsi h 33 (((h.1 32 2) * (4 : Int32)) + (0 : Int32)).toNatClampNeg a1).1 32 2) * (4 : Int32)) + (1 : Int32)).toNatClampNeg a2).1 32 2) * (4 : Int32)) + (2 : Int32)).toNatClampNeg a3).1 32 2) * (4 : Int32)) + (3 : Int32)).toNatClampNeg a4) 32 2 (((zsi (zsi (zsi (zsi h 33 (((h.1 32 2) * (4 : Int32)) + (0 : Int32)).toNatClampNeg a1) 33 ((((zsi h 33 (((h.1 32 2) * (4 : Int32)) + (0 : Int32)).toNatClampNeg a1).1 32 2) * (4 : Int32)) + (1 : Int32)).toNatClampNeg a2) 33 ((((zsi (zsi h 33 (((h.1 32 2) * (4 : Int32)) + (0 : Int32)).toNatClampNeg a1) 33 ((((zsi h 33 (((h.1 32 2) * (4 : Int32)) + (0 : Int32)).toNatClampNeg a1).1 32 2) * (4 : Int32)) + (1 : Int32)).toNatClampNeg a2).1 32 2) * (4 : Int32)) + (2 : Int32)).toNatClampNeg a3) 33 ((((zsi (zsi (zsi h 33 (((h.1 32 2) * (4 : Int32)) + (0 : Int32)).toNatClampNeg a1) 33 ((((zsi h 33 (((h.1 32 2) * (4 : Int32)) + (0 : Int32)).toNatClampNeg a1).1 32 2) * (4 : Int32)) + (1 : Int32)).toNatClampNeg a2) 33 ((((zsi (zsi h 33 (((h.1 32 2) * (4 : Int32)) + (0 : Int32)).toNatClampNeg a1) 33 ((((zsi h 33 (((h.1 32 2) * (4 : Int32)) + (0 : Int32)).toNatClampNeg a1).1 32 2) * (4 : Int32)) + (1 : Int32)).toNatClampNeg a2).1 32 2) * (4 : Int32)) + (2 : Int32)).toNatClampNeg a3).1 32 2) * (4 : Int32)) + (3 : Int32)).toNatClampNeg a4).1 32 2) + (1 : Int32)))) ∧ (¬ ((h.1 32 2) < (12 : Int32)) → post (some (.int (-3 : Int32))) h)) : zG M_X2_addMark post (M_X2_addMark.1) [some (.ref 32), some (.int a1), some (.int a2), some (.int a3), some (.int a4)] [] h := zsg_sound (cuts := []) 54 t
theorem r_X2_addMark (a1 : Int32) (a2 : Int32) (a3 : Int32) (a4 : Int32) (h : zH) (o : Option Value) (h' : zH) (ho : ∃ v, o = some (.int v)) (t : zG M_X2_addMark (fun r1 h1 => r1 = o ∧ h1 = h') M_X2_addMark.1 [some (.ref 32), some (.int a1), some (.int a2), some (.int a3), some (.int a4)] [] h) : R_X2_addMark [.ref 32, .int a1, .int a2, .int a3, .int a4] h o h' := ⟨rfl, ho, t⟩
theorem t_X2_allMarks_0  (h : zH) (post : Option Value → zH → Prop) (t : post (some (.int (((1 : Int32) <<< ((h.1 32 2) &&& 31)) - (1 : Int32)))) h) : zG M_X2_allMarks post (M_X2_allMarks.1) [some (.ref 32)] [] h := zsg_sound (cuts := []) 8 t
theorem r_X2_allMarks  (h : zH) (o : Option Value) (h' : zH) (ho : ∃ v, o = some (.int v)) (t : zG M_X2_allMarks (fun r1 h1 => r1 = o ∧ h1 = h') M_X2_allMarks.1 [some (.ref 32)] [] h) : R_X2_allMarks [.ref 32] h o h' := ⟨rfl, ho, t⟩
theorem t_X2_meets_0 (a1 : Int32) (a2 : Int32) (h : zH) (post : Option Value → zH → Prop) (t : vp_in ((a2 * (4 : Int32)) + (0 : Int32)) 48 ∧ vp_in ((a2 * (4 : Int32)) + (1 : Int32)) 48 ∧ ((h.1 33 ((a2 * (4 : Int32)) + (0 : Int32)).toNatClampNeg) = (-1 : Int32) → ((h.1 33 ((a2 * (4 : Int32)) + (1 : Int32)).toNatClampNeg) = (-1 : Int32) → vp_in ((a2 * (4 : Int32)) + (2 : Int32)) 48 ∧ vp_in ((a2 * (4 : Int32)) + (3 : Int32)) 48 ∧ ∃ (v1 : Int32) (h1 : zH), R_X5_isNear [.ref 30, .int a1, .int (h.1 33 ((a2 * (4 : Int32)) + (2 : Int32)).toNatClampNeg), .int (h.1 33 ((a2 * (4 : Int32)) + (3 : Int32)).toNatClampNeg)] h (some (.int v1)) h1 ∧ (v1 = 0 → post (some (.int (0 : Int32))) h1) ∧ (¬ (v1 = 0) → post (some (.int (1 : Int32))) h1)) ∧ (¬ ((h.1 33 ((a2 * (4 : Int32)) + (1 : Int32)).toNatClampNeg) = (-1 : Int32)) → ∃ (v1 : Int32) (h1 : zH), R_X5_part [.ref 30, .int a1, .int (1 : Int32)] h (some (.int v1)) h1 ∧ (¬ (h.1 33 ((a2 * (4 : Int32)) + (1 : Int32)).toNatClampNeg) = v1 → post (some (.int (0 : Int32))) h1) ∧ (¬ ¬ (h.1 33 ((a2 * (4 : Int32)) + (1 : Int32)).toNatClampNeg) = v1 → vp_in ((a2 * (4 : Int32)) + (2 : Int32)) 48 ∧ vp_in ((a2 * (4 : Int32)) + (3 : Int32)) 48 ∧ ∃ (v2 : Int32) (h2 : zH), R_X5_isNear [.ref 30, .int a1, .int (h1.1 33 ((a2 * (4 : Int32)) + (2 : Int32)).toNatClampNeg), .int (h1.1 33 ((a2 * (4 : Int32)) + (3 : Int32)).toNatClampNeg)] h1 (some (.int v2)) h2 ∧ (v2 = 0 → post (some (.int (0 : Int32))) h2) ∧ (¬ (v2 = 0) → post (some (.int (1 : Int32))) h2)))) ∧ (¬ ((h.1 33 ((a2 * (4 : Int32)) + (0 : Int32)).toNatClampNeg) = (-1 : Int32)) → ∃ (v1 : Int32) (h1 : zH), R_X5_part [.ref 30, .int a1, .int (0 : Int32)] h (some (.int v1)) h1 ∧ (¬ (h.1 33 ((a2 * (4 : Int32)) + (0 : Int32)).toNatClampNeg) = v1 → post (some (.int (0 : Int32))) h1) ∧ (¬ ¬ (h.1 33 ((a2 * (4 : Int32)) + (0 : Int32)).toNatClampNeg) = v1 → ((h.1 33 ((a2 * (4 : Int32)) + (1 : Int32)).toNatClampNeg) = (-1 : Int32) → vp_in ((a2 * (4 : Int32)) + (2 : Int32)) 48 ∧ vp_in ((a2 * (4 : Int32)) + (3 : Int32)) 48 ∧ ∃ (v2 : Int32) (h2 : zH), R_X5_isNear [.ref 30, .int a1, .int (h1.1 33 ((a2 * (4 : Int32)) + (2 : Int32)).toNatClampNeg), .int (h1.1 33 ((a2 * (4 : Int32)) + (3 : Int32)).toNatClampNeg)] h1 (some (.int v2)) h2 ∧ (v2 = 0 → post (some (.int (0 : Int32))) h2) ∧ (¬ (v2 = 0) → post (some (.int (1 : Int32))) h2)) ∧ (¬ ((h.1 33 ((a2 * (4 : Int32)) + (1 : Int32)).toNatClampNeg) = (-1 : Int32)) → ∃ (v2 : Int32) (h2 : zH), R_X5_part [.ref 30, .int a1, .int (1 : Int32)] h1 (some (.int v2)) h2 ∧ (¬ (h.1 33 ((a2 * (4 : Int32)) + (1 : Int32)).toNatClampNeg) = v2 → post (some (.int (0 : Int32))) h2) ∧ (¬ ¬ (h.1 33 ((a2 * (4 : Int32)) + (1 : Int32)).toNatClampNeg) = v2 → vp_in ((a2 * (4 : Int32)) + (2 : Int32)) 48 ∧ vp_in ((a2 * (4 : Int32)) + (3 : Int32)) 48 ∧ ∃ (v3 : Int32) (h3 : zH), R_X5_isNear [.ref 30, .int a1, .int (h2.1 33 ((a2 * (4 : Int32)) + (2 : Int32)).toNatClampNeg), .int (h2.1 33 ((a2 * (4 : Int32)) + (3 : Int32)).toNatClampNeg)] h2 (some (.int v3)) h3 ∧ (v3 = 0 → post (some (.int (0 : Int32))) h3) ∧ (¬ (v3 = 0) → post (some (.int (1 : Int32))) h3)))))) : zG M_X2_meets post (M_X2_meets.1) [some (.ref 32), some (.int a1), some (.int a2), none, none] [] h := zsg_sound (cuts := []) 66 t
theorem r_X2_meets (a1 : Int32) (a2 : Int32) (h : zH) (o : Option Value) (h' : zH) (ho : o = some (.int 0) ∨ o = some (.int 1)) (t : zG M_X2_meets (fun r1 h1 => r1 = o ∧ h1 = h') M_X2_meets.1 [some (.ref 32), some (.int a1), some (.int a2), none, none] [] h) : R_X2_meets [.ref 32, .int a1, .int a2] h o h' := ⟨rfl, ho, t⟩
theorem t_X2_meetsAny_0 (a1 : Int32) (h : zH) (post : Option Value → zH → Prop) (t : zG M_X2_meetsAny post (zat M_X2_meetsAny 2) [some (.ref 32), some (.int a1), some (.int (0 : Int32))] [] h) : zG M_X2_meetsAny post (M_X2_meetsAny.1) [some (.ref 32), some (.int a1), none] [] h := zsg_sound (cuts := [(2, [true, true, true])]) 4 t
theorem r_X2_meetsAny (a1 : Int32) (h : zH) (o : Option Value) (h' : zH) (ho : o = some (.int 0) ∨ o = some (.int 1)) (t : zG M_X2_meetsAny (fun r1 h1 => r1 = o ∧ h1 = h') M_X2_meetsAny.1 [some (.ref 32), some (.int a1), none] [] h) : R_X2_meetsAny [.ref 32, .int a1] h o h' := ⟨rfl, ho, t⟩
theorem t_X2_meetsAny_2 (x1 : Int32) (x2 : Int32) (h : zH) (post : Option Value → zH → Prop) (t : ((h.1 32 2) ≤ x2 → post (some (.int (0 : Int32))) h) ∧ (¬ ((h.1 32 2) ≤ x2) → ∃ (v1 : Int32) (h1 : zH), R_X2_meets [.ref 32, .int x1, .int x2] h (some (.int v1)) h1 ∧ (v1 = 0 → zG M_X2_meetsAny post (zat M_X2_meetsAny 2) [some (.ref 32), some (.int x1), some (.int (x2 + (1 : Int32)))] [] h1) ∧ (¬ (v1 = 0) → post (some (.int (1 : Int32))) h1))) : zG M_X2_meetsAny post (zat M_X2_meetsAny 2) [some (.ref 32), some (.int x1), some (.int x2)] [] h := zsg_sound (cuts := [(2, [true, true, true])]) 13 t
theorem t_X2_marksMet_0 (a1 : Int32) (a2 : Int32) (a3 : Int32) (h : zH) (post : Option Value → zH → Prop) (t : ∃ h1 : zH, R_X4_lightUp [.ref 29, .int a1, .int a2] h none h1 ∧ zG M_X2_marksMet post (zat M_X2_marksMet 15) [some (.ref 32), some (.int a1), some (.int a2), some (.int a3), some (.int (0 : Int32)), some (.int (0 : Int32)), none] [] h1) : zG M_X2_marksMet post (M_X2_marksMet.1) [some (.ref 32), some (.int a1), some (.int a2), some (.int a3), none, none, none] [] h := zsg_sound (cuts := [(15, [true, true, true, true, true, true, false]), (33, [true, true, true, true, true, true, true])]) 11 t
theorem r_X2_marksMet (a1 : Int32) (a2 : Int32) (a3 : Int32) (h : zH) (o : Option Value) (h' : zH) (ho : ∃ v, o = some (.int v)) (t : zG M_X2_marksMet (fun r1 h1 => r1 = o ∧ h1 = h') M_X2_marksMet.1 [some (.ref 32), some (.int a1), some (.int a2), some (.int a3), none, none, none] [] h) : R_X2_marksMet [.ref 32, .int a1, .int a2, .int a3] h o h' := ⟨rfl, ho, t⟩
theorem t_X2_marksMet_15 (x1 : Int32) (x2 : Int32) (x3 : Int32) (x4 : Int32) (x5 : Int32) (h : zH) (post : Option Value → zH → Prop) (t : ((h.1 30 1) ≤ x5 → post (some (.int x4)) h) ∧ (¬ ((h.1 30 1) ≤ x5) → zG M_X2_marksMet post (zat M_X2_marksMet 33) [some (.ref 32), some (.int x1), some (.int x2), some (.int x3), some (.int x4), some (.int x5), some (.int (0 : Int32))] [] h)) : zG M_X2_marksMet post (zat M_X2_marksMet 15) [some (.ref 32), some (.int x1), some (.int x2), some (.int x3), some (.int x4), some (.int x5), none] [] h := zsg_sound (cuts := [(15, [true, true, true, true, true, true, false]), (33, [true, true, true, true, true, true, true])]) 10 t
theorem t_X2_marksMet_33 (x1 : Int32) (x2 : Int32) (x3 : Int32) (x4 : Int32) (x5 : Int32) (x6 : Int32) (h : zH) (post : Option Value → zH → Prop) (t : ((h.1 32 2) ≤ x6 → zG M_X2_marksMet post (zat M_X2_marksMet 15) [some (.ref 32), some (.int x1), some (.int x2), some (.int x3), some (.int x4), some (.int (x5 + (1 : Int32))), none] [] h) ∧ (¬ ((h.1 32 2) ≤ x6) → (¬ ((x3 >>> (x6 &&& 31)) &&& (1 : Int32)) = (1 : Int32) → zG M_X2_marksMet post (zat M_X2_marksMet 33) [some (.ref 32), some (.int x1), some (.int x2), some (.int x3), some (.int x4), some (.int x5), some (.int (x6 + (1 : Int32)))] [] h) ∧ (¬ ¬ ((x3 >>> (x6 &&& 31)) &&& (1 : Int32)) = (1 : Int32) → ∃ (v1 : Int32) (h1 : zH), R_X2_meets [.ref 32, .int x5, .int x6] h (some (.int v1)) h1 ∧ (v1 = 0 → zG M_X2_marksMet post (zat M_X2_marksMet 33) [some (.ref 32), some (.int x1), some (.int x2), some (.int x3), some (.int x4), some (.int x5), some (.int (x6 + (1 : Int32)))] [] h1) ∧ (¬ (v1 = 0) → zG M_X2_marksMet post (zat M_X2_marksMet 33) [some (.ref 32), some (.int x1), some (.int x2), some (.int x3), some (.int (x4 ||| ((1 : Int32) <<< (x6 &&& 31)))), some (.int x5), some (.int (x6 + (1 : Int32)))] [] h1)))) : zG M_X2_marksMet post (zat M_X2_marksMet 33) [some (.ref 32), some (.int x1), some (.int x2), some (.int x3), some (.int x4), some (.int x5), some (.int x6)] [] h := zsg_sound (cuts := [(15, [true, true, true, true, true, true, false]), (33, [true, true, true, true, true, true, true])]) 26 t
theorem t_X2_marksLeft_0 (a1 : Int32) (a2 : Int32) (a3 : Int32) (h : zH) (post : Option Value → zH → Prop) (t : zG M_X2_marksLeft post (zat M_X2_marksLeft 6) [some (.ref 32), some (.int a1), some (.int a2), some (.int a3), some (.int a3), some (.int (0 : Int32))] [] h) : zG M_X2_marksLeft post (M_X2_marksLeft.1) [some (.ref 32), some (.int a1), some (.int a2), some (.int a3), none, none] [] h := zsg_sound (cuts := [(6, [true, true, true, true, true, true])]) 6 t
theorem r_X2_marksLeft (a1 : Int32) (a2 : Int32) (a3 : Int32) (h : zH) (o : Option Value) (h' : zH) (ho : ∃ v, o = some (.int v)) (t : zG M_X2_marksLeft (fun r1 h1 => r1 = o ∧ h1 = h') M_X2_marksLeft.1 [some (.ref 32), some (.int a1), some (.int a2), some (.int a3), none, none] [] h) : R_X2_marksLeft [.ref 32, .int a1, .int a2, .int a3] h o h' := ⟨rfl, ho, t⟩
theorem t_X2_marksLeft_6 (x1 : Int32) (x2 : Int32) (x3 : Int32) (x4 : Int32) (x5 : Int32) (h : zH) (post : Option Value → zH → Prop) (t : ((16 : Int32) ≤ x5 → post (some (.int x4)) h) ∧ (¬ ((16 : Int32) ≤ x5) → (x4 = 0 → post (some (.int x4)) h) ∧ (¬ (x4 = 0) → (¬ ((x1 >>> (x5 &&& 31)) &&& (1 : Int32)) = (1 : Int32) → zG M_X2_marksLeft post (zat M_X2_marksLeft 6) [some (.ref 32), some (.int x1), some (.int x2), some (.int x3), some (.int x4), some (.int (x5 + (1 : Int32)))] [] h) ∧ (¬ ¬ ((x1 >>> (x5 &&& 31)) &&& (1 : Int32)) = (1 : Int32) → ∃ (v1 : Int32) (h1 : zH), R_X2_marksMet [.ref 32, .int x5, .int x2, .int x4] h (some (.int v1)) h1 ∧ zG M_X2_marksLeft post (zat M_X2_marksLeft 6) [some (.ref 32), some (.int x1), some (.int x2), some (.int x3), some (.int (x4 &&& (v1 ^^^ (-1 : Int32)))), some (.int (x5 + (1 : Int32)))] [] h1)))) : zG M_X2_marksLeft post (zat M_X2_marksLeft 6) [some (.ref 32), some (.int x1), some (.int x2), some (.int x3), some (.int x4), some (.int x5)] [] h := zsg_sound (cuts := [(6, [true, true, true, true, true, true])]) 26 t
theorem t_X2_isExplained_0 (a1 : Int32) (a2 : Int32) (h : zH) (post : Option Value → zH → Prop) (t : ∃ (v1 : Int32) (h1 : zH), R_X2_allMarks [.ref 32] h (some (.int v1)) h1 ∧ ∃ (v2 : Int32) (h2 : zH), R_X2_marksLeft [.ref 32, .int a1, .int a2, .int v1] h1 (some (.int v2)) h2 ∧ (¬ v2 = 0 → post (some (.int (0 : Int32))) h2) ∧ (¬ ¬ v2 = 0 → post (some (.int (1 : Int32))) h2)) : zG M_X2_isExplained post (M_X2_isExplained.1) [some (.ref 32), some (.int a1), some (.int a2)] [] h := zsg_sound (cuts := []) 11 t
theorem r_X2_isExplained (a1 : Int32) (a2 : Int32) (h : zH) (o : Option Value) (h' : zH) (ho : o = some (.int 0) ∨ o = some (.int 1)) (t : zG M_X2_isExplained (fun r1 h1 => r1 = o ∧ h1 = h') M_X2_isExplained.1 [some (.ref 32), some (.int a1), some (.int a2)] [] h) : R_X2_isExplained [.ref 32, .int a1, .int a2] h o h' := ⟨rfl, ho, t⟩
theorem t_X2_marksNeverMet_0  (h : zH) (post : Option Value → zH → Prop) (t : ∃ (v1 : Int32) (h1 : zH), R_X2_allMarks [.ref 32] h (some (.int v1)) h1 ∧ zG M_X2_marksNeverMet post (zat M_X2_marksNeverMet 7) [some (.ref 32), some (.int v1), some (.int (0 : Int32))] [] h1) : zG M_X2_marksNeverMet post (M_X2_marksNeverMet.1) [some (.ref 32), none, none] [] h := zsg_sound (cuts := [(7, [true, true, true])]) 7 t
theorem r_X2_marksNeverMet  (h : zH) (o : Option Value) (h' : zH) (ho : ∃ v, o = some (.int v)) (t : zG M_X2_marksNeverMet (fun r1 h1 => r1 = o ∧ h1 = h') M_X2_marksNeverMet.1 [some (.ref 32), none, none] [] h) : R_X2_marksNeverMet [.ref 32] h o h' := ⟨rfl, ho, t⟩
theorem t_X2_marksNeverMet_7 (x1 : Int32) (x2 : Int32) (h : zH) (post : Option Value → zH → Prop) (t : ((900 : Int32) < x2 → post (some (.int x1)) h) ∧ (¬ ((900 : Int32) < x2) → (x1 = 0 → post (some (.int x1)) h) ∧ (¬ (x1 = 0) → ∃ (v1 : Int32) (h1 : zH), R_X2_marksLeft [.ref 32, .int (65535 : Int32), .int x2, .int x1] h (some (.int v1)) h1 ∧ zG M_X2_marksNeverMet post (zat M_X2_marksNeverMet 7) [some (.ref 32), some (.int v1), some (.int (x2 + (50 : Int32)))] [] h1))) : zG M_X2_marksNeverMet post (zat M_X2_marksNeverMet 7) [some (.ref 32), some (.int x1), some (.int x2)] [] h := zsg_sound (cuts := [(7, [true, true, true])]) 15 t
theorem t_X2_unseen_0 (a1 : Int32) (a2 : Int32) (h : zH) (post : Option Value → zH → Prop) (t : zG M_X2_unseen post (zat M_X2_unseen 5) [some (.ref 32), some (.int a1), some (.int a2), some (.int (0 : Int32)), some (.int (0 : Int32)), none] [] h) : zG M_X2_unseen post (M_X2_unseen.1) [some (.ref 32), some (.int a1), some (.int a2), none, none, none] [] h := zsg_sound (cuts := [(5, [true, true, true, true, true, false]), (35, [true, true, true, true, true, true])]) 6 t
theorem r_X2_unseen (a1 : Int32) (a2 : Int32) (h : zH) (o : Option Value) (h' : zH) (ho : ∃ v, o = some (.int v)) (t : zG M_X2_unseen (fun r1 h1 => r1 = o ∧ h1 = h') M_X2_unseen.1 [some (.ref 32), some (.int a1), some (.int a2), none, none, none] [] h) : R_X2_unseen [.ref 32, .int a1, .int a2] h o h' := ⟨rfl, ho, t⟩
theorem t_X2_unseen_5 (x1 : Int32) (x2 : Int32) (x3 : Int32) (x4 : Int32) (h : zH) (post : Option Value → zH → Prop) (t : ((16 : Int32) ≤ x4 → post (some (.int x3)) h) ∧ (¬ ((16 : Int32) ≤ x4) → (¬ ((x1 >>> (x4 &&& 31)) &&& (1 : Int32)) = (1 : Int32) → zG M_X2_unseen post (zat M_X2_unseen 5) [some (.ref 32), some (.int x1), some (.int x2), some (.int x3), some (.int (x4 + (1 : Int32))), none] [] h) ∧ (¬ ¬ ((x1 >>> (x4 &&& 31)) &&& (1 : Int32)) = (1 : Int32) → ∃ h1 : zH, R_X4_lightUp [.ref 29, .int x4, .int x2] h none h1 ∧ zG M_X2_unseen post (zat M_X2_unseen 35) [some (.ref 32), some (.int x1), some (.int x2), some (.int x3), some (.int x4), some (.int (0 : Int32))] [] h1))) : zG M_X2_unseen post (zat M_X2_unseen 5) [some (.ref 32), some (.int x1), some (.int x2), some (.int x3), some (.int x4), none] [] h := zsg_sound (cuts := [(5, [true, true, true, true, true, false]), (35, [true, true, true, true, true, true])]) 19 t
theorem t_X2_unseen_35 (x1 : Int32) (x2 : Int32) (x3 : Int32) (x4 : Int32) (x5 : Int32) (h : zH) (post : Option Value → zH → Prop) (t : ((h.1 30 1) ≤ x5 → zG M_X2_unseen post (zat M_X2_unseen 5) [some (.ref 32), some (.int x1), some (.int x2), some (.int x3), some (.int (x4 + (1 : Int32))), none] [] h) ∧ (¬ ((h.1 30 1) ≤ x5) → ∃ (v1 : Int32) (h1 : zH), R_X2_meetsAny [.ref 32, .int x5] h (some (.int v1)) h1 ∧ (v1 = 0 → zG M_X2_unseen post (zat M_X2_unseen 35) [some (.ref 32), some (.int x1), some (.int x2), some (.int (x3 + (1 : Int32))), some (.int x4), some (.int (x5 + (1 : Int32)))] [] h1) ∧ (¬ (v1 = 0) → zG M_X2_unseen post (zat M_X2_unseen 35) [some (.ref 32), some (.int x1), some (.int x2), some (.int (x3 + (0 : Int32))), some (.int x4), some (.int (x5 + (1 : Int32)))] [] h1))) : zG M_X2_unseen post (zat M_X2_unseen 35) [some (.ref 32), some (.int x1), some (.int x2), some (.int x3), some (.int x4), some (.int x5)] [] h := zsg_sound (cuts := [(5, [true, true, true, true, true, false]), (35, [true, true, true, true, true, true])]) 19 t
theorem t_J9_min_7cf53_0 (a1 : Int32) (a2 : Int32) (h : zH) (post : Option Value → zH → Prop) (t : (a2 < a1 → post (some (.int a2)) h) ∧ (¬ (a2 < a1) → post (some (.int a1)) h)) : zG M_J9_min_7cf53 post (M_J9_min_7cf53.1) [some (.int a1), some (.int a2)] [] h := zsg_sound (cuts := []) 7 t
theorem r_J9_min_7cf53 (a1 : Int32) (a2 : Int32) (h : zH) (o : Option Value) (h' : zH) (ho : ∃ v, o = some (.int v)) (t : zG M_J9_min_7cf53 (fun r1 h1 => r1 = o ∧ h1 = h') M_J9_min_7cf53.1 [some (.int a1), some (.int a2)] [] h) : R_J9_min_7cf53 [.int a1, .int a2] h o h' := ⟨rfl, ho, t⟩
theorem t_X2_coverWith_0 (a1 : Int32) (a2 : Int32) (a3 : Int32) (h : zH) (post : Option Value → zH → Prop) (t : zG M_X2_coverWith post (zat M_X2_coverWith 11) [some (.ref 32), some (.int a1), some (.int a2), some (.int a3), some (.int ((65536 : Int32) + ((1 : Int32) <<< (a1 &&& 31)))), some (.int a3)] [] h) : zG M_X2_coverWith post (M_X2_coverWith.1) [some (.ref 32), some (.int a1), some (.int a2), some (.int a3), none, none] [] h := zsg_sound (cuts := [(11, [true, true, true, true, true, true])]) 10 t
theorem r_X2_coverWith (a1 : Int32) (a2 : Int32) (a3 : Int32) (h : zH) (o : Option Value) (h' : zH) (ho : o = none) (t : zG M_X2_coverWith (fun r1 h1 => r1 = o ∧ h1 = h') M_X2_coverWith.1 [some (.ref 32), some (.int a1), some (.int a2), some (.int a3), none, none] [] h) : R_X2_coverWith [.ref 32, .int a1, .int a2, .int a3] h o h' := ⟨rfl, ho, t⟩
theorem t_X2_coverWith_11 (x1 : Int32) (x2 : Int32) (x3 : Int32) (x4 : Int32) (x5 : Int32) (h : zH) (post : Option Value → zH → Prop) (t : (x5 < 0 → post none h) ∧ (¬ (x5 < 0) → vp_in x5 4096 ∧ ((h.1 34 x5.toNatClampNeg) = (6488064 : Int32) → zG M_X2_coverWith post (zat M_X2_coverWith 11) [some (.ref 32), some (.int x1), some (.int x2), some (.int x3), some (.int x4), some (.int (x5 + (-1 : Int32)))] [] h) ∧ (¬ ((h.1 34 x5.toNatClampNeg) = (6488064 : Int32)) → vp_in (x5 ||| x2) 4096 ∧ vp_in x5 4096 ∧ ∃ (v1 : Int32) (h1 : zH), R_J9_min_7cf53 [.int (h.1 34 (x5 ||| x2).toNatClampNeg), .int ((h.1 34 x5.toNatClampNeg) + x4)] h (some (.int v1)) h1 ∧ vp_in (x5 ||| x2) 4096 ∧ zG M_X2_coverWith post (zat M_X2_coverWith 11) [some (.ref 32), some (.int x1), some (.int x2), some (.int x3), some (.int x4), some (.int (x5 + (-1 : Int32)))] [] (zsi h1 34 (x5 ||| x2).toNatClampNeg v1)))) : zG M_X2_coverWith post (zat M_X2_coverWith 11) [some (.ref 32), some (.int x1), some (.int x2), some (.int x3), some (.int x4), some (.int x5)] [] h := zsg_sound (cuts := [(11, [true, true, true, true, true, true])]) 31 t
theorem t_X2_leastCover_0 (a1 : Int32) (h : zH) (post : Option Value → zH → Prop) (t : ∃ (v1 : Int32) (h1 : zH), R_X2_allMarks [.ref 32] h (some (.int v1)) h1 ∧ zG M_X2_leastCover post (zat M_X2_leastCover 7) [some (.ref 32), some (.int a1), some (.int v1), some (.int (0 : Int32)), none] [] h1) : zG M_X2_leastCover post (M_X2_leastCover.1) [some (.ref 32), some (.int a1), none, none, none] [] h := zsg_sound (cuts := [(7, [true, true, true, true, false]), (36, [true, true, true, true, false])]) 7 t
theorem r_X2_leastCover (a1 : Int32) (h : zH) (o : Option Value) (h' : zH) (ho : ∃ v, o = some (.int v)) (t : zG M_X2_leastCover (fun r1 h1 => r1 = o ∧ h1 = h') M_X2_leastCover.1 [some (.ref 32), some (.int a1), none, none, none] [] h) : R_X2_leastCover [.ref 32, .int a1] h o h' := ⟨rfl, ho, t⟩
theorem t_X2_leastCover_7 (x1 : Int32) (x2 : Int32) (x3 : Int32) (h : zH) (post : Option Value → zH → Prop) (t : (x2 < x3 → zG M_X2_leastCover post (zat M_X2_leastCover 36) [some (.ref 32), some (.int x1), some (.int x2), some (.int (0 : Int32)), none] [] h) ∧ (¬ (x2 < x3) → (¬ x3 = 0 → vp_in x3 4096 ∧ zG M_X2_leastCover post (zat M_X2_leastCover 7) [some (.ref 32), some (.int x1), some (.int x2), some (.int (x3 + (1 : Int32))), none] [] (zsi h 34 x3.toNatClampNeg (6488064 : Int32))) ∧ (¬ ¬ x3 = 0 → vp_in x3 4096 ∧ zG M_X2_leastCover post (zat M_X2_leastCover 7) [some (.ref 32), some (.int x1), some (.int x2), some (.int (x3 + (1 : Int32))), none] [] (zsi h 34 x3.toNatClampNeg (0 : Int32))))) : zG M_X2_leastCover post (zat M_X2_leastCover 7) [some (.ref 32), some (.int x1), some (.int x2), some (.int x3), none] [] h := zsg_sound (cuts := [(7, [true, true, true, true, false]), (36, [true, true, true, true, false])]) 15 t
theorem t_X2_leastCover_36 (x1 : Int32) (x2 : Int32) (x3 : Int32) (h : zH) (post : Option Value → zH → Prop) (t : ((16 : Int32) ≤ x3 → vp_in x2 4096 ∧ (¬ (h.1 34 x2.toNatClampNeg) = (6488064 : Int32) → vp_in x2 4096 ∧ post (some (.int ((h.1 34 x2.toNatClampNeg) &&& (65535 : Int32)))) h) ∧ (¬ ¬ (h.1 34 x2.toNatClampNeg) = (6488064 : Int32) → post (some (.int (-4 : Int32))) h)) ∧ (¬ ((16 : Int32) ≤ x3) → ∃ (v1 : Int32) (h1 : zH), R_X2_marksMet [.ref 32, .int x3, .int x1, .int x2] h (some (.int v1)) h1 ∧ (v1 = 0 → zG M_X2_leastCover post (zat M_X2_leastCover 36) [some (.ref 32), some (.int x1), some (.int x2), some (.int (x3 + (1 : Int32))), none] [] h1) ∧ (¬ (v1 = 0) → ∃ h2 : zH, R_X2_coverWith [.ref 32, .int x3, .int v1, .int x2] h1 none h2 ∧ zG M_X2_leastCover post (zat M_X2_leastCover 36) [some (.ref 32), some (.int x1), some (.int x2), some (.int (x3 + (1 : Int32))), none] [] h2))) : zG M_X2_leastCover post (zat M_X2_leastCover 36) [some (.ref 32), some (.int x1), some (.int x2), some (.int x3), none] [] h := zsg_sound (cuts := [(7, [true, true, true, true, false]), (36, [true, true, true, true, false])]) 20 t
theorem t_X3_turnOf_0 (a1 : Int32) (a2 : Int32) (a3 : Int32) (h : zH) (post : Option Value → zH → Prop) (t : ∃ (v1 : Int32) (h1 : zH), R_X6_bent [.ref 1, .int (0 : Int32), .int a2, .int a3] h (some (.int v1)) h1 ∧ vp_in (1 : Int32) 5 ∧ post (some (.int ((((2 : Int32) * a3) - ((2 : Int32) * v1)) + (a1 * (((1800 : Int32) - ((2 : Int32) * v1)) + (h1.1 3 (1 : Int32).toNatClampNeg)))))) h1) : zG M_X3_turnOf post (M_X3_turnOf.1) [some (.ref 26), some (.int a1), some (.int a2), some (.int a3), none] [] h := zsg_sound (cuts := []) 30 t
theorem r_X3_turnOf (a1 : Int32) (a2 : Int32) (a3 : Int32) (h : zH) (o : Option Value) (h' : zH) (ho : ∃ v, o = some (.int v)) (t : zG M_X3_turnOf (fun r1 h1 => r1 = o ∧ h1 = h') M_X3_turnOf.1 [some (.ref 26), some (.int a1), some (.int a2), some (.int a3), none] [] h) : R_X3_turnOf [.ref 26, .int a1, .int a2, .int a3] h o h' := ⟨rfl, ho, t⟩
theorem t_J9_floorMod_7cf53_0 (a1 : Int32) (a2 : Int32) (h : zH) (post : Option Value → zH → Prop) (t : ¬ a2 = 0 ∧ (0 ≤ (a1 ^^^ a2) → post (some (.int (a1 - a1 / a2 * a2))) h) ∧ (¬ (0 ≤ (a1 ^^^ a2)) → ((a1 - a1 / a2 * a2) = 0 → post (some (.int (a1 - a1 / a2 * a2))) h) ∧ (¬ ((a1 - a1 / a2 * a2) = 0) → post (some (.int ((a1 - a1 / a2 * a2) + a2))) h))) : zG M_J9_floorMod_7cf53 post (M_J9_floorMod_7cf53.1) [some (.int a1), some (.int a2), none] [] h := zsg_sound (cuts := []) 15 t
theorem r_J9_floorMod_7cf53 (a1 : Int32) (a2 : Int32) (h : zH) (o : Option Value) (h' : zH) (ho : ∃ v, o = some (.int v)) (t : zG M_J9_floorMod_7cf53 (fun r1 h1 => r1 = o ∧ h1 = h') M_J9_floorMod_7cf53.1 [some (.int a1), some (.int a2), none] [] h) : R_J9_floorMod_7cf53 [.int a1, .int a2] h o h' := ⟨rfl, ho, t⟩
theorem t_X3_fromSun_0 (a1 : Int32) (a2 : Int32) (a3 : Int32) (h : zH) (post : Option Value → zH → Prop) (t : ∃ (v1 : Int32) (h1 : zH), R_X3_turnOf [.ref 26, .int a1, .int a2, .int a3] h (some (.int v1)) h1 ∧ ∃ (v2 : Int32) (h2 : zH), R_J9_floorMod_7cf53 [.int v1, .int (3600 : Int32)] h1 (some (.int v2)) h2 ∧ (v2 ≤ (1800 : Int32) → post (some (.int v2)) h2) ∧ (¬ (v2 ≤ (1800 : Int32)) → post (some (.int ((3600 : Int32) - v2))) h2)) : zG M_X3_fromSun post (M_X3_fromSun.1) [some (.ref 26), some (.int a1), some (.int a2), some (.int a3), none] [] h := zsg_sound (cuts := []) 17 t
theorem r_X3_fromSun (a1 : Int32) (a2 : Int32) (a3 : Int32) (h : zH) (o : Option Value) (h' : zH) (ho : ∃ v, o = some (.int v)) (t : zG M_X3_fromSun (fun r1 h1 => r1 = o ∧ h1 = h') M_X3_fromSun.1 [some (.ref 26), some (.int a1), some (.int a2), some (.int a3), none] [] h) : R_X3_fromSun [.ref 26, .int a1, .int a2, .int a3] h o h' := ⟨rfl, ho, t⟩
theorem t_X3_lightIn_0 (a1 : Int32) (h : zH) (post : Option Value → zH → Prop) (t : post (some (.int (a1 * ((900 : Int32) - a1)))) h) : zG M_X3_lightIn post (M_X3_lightIn.1) [some (.ref 26), some (.int a1)] [] h := zsg_sound (cuts := []) 7 t
theorem r_X3_lightIn (a1 : Int32) (h : zH) (o : Option Value) (h' : zH) (ho : ∃ v, o = some (.int v)) (t : zG M_X3_lightIn (fun r1 h1 => r1 = o ∧ h1 = h') M_X3_lightIn.1 [some (.ref 26), some (.int a1)] [] h) : R_X3_lightIn [.ref 26, .int a1] h o h' := ⟨rfl, ho, t⟩
theorem t_X3_thrownBack_0 (a1 : Int32) (h : zH) (post : Option Value → zH → Prop) (t : vp_in (2 : Int32) 5 ∧ ¬ (100 : Int32) = 0 ∧ post (some (.int ((a1 * (h.1 3 (2 : Int32).toNatClampNeg)) / (100 : Int32)))) h) : zG M_X3_thrownBack post (M_X3_thrownBack.1) [some (.ref 26), some (.int a1)] [] h := zsg_sound (cuts := []) 11 t
theorem r_X3_thrownBack (a1 : Int32) (h : zH) (o : Option Value) (h' : zH) (ho : ∃ v, o = some (.int v)) (t : zG M_X3_thrownBack (fun r1 h1 => r1 = o ∧ h1 = h') M_X3_thrownBack.1 [some (.ref 26), some (.int a1)] [] h) : R_X3_thrownBack [.ref 26, .int a1] h o h' := ⟨rfl, ho, t⟩
theorem t_X3_lightOut_0 (a1 : Int32) (a2 : Int32) (h : zH) (post : Option Value → zH → Prop) (t : ∃ (v1 : Int32) (h1 : zH), R_X3_lightIn [.ref 26, .int a2] h (some (.int v1)) h1 ∧ ∃ (v2 : Int32) (h2 : zH), R_X3_thrownBack [.ref 26, .int v1] h1 (some (.int v2)) h2 ∧ zG M_X3_lightOut post (zat M_X3_lightOut 17) [some (.ref 26), some (.int a1), some (.int a2), some (.int (v1 - v2)), some (.int (0 : Int32))] [] h2) : zG M_X3_lightOut post (M_X3_lightOut.1) [some (.ref 26), some (.int a1), some (.int a2), none, none] [] h := zsg_sound (cuts := [(17, [true, true, true, true, true])]) 14 t
theorem r_X3_lightOut (a1 : Int32) (a2 : Int32) (h : zH) (o : Option Value) (h' : zH) (ho : ∃ v, o = some (.int v)) (t : zG M_X3_lightOut (fun r1 h1 => r1 = o ∧ h1 = h') M_X3_lightOut.1 [some (.ref 26), some (.int a1), some (.int a2), none, none] [] h) : R_X3_lightOut [.ref 26, .int a1, .int a2] h o h' := ⟨rfl, ho, t⟩
theorem t_X3_lightOut_17 (x1 : Int32) (x2 : Int32) (x3 : Int32) (x4 : Int32) (h : zH) (post : Option Value → zH → Prop) (t : (x1 ≤ x4 → ∃ (v1 : Int32) (h1 : zH), R_X3_thrownBack [.ref 26, .int x3] h (some (.int v1)) h1 ∧ post (some (.int (x3 - v1))) h1) ∧ (¬ (x1 ≤ x4) → ∃ (v1 : Int32) (h1 : zH), R_X3_thrownBack [.ref 26, .int x3] h (some (.int v1)) h1 ∧ zG M_X3_lightOut post (zat M_X3_lightOut 17) [some (.ref 26), some (.int x1), some (.int x2), some (.int v1), some (.int (x4 + (1 : Int32)))] [] h1)) : zG M_X3_lightOut post (zat M_X3_lightOut 17) [some (.ref 26), some (.int x1), some (.int x2), some (.int x3), some (.int x4)] [] h := zsg_sound (cuts := [(17, [true, true, true, true, true])]) 11 t
theorem t_J7_fill_d0a16a_0 (a2 : Int64) (h : zH) (post : Option Value → zH → Prop) (t : zG M_J7_fill_d0a16 post (zat M_J7_fill_d0a16 6) [some (.ref 27), some (.long a2), none, some (.int (0 : Int32)), some (.int (181 : Int32))] [] h) : zG M_J7_fill_d0a16 post (M_J7_fill_d0a16.1) [some (.ref 27), some (.long a2), none, none, none] [] h := zsg_sound (cuts := [(6, [true, true, false, true, true])]) 7 t
theorem r_J7_fill_d0a16a (a2 : Int64) (h : zH) (o : Option Value) (h' : zH) (ho : o = none) (t : zG M_J7_fill_d0a16 (fun r1 h1 => r1 = o ∧ h1 = h') M_J7_fill_d0a16.1 [some (.ref 27), some (.long a2), none, none, none] [] h) : R_J7_fill_d0a16 [.ref 27, .long a2] h o h' := ⟨rfl, ho, t⟩
theorem t_J7_fill_d0a16a_6 (x1 : Int64) (x3 : Int32) (x4 : Int32) (h : zH) (post : Option Value → zH → Prop) (t : (x4 ≤ x3 → post none h) ∧ (¬ (x4 ≤ x3) → vp_in x3 181 ∧ zG M_J7_fill_d0a16 post (zat M_J7_fill_d0a16 6) [some (.ref 27), some (.long x1), none, some (.int (x3 + (1 : Int32))), some (.int x4)] [] (zsl h 27 x3.toNatClampNeg x1))) : zG M_J7_fill_d0a16 post (zat M_J7_fill_d0a16 6) [some (.ref 27), some (.long x1), none, some (.int x3), some (.int x4)] [] h := zsg_sound (cuts := [(6, [true, true, false, true, true])]) 11 t
theorem t_J7_fill_d0a16b_0 (a2 : Int64) (h : zH) (post : Option Value → zH → Prop) (t : zG M_J7_fill_d0a16 post (zat M_J7_fill_d0a16 6) [some (.ref 28), some (.long a2), none, some (.int (0 : Int32)), some (.int (181 : Int32))] [] h) : zG M_J7_fill_d0a16 post (M_J7_fill_d0a16.1) [some (.ref 28), some (.long a2), none, none, none] [] h := zsg_sound (cuts := [(6, [true, true, false, true, true])]) 7 t
theorem r_J7_fill_d0a16b (a2 : Int64) (h : zH) (o : Option Value) (h' : zH) (ho : o = none) (t : zG M_J7_fill_d0a16 (fun r1 h1 => r1 = o ∧ h1 = h') M_J7_fill_d0a16.1 [some (.ref 28), some (.long a2), none, none, none] [] h) : R_J7_fill_d0a16 [.ref 28, .long a2] h o h' := ⟨rfl, ho, t⟩
theorem t_J7_fill_d0a16b_6 (x1 : Int64) (x3 : Int32) (x4 : Int32) (h : zH) (post : Option Value → zH → Prop) (t : (x4 ≤ x3 → post none h) ∧ (¬ (x4 ≤ x3) → vp_in x3 181 ∧ zG M_J7_fill_d0a16 post (zat M_J7_fill_d0a16 6) [some (.ref 28), some (.long x1), none, some (.int (x3 + (1 : Int32))), some (.int x4)] [] (zsl h 28 x3.toNatClampNeg x1))) : zG M_J7_fill_d0a16 post (zat M_J7_fill_d0a16 6) [some (.ref 28), some (.long x1), none, some (.int x3), some (.int x4)] [] h := zsg_sound (cuts := [(6, [true, true, false, true, true])]) 11 t
theorem t_X3_fillSkya_0 (a2 : Int32) (a3 : Int32) (h : zH) (post : Option Value → zH → Prop) (t : ∃ h1 : zH, R_J7_fill_d0a16 [.ref 27, .long (0 : Int64)] h none h1 ∧ zG M_X3_fillSky post (zat M_X3_fillSky 8) [some (.ref 26), some (.ref 27), some (.int a2), some (.int a3), some (.int (0 : Int32))] [] h1) : zG M_X3_fillSky post (M_X3_fillSky.1) [some (.ref 26), some (.ref 27), some (.int a2), some (.int a3), none] [] h := zsg_sound (cuts := [(8, [true, true, true, true, true])]) 7 t
theorem r_X3_fillSkya (a2 : Int32) (a3 : Int32) (h : zH) (o : Option Value) (h' : zH) (ho : o = none) (t : zG M_X3_fillSky (fun r1 h1 => r1 = o ∧ h1 = h') M_X3_fillSky.1 [some (.ref 26), some (.ref 27), some (.int a2), some (.int a3), none] [] h) : R_X3_fillSky [.ref 26, .ref 27, .int a2, .int a3] h o h' := ⟨rfl, ho, t⟩
theorem t_X3_fillSkya_8 (x2 : Int32) (x3 : Int32) (x4 : Int32) (h : zH) (post : Option Value → zH → Prop) (t : ((900 : Int32) < x4 → post none h) ∧ (¬ ((900 : Int32) < x4) → ∃ (v1 : Int32) (h1 : zH), R_X3_fromSun [.ref 26, .int x2, .int x3, .int x4] h (some (.int v1)) h1 ∧ ¬ (10 : Int32) = 0 ∧ vp_in (v1 / (10 : Int32)) 181 ∧ ∃ (v2 : Int32) (h2 : zH), R_X3_lightOut [.ref 26, .int x2, .int x4] h1 (some (.int v2)) h2 ∧ vp_in (v1 / (10 : Int32)) 181 ∧ zG M_X3_fillSky post (zat M_X3_fillSky 8) [some (.ref 26), some (.ref 27), some (.int x2), some (.int x3), some (.int (x4 + (5 : Int32)))] [] (zsl h2 27 (v1 / (10 : Int32)).toNatClampNeg ((h1.2 27 (v1 / (10 : Int32)).toNatClampNeg) + v2.toInt64)))) : zG M_X3_fillSky post (zat M_X3_fillSky 8) [some (.ref 26), some (.ref 27), some (.int x2), some (.int x3), some (.int x4)] [] h := zsg_sound (cuts := [(8, [true, true, true, true, true])]) 24 t
theorem t_X3_fillSkyb_0 (a2 : Int32) (a3 : Int32) (h : zH) (post : Option Value → zH → Prop) (t : ∃ h1 : zH, R_J7_fill_d0a16 [.ref 28, .long (0 : Int64)] h none h1 ∧ zG M_X3_fillSky post (zat M_X3_fillSky 8) [some (.ref 26), some (.ref 28), some (.int a2), some (.int a3), some (.int (0 : Int32))] [] h1) : zG M_X3_fillSky post (M_X3_fillSky.1) [some (.ref 26), some (.ref 28), some (.int a2), some (.int a3), none] [] h := zsg_sound (cuts := [(8, [true, true, true, true, true])]) 7 t
theorem r_X3_fillSkyb (a2 : Int32) (a3 : Int32) (h : zH) (o : Option Value) (h' : zH) (ho : o = none) (t : zG M_X3_fillSky (fun r1 h1 => r1 = o ∧ h1 = h') M_X3_fillSky.1 [some (.ref 26), some (.ref 28), some (.int a2), some (.int a3), none] [] h) : R_X3_fillSky [.ref 26, .ref 28, .int a2, .int a3] h o h' := ⟨rfl, ho, t⟩
theorem t_X3_fillSkyb_8 (x2 : Int32) (x3 : Int32) (x4 : Int32) (h : zH) (post : Option Value → zH → Prop) (t : ((900 : Int32) < x4 → post none h) ∧ (¬ ((900 : Int32) < x4) → ∃ (v1 : Int32) (h1 : zH), R_X3_fromSun [.ref 26, .int x2, .int x3, .int x4] h (some (.int v1)) h1 ∧ ¬ (10 : Int32) = 0 ∧ vp_in (v1 / (10 : Int32)) 181 ∧ ∃ (v2 : Int32) (h2 : zH), R_X3_lightOut [.ref 26, .int x2, .int x4] h1 (some (.int v2)) h2 ∧ vp_in (v1 / (10 : Int32)) 181 ∧ zG M_X3_fillSky post (zat M_X3_fillSky 8) [some (.ref 26), some (.ref 28), some (.int x2), some (.int x3), some (.int (x4 + (5 : Int32)))] [] (zsl h2 28 (v1 / (10 : Int32)).toNatClampNeg ((h1.2 28 (v1 / (10 : Int32)).toNatClampNeg) + v2.toInt64)))) : zG M_X3_fillSky post (zat M_X3_fillSky 8) [some (.ref 26), some (.ref 28), some (.int x2), some (.int x3), some (.int x4)] [] h := zsg_sound (cuts := [(8, [true, true, true, true, true])]) 24 t
theorem t_X3_brightesta_0  (h : zH) (post : Option Value → zH → Prop) (t : zG M_X3_brightest post (zat M_X3_brightest 4) [some (.ref 26), some (.ref 27), some (.int (0 : Int32)), some (.int (1 : Int32))] [] h) : zG M_X3_brightest post (M_X3_brightest.1) [some (.ref 26), some (.ref 27), none, none] [] h := zsg_sound (cuts := [(4, [true, true, true, true])]) 6 t
theorem r_X3_brightesta  (h : zH) (o : Option Value) (h' : zH) (ho : ∃ v, o = some (.int v)) (t : zG M_X3_brightest (fun r1 h1 => r1 = o ∧ h1 = h') M_X3_brightest.1 [some (.ref 26), some (.ref 27), none, none] [] h) : R_X3_brightest [.ref 26, .ref 27] h o h' := ⟨rfl, ho, t⟩
theorem t_X3_brightesta_4 (x2 : Int32) (x3 : Int32) (h : zH) (post : Option Value → zH → Prop) (t : ((181 : Int32) ≤ x3 → vp_in x2 181 ∧ ((lg_cmp (h.2 27 x2.toNatClampNeg) (0 : Int64)) ≤ 0 → post (some (.int (-4 : Int32))) h) ∧ (¬ ((lg_cmp (h.2 27 x2.toNatClampNeg) (0 : Int64)) ≤ 0) → post (some (.int x2)) h)) ∧ (¬ ((181 : Int32) ≤ x3) → vp_in x3 181 ∧ vp_in x2 181 ∧ ((lg_cmp (h.2 27 x3.toNatClampNeg) (h.2 27 x2.toNatClampNeg)) ≤ 0 → zG M_X3_brightest post (zat M_X3_brightest 4) [some (.ref 26), some (.ref 27), some (.int x2), some (.int (x3 + (1 : Int32)))] [] h) ∧ (¬ ((lg_cmp (h.2 27 x3.toNatClampNeg) (h.2 27 x2.toNatClampNeg)) ≤ 0) → zG M_X3_brightest post (zat M_X3_brightest 4) [some (.ref 26), some (.ref 27), some (.int x3), some (.int (x3 + (1 : Int32)))] [] h))) : zG M_X3_brightest post (zat M_X3_brightest 4) [some (.ref 26), some (.ref 27), some (.int x2), some (.int x3)] [] h := zsg_sound (cuts := [(4, [true, true, true, true])]) 17 t
theorem t_X3_brightestb_0  (h : zH) (post : Option Value → zH → Prop) (t : zG M_X3_brightest post (zat M_X3_brightest 4) [some (.ref 26), some (.ref 28), some (.int (0 : Int32)), some (.int (1 : Int32))] [] h) : zG M_X3_brightest post (M_X3_brightest.1) [some (.ref 26), some (.ref 28), none, none] [] h := zsg_sound (cuts := [(4, [true, true, true, true])]) 6 t
theorem r_X3_brightestb  (h : zH) (o : Option Value) (h' : zH) (ho : ∃ v, o = some (.int v)) (t : zG M_X3_brightest (fun r1 h1 => r1 = o ∧ h1 = h') M_X3_brightest.1 [some (.ref 26), some (.ref 28), none, none] [] h) : R_X3_brightest [.ref 26, .ref 28] h o h' := ⟨rfl, ho, t⟩
theorem t_X3_brightestb_4 (x2 : Int32) (x3 : Int32) (h : zH) (post : Option Value → zH → Prop) (t : ((181 : Int32) ≤ x3 → vp_in x2 181 ∧ ((lg_cmp (h.2 28 x2.toNatClampNeg) (0 : Int64)) ≤ 0 → post (some (.int (-4 : Int32))) h) ∧ (¬ ((lg_cmp (h.2 28 x2.toNatClampNeg) (0 : Int64)) ≤ 0) → post (some (.int x2)) h)) ∧ (¬ ((181 : Int32) ≤ x3) → vp_in x3 181 ∧ vp_in x2 181 ∧ ((lg_cmp (h.2 28 x3.toNatClampNeg) (h.2 28 x2.toNatClampNeg)) ≤ 0 → zG M_X3_brightest post (zat M_X3_brightest 4) [some (.ref 26), some (.ref 28), some (.int x2), some (.int (x3 + (1 : Int32)))] [] h) ∧ (¬ ((lg_cmp (h.2 28 x3.toNatClampNeg) (h.2 28 x2.toNatClampNeg)) ≤ 0) → zG M_X3_brightest post (zat M_X3_brightest 4) [some (.ref 26), some (.ref 28), some (.int x3), some (.int (x3 + (1 : Int32)))] [] h))) : zG M_X3_brightest post (zat M_X3_brightest 4) [some (.ref 26), some (.ref 28), some (.int x2), some (.int x3)] [] h := zsg_sound (cuts := [(4, [true, true, true, true])]) 17 t
theorem t_X3_broad_0 (a2 : Int32) (h : zH) (post : Option Value → zH → Prop) (t : zG M_X3_broad post (zat M_X3_broad 2) [some (.ref 26), some (.ref 27), some (.int a2), some (.int a2), none] [] h) : zG M_X3_broad post (M_X3_broad.1) [some (.ref 26), some (.ref 27), some (.int a2), none, none] [] h := zsg_sound (cuts := [(2, [true, true, true, true, false]), (31, [true, true, true, true, true])]) 4 t
theorem r_X3_broad (a2 : Int32) (h : zH) (o : Option Value) (h' : zH) (ho : ∃ v, o = some (.int v)) (t : zG M_X3_broad (fun r1 h1 => r1 = o ∧ h1 = h') M_X3_broad.1 [some (.ref 26), some (.ref 27), some (.int a2), none, none] [] h) : R_X3_broad [.ref 26, .ref 27, .int a2] h o h' := ⟨rfl, ho, t⟩
theorem t_X3_broad_2 (x2 : Int32) (x3 : Int32) (h : zH) (post : Option Value → zH → Prop) (t : (x3 ≤ 0 → zG M_X3_broad post (zat M_X3_broad 31) [some (.ref 26), some (.ref 27), some (.int x2), some (.int x3), some (.int x2)] [] h) ∧ (¬ (x3 ≤ 0) → vp_in (x3 - (1 : Int32)) 181 ∧ vp_in x2 181 ∧ ((lg_cmp ((2 : Int64) * (h.2 27 (x3 - (1 : Int32)).toNatClampNeg)) (h.2 27 x2.toNatClampNeg)) < 0 → zG M_X3_broad post (zat M_X3_broad 31) [some (.ref 26), some (.ref 27), some (.int x2), some (.int x3), some (.int x2)] [] h) ∧ (¬ ((lg_cmp ((2 : Int64) * (h.2 27 (x3 - (1 : Int32)).toNatClampNeg)) (h.2 27 x2.toNatClampNeg)) < 0) → zG M_X3_broad post (zat M_X3_broad 2) [some (.ref 26), some (.ref 27), some (.int x2), some (.int (x3 + (-1 : Int32))), none] [] h))) : zG M_X3_broad post (zat M_X3_broad 2) [some (.ref 26), some (.ref 27), some (.int x2), some (.int x3), none] [] h := zsg_sound (cuts := [(2, [true, true, true, true, false]), (31, [true, true, true, true, true])]) 18 t
theorem t_X3_broad_31 (x2 : Int32) (x3 : Int32) (x4 : Int32) (h : zH) (post : Option Value → zH → Prop) (t : ((180 : Int32) ≤ x4 → post (some (.int ((x4 - x3) + (1 : Int32)))) h) ∧ (¬ ((180 : Int32) ≤ x4) → vp_in (x4 + (1 : Int32)) 181 ∧ vp_in x2 181 ∧ ((lg_cmp ((2 : Int64) * (h.2 27 (x4 + (1 : Int32)).toNatClampNeg)) (h.2 27 x2.toNatClampNeg)) < 0 → post (some (.int ((x4 - x3) + (1 : Int32)))) h) ∧ (¬ ((lg_cmp ((2 : Int64) * (h.2 27 (x4 + (1 : Int32)).toNatClampNeg)) (h.2 27 x2.toNatClampNeg)) < 0) → zG M_X3_broad post (zat M_X3_broad 31) [some (.ref 26), some (.ref 27), some (.int x2), some (.int x3), some (.int (x4 + (1 : Int32)))] [] h))) : zG M_X3_broad post (zat M_X3_broad 31) [some (.ref 26), some (.ref 27), some (.int x2), some (.int x3), some (.int x4)] [] h := zsg_sound (cuts := [(2, [true, true, true, true, false]), (31, [true, true, true, true, true])]) 22 t
theorem t_X3_widestDark_0 (a1 : Int32) (a2 : Int32) (h : zH) (post : Option Value → zH → Prop) (t : ∃ h1 : zH, R_X3_fillSky [.ref 26, .ref 27, .int a1, .int (0 : Int32)] h none h1 ∧ ∃ h2 : zH, R_X3_fillSky [.ref 26, .ref 28, .int a2, .int (0 : Int32)] h1 none h2 ∧ ∃ (v3 : Int32) (h3 : zH), R_X3_brightest [.ref 26, .ref 27] h2 (some (.int v3)) h3 ∧ ∃ (v4 : Int32) (h4 : zH), R_X3_brightest [.ref 26, .ref 28] h3 (some (.int v4)) h4 ∧ (v3 = (-4 : Int32) → post (some (.int (-2 : Int32))) h4) ∧ (¬ (v3 = (-4 : Int32)) → (¬ v4 = (-4 : Int32) → ∃ (v5 : Int32) (h5 : zH), R_J9_min_7cf53 [.int v3, .int v4] h4 (some (.int v5)) h5 ∧ zG M_X3_widestDark post (zat M_X3_widestDark 69) [some (.ref 26), some (.int a1), some (.int a2), some (.int v3), some (.int v4), some (.int (0 : Int32)), some (.int (0 : Int32)), some (.int v5)] [] h5) ∧ (¬ ¬ v4 = (-4 : Int32) → post (some (.int (-2 : Int32))) h4))) : zG M_X3_widestDark post (M_X3_widestDark.1) [some (.ref 26), some (.int a1), some (.int a2), none, none, none, none, none] [] h := zsg_sound (cuts := [(69, [true, true, true, true, true, true, true, true])]) 38 t
theorem r_X3_widestDark (a1 : Int32) (a2 : Int32) (h : zH) (o : Option Value) (h' : zH) (ho : ∃ v, o = some (.int v)) (t : zG M_X3_widestDark (fun r1 h1 => r1 = o ∧ h1 = h') M_X3_widestDark.1 [some (.ref 26), some (.int a1), some (.int a2), none, none, none, none, none] [] h) : R_X3_widestDark [.ref 26, .int a1, .int a2] h o h' := ⟨rfl, ho, t⟩
theorem t_X3_widestDark_69 (x1 : Int32) (x2 : Int32) (x3 : Int32) (x4 : Int32) (x5 : Int32) (x6 : Int32) (x7 : Int32) (h : zH) (post : Option Value → zH → Prop) (t : ∃ (v1 : Int32) (h1 : zH), R_J9_max_7cf53 [.int x3, .int x4] h (some (.int v1)) h1 ∧ (v1 < x7 → post (some (.int x5)) h1) ∧ (¬ (v1 < x7) → vp_in x7 181 ∧ (¬ (lg_cmp (h1.2 27 x7.toNatClampNeg) (0 : Int64)) = 0 → ∃ (v2 : Int32) (h2 : zH), R_J9_max_7cf53 [.int x5, .int (0 : Int32)] h1 (some (.int v2)) h2 ∧ zG M_X3_widestDark post (zat M_X3_widestDark 69) [some (.ref 26), some (.int x1), some (.int x2), some (.int x3), some (.int x4), some (.int v2), some (.int (0 : Int32)), some (.int (x7 + (1 : Int32)))] [] h2) ∧ (¬ ¬ (lg_cmp (h1.2 27 x7.toNatClampNeg) (0 : Int64)) = 0 → vp_in x7 181 ∧ (¬ (lg_cmp (h1.2 28 x7.toNatClampNeg) (0 : Int64)) = 0 → ∃ (v2 : Int32) (h2 : zH), R_J9_max_7cf53 [.int x5, .int (0 : Int32)] h1 (some (.int v2)) h2 ∧ zG M_X3_widestDark post (zat M_X3_widestDark 69) [some (.ref 26), some (.int x1), some (.int x2), some (.int x3), some (.int x4), some (.int v2), some (.int (0 : Int32)), some (.int (x7 + (1 : Int32)))] [] h2) ∧ (¬ ¬ (lg_cmp (h1.2 28 x7.toNatClampNeg) (0 : Int64)) = 0 → ∃ (v2 : Int32) (h2 : zH), R_J9_max_7cf53 [.int x5, .int (x6 + (1 : Int32))] h1 (some (.int v2)) h2 ∧ zG M_X3_widestDark post (zat M_X3_widestDark 69) [some (.ref 26), some (.int x1), some (.int x2), some (.int x3), some (.int x4), some (.int v2), some (.int (x6 + (1 : Int32))), some (.int (x7 + (1 : Int32)))] [] h2)))) : zG M_X3_widestDark post (zat M_X3_widestDark 69) [some (.ref 26), some (.int x1), some (.int x2), some (.int x3), some (.int x4), some (.int x5), some (.int x6), some (.int x7)] [] h := zsg_sound (cuts := [(69, [true, true, true, true, true, true, true, true])]) 32 t
theorem t_X6_unbent_0 (a1 : Int32) (a2 : Int32) (a3 : Int32) (h : zH) (post : Option Value → zH → Prop) (t : zG M_X6_unbent post (zat M_X6_unbent 8) [some (.ref 1), some (.int a1), some (.int a2), some (.int a3), some (.int (0 : Int32)), some (.int (512 : Int32)), none] [] h) : zG M_X6_unbent post (M_X6_unbent.1) [some (.ref 1), some (.int a1), some (.int a2), some (.int a3), none, none, none] [] h := zsg_sound (cuts := [(8, [true, true, true, true, true, true, false])]) 6 t
theorem r_X6_unbent (a1 : Int32) (a2 : Int32) (a3 : Int32) (h : zH) (o : Option Value) (h' : zH) (ho : ∃ v, o = some (.int v)) (t : zG M_X6_unbent (fun r1 h1 => r1 = o ∧ h1 = h') M_X6_unbent.1 [some (.ref 1), some (.int a1), some (.int a2), some (.int a3), none, none, none] [] h) : R_X6_unbent [.ref 1, .int a1, .int a2, .int a3] h o h' := ⟨rfl, ho, t⟩
theorem t_X6_unbent_8 (x1 : Int32) (x2 : Int32) (x3 : Int32) (x4 : Int32) (x5 : Int32) (h : zH) (post : Option Value → zH → Prop) (t : (x5 ≤ 0 → ((900 : Int32) < x4 → post (some (.int (-4 : Int32))) h) ∧ (¬ ((900 : Int32) < x4) → post (some (.int x4)) h)) ∧ (¬ (x5 ≤ 0) → ((901 : Int32) < (x4 + x5) → ¬ (2 : Int32) = 0 ∧ zG M_X6_unbent post (zat M_X6_unbent 8) [some (.ref 1), some (.int x1), some (.int x2), some (.int x3), some (.int x4), some (.int (x5 / (2 : Int32))), none] [] h) ∧ (¬ ((901 : Int32) < (x4 + x5)) → ∃ (v1 : Int32) (h1 : zH), R_X6_bent [.ref 1, .int x1, .int x2, .int ((x4 + x5) - (1 : Int32))] h (some (.int v1)) h1 ∧ (x3 ≤ v1 → ¬ (2 : Int32) = 0 ∧ zG M_X6_unbent post (zat M_X6_unbent 8) [some (.ref 1), some (.int x1), some (.int x2), some (.int x3), some (.int x4), some (.int (x5 / (2 : Int32))), none] [] h1) ∧ (¬ (x3 ≤ v1) → ¬ (2 : Int32) = 0 ∧ zG M_X6_unbent post (zat M_X6_unbent 8) [some (.ref 1), some (.int x1), some (.int x2), some (.int x3), some (.int (x4 + x5)), some (.int (x5 / (2 : Int32))), none] [] h1)))) : zG M_X6_unbent post (zat M_X6_unbent 8) [some (.ref 1), some (.int x1), some (.int x2), some (.int x3), some (.int x4), some (.int x5), none] [] h := zsg_sound (cuts := [(8, [true, true, true, true, true, true, false])]) 27 t
theorem t_X4_turnOf_0 (a1 : Int32) (a2 : Int32) (a3 : Int32) (h : zH) (post : Option Value → zH → Prop) (t : ∃ (v1 : Int32) (h1 : zH), R_X6_bent [.ref 1, .int (1 : Int32), .int a2, .int a3] h (some (.int v1)) h1 ∧ (0 ≤ (a1 - v1) → ∃ (v2 : Int32) (h2 : zH), R_X6_unbent [.ref 1, .int (1 : Int32), .int a2, .int (a1 - v1)] h1 (some (.int v2)) h2 ∧ (¬ v2 = (-4 : Int32) → post (some (.int ((a3 + v2) - a1))) h2) ∧ (¬ ¬ v2 = (-4 : Int32) → post (some (.int (-10000 : Int32))) h2)) ∧ (¬ (0 ≤ (a1 - v1)) → post (some (.int (-10000 : Int32))) h1)) : zG M_X4_turnOf post (M_X4_turnOf.1) [some (.ref 29), some (.int a1), some (.int a2), some (.int a3), none, none] [] h := zsg_sound (cuts := []) 28 t
theorem r_X4_turnOf (a1 : Int32) (a2 : Int32) (a3 : Int32) (h : zH) (o : Option Value) (h' : zH) (ho : ∃ v, o = some (.int v)) (t : zG M_X4_turnOf (fun r1 h1 => r1 = o ∧ h1 = h') M_X4_turnOf.1 [some (.ref 29), some (.int a1), some (.int a2), some (.int a3), none, none] [] h) : R_X4_turnOf [.ref 29, .int a1, .int a2, .int a3] h o h' := ⟨rfl, ho, t⟩
theorem t_X6_copyFromto0_0  (h : zH) (post : Option Value → zH → Prop) (t : ∃ h1 : zH, zAC [.ref 2, .int (0 : Int32), .ref 9, .int (0 : Int32), .int (30 : Int32)] h none h1 ∧ ∃ h2 : zH, zAC [.ref 3, .int (0 : Int32), .ref 10, .int (0 : Int32), .int (5 : Int32)] h1 none h2 ∧ ∃ h3 : zH, zAC [.ref 4, .int (0 : Int32), .ref 11, .int (0 : Int32), .int (12 : Int32)] h2 none h3 ∧ ∃ h4 : zH, zAC [.ref 5, .int (0 : Int32), .ref 12, .int (0 : Int32), .int (4 : Int32)] h3 none h4 ∧ ∃ h5 : zH, zAC [.ref 6, .int (0 : Int32), .ref 13, .int (0 : Int32), .int (12 : Int32)] h4 none h5 ∧ post none h5) : zG M_X6_copyFrom post (M_X6_copyFrom.1) [some (.ref 8), some (.ref 1)] [] h := zsg_sound (cuts := []) 42 t
theorem r_X6_copyFromto0  (h : zH) (o : Option Value) (h' : zH) (ho : o = none) (t : zG M_X6_copyFrom (fun r1 h1 => r1 = o ∧ h1 = h') M_X6_copyFrom.1 [some (.ref 8), some (.ref 1)] [] h) : R_X6_copyFrom [.ref 8, .ref 1] h o h' := ⟨rfl, ho, t⟩
theorem t_X6_copyFromto1_0  (h : zH) (post : Option Value → zH → Prop) (t : ∃ h1 : zH, zAC [.ref 2, .int (0 : Int32), .ref 15, .int (0 : Int32), .int (30 : Int32)] h none h1 ∧ ∃ h2 : zH, zAC [.ref 3, .int (0 : Int32), .ref 16, .int (0 : Int32), .int (5 : Int32)] h1 none h2 ∧ ∃ h3 : zH, zAC [.ref 4, .int (0 : Int32), .ref 17, .int (0 : Int32), .int (12 : Int32)] h2 none h3 ∧ ∃ h4 : zH, zAC [.ref 5, .int (0 : Int32), .ref 18, .int (0 : Int32), .int (4 : Int32)] h3 none h4 ∧ ∃ h5 : zH, zAC [.ref 6, .int (0 : Int32), .ref 19, .int (0 : Int32), .int (12 : Int32)] h4 none h5 ∧ post none h5) : zG M_X6_copyFrom post (M_X6_copyFrom.1) [some (.ref 14), some (.ref 1)] [] h := zsg_sound (cuts := []) 42 t
theorem r_X6_copyFromto1  (h : zH) (o : Option Value) (h' : zH) (ho : o = none) (t : zG M_X6_copyFrom (fun r1 h1 => r1 = o ∧ h1 = h') M_X6_copyFrom.1 [some (.ref 14), some (.ref 1)] [] h) : R_X6_copyFrom [.ref 14, .ref 1] h o h' := ⟨rfl, ho, t⟩
theorem t_X6_copyFromto2_0  (h : zH) (post : Option Value → zH → Prop) (t : ∃ h1 : zH, zAC [.ref 2, .int (0 : Int32), .ref 21, .int (0 : Int32), .int (30 : Int32)] h none h1 ∧ ∃ h2 : zH, zAC [.ref 3, .int (0 : Int32), .ref 22, .int (0 : Int32), .int (5 : Int32)] h1 none h2 ∧ ∃ h3 : zH, zAC [.ref 4, .int (0 : Int32), .ref 23, .int (0 : Int32), .int (12 : Int32)] h2 none h3 ∧ ∃ h4 : zH, zAC [.ref 5, .int (0 : Int32), .ref 24, .int (0 : Int32), .int (4 : Int32)] h3 none h4 ∧ ∃ h5 : zH, zAC [.ref 6, .int (0 : Int32), .ref 25, .int (0 : Int32), .int (12 : Int32)] h4 none h5 ∧ post none h5) : zG M_X6_copyFrom post (M_X6_copyFrom.1) [some (.ref 20), some (.ref 1)] [] h := zsg_sound (cuts := []) 42 t
theorem r_X6_copyFromto2  (h : zH) (o : Option Value) (h' : zH) (ho : o = none) (t : zG M_X6_copyFrom (fun r1 h1 => r1 = o ∧ h1 = h') M_X6_copyFrom.1 [some (.ref 20), some (.ref 1)] [] h) : R_X6_copyFrom [.ref 20, .ref 1] h o h' := ⟨rfl, ho, t⟩
theorem t_X6_copyFromof0_0  (h : zH) (post : Option Value → zH → Prop) (t : ∃ h1 : zH, zAC [.ref 9, .int (0 : Int32), .ref 2, .int (0 : Int32), .int (30 : Int32)] h none h1 ∧ ∃ h2 : zH, zAC [.ref 10, .int (0 : Int32), .ref 3, .int (0 : Int32), .int (5 : Int32)] h1 none h2 ∧ ∃ h3 : zH, zAC [.ref 11, .int (0 : Int32), .ref 4, .int (0 : Int32), .int (12 : Int32)] h2 none h3 ∧ ∃ h4 : zH, zAC [.ref 12, .int (0 : Int32), .ref 5, .int (0 : Int32), .int (4 : Int32)] h3 none h4 ∧ ∃ h5 : zH, zAC [.ref 13, .int (0 : Int32), .ref 6, .int (0 : Int32), .int (12 : Int32)] h4 none h5 ∧ post none h5) : zG M_X6_copyFrom post (M_X6_copyFrom.1) [some (.ref 1), some (.ref 8)] [] h := zsg_sound (cuts := []) 42 t
theorem r_X6_copyFromof0  (h : zH) (o : Option Value) (h' : zH) (ho : o = none) (t : zG M_X6_copyFrom (fun r1 h1 => r1 = o ∧ h1 = h') M_X6_copyFrom.1 [some (.ref 1), some (.ref 8)] [] h) : R_X6_copyFrom [.ref 1, .ref 8] h o h' := ⟨rfl, ho, t⟩
theorem t_X6_copyFromof1_0  (h : zH) (post : Option Value → zH → Prop) (t : ∃ h1 : zH, zAC [.ref 15, .int (0 : Int32), .ref 2, .int (0 : Int32), .int (30 : Int32)] h none h1 ∧ ∃ h2 : zH, zAC [.ref 16, .int (0 : Int32), .ref 3, .int (0 : Int32), .int (5 : Int32)] h1 none h2 ∧ ∃ h3 : zH, zAC [.ref 17, .int (0 : Int32), .ref 4, .int (0 : Int32), .int (12 : Int32)] h2 none h3 ∧ ∃ h4 : zH, zAC [.ref 18, .int (0 : Int32), .ref 5, .int (0 : Int32), .int (4 : Int32)] h3 none h4 ∧ ∃ h5 : zH, zAC [.ref 19, .int (0 : Int32), .ref 6, .int (0 : Int32), .int (12 : Int32)] h4 none h5 ∧ post none h5) : zG M_X6_copyFrom post (M_X6_copyFrom.1) [some (.ref 1), some (.ref 14)] [] h := zsg_sound (cuts := []) 42 t
theorem r_X6_copyFromof1  (h : zH) (o : Option Value) (h' : zH) (ho : o = none) (t : zG M_X6_copyFrom (fun r1 h1 => r1 = o ∧ h1 = h') M_X6_copyFrom.1 [some (.ref 1), some (.ref 14)] [] h) : R_X6_copyFrom [.ref 1, .ref 14] h o h' := ⟨rfl, ho, t⟩
theorem t_X6_copyFromof2_0  (h : zH) (post : Option Value → zH → Prop) (t : ∃ h1 : zH, zAC [.ref 21, .int (0 : Int32), .ref 2, .int (0 : Int32), .int (30 : Int32)] h none h1 ∧ ∃ h2 : zH, zAC [.ref 22, .int (0 : Int32), .ref 3, .int (0 : Int32), .int (5 : Int32)] h1 none h2 ∧ ∃ h3 : zH, zAC [.ref 23, .int (0 : Int32), .ref 4, .int (0 : Int32), .int (12 : Int32)] h2 none h3 ∧ ∃ h4 : zH, zAC [.ref 24, .int (0 : Int32), .ref 5, .int (0 : Int32), .int (4 : Int32)] h3 none h4 ∧ ∃ h5 : zH, zAC [.ref 25, .int (0 : Int32), .ref 6, .int (0 : Int32), .int (12 : Int32)] h4 none h5 ∧ post none h5) : zG M_X6_copyFrom post (M_X6_copyFrom.1) [some (.ref 1), some (.ref 20)] [] h := zsg_sound (cuts := []) 42 t
theorem r_X6_copyFromof2  (h : zH) (o : Option Value) (h' : zH) (ho : o = none) (t : zG M_X6_copyFrom (fun r1 h1 => r1 = o ∧ h1 = h') M_X6_copyFrom.1 [some (.ref 1), some (.ref 20)] [] h) : R_X6_copyFrom [.ref 1, .ref 20] h o h' := ⟨rfl, ho, t⟩
theorem t_J7_fill_53178_0 (a2 : Int32) (h : zH) (post : Option Value → zH → Prop) (t : zG M_J7_fill_53178 post (zat M_J7_fill_53178 5) [some (.ref 6), some (.int a2), some (.int (0 : Int32)), some (.int (12 : Int32))] [] h) : zG M_J7_fill_53178 post (M_J7_fill_53178.1) [some (.ref 6), some (.int a2), none, none] [] h := zsg_sound (cuts := [(5, [true, true, true, true])]) 7 t
theorem r_J7_fill_53178 (a2 : Int32) (h : zH) (o : Option Value) (h' : zH) (ho : o = none) (t : zG M_J7_fill_53178 (fun r1 h1 => r1 = o ∧ h1 = h') M_J7_fill_53178.1 [some (.ref 6), some (.int a2), none, none] [] h) : R_J7_fill_53178 [.ref 6, .int a2] h o h' := ⟨rfl, ho, t⟩
theorem t_J7_fill_53178_5 (x1 : Int32) (x2 : Int32) (x3 : Int32) (h : zH) (post : Option Value → zH → Prop) (t : (x3 ≤ x2 → post none h) ∧ (¬ (x3 ≤ x2) → vp_in x2 12 ∧ zG M_J7_fill_53178 post (zat M_J7_fill_53178 5) [some (.ref 6), some (.int x1), some (.int (x2 + (1 : Int32))), some (.int x3)] [] (zsi h 6 x2.toNatClampNeg x1))) : zG M_J7_fill_53178 post (zat M_J7_fill_53178 5) [some (.ref 6), some (.int x1), some (.int x2), some (.int x3)] [] h := zsg_sound (cuts := [(5, [true, true, true, true])]) 11 t
theorem t_X6_changeTable_0 (a1 : Int32) (a2 : Int32) (a3 : Int32) (h : zH) (post : Option Value → zH → Prop) (t : vp_in (((a1 * (10 : Int32)) + a2) - (1 : Int32)) 30 ∧ (a3 < (h.1 2 (((a1 * (10 : Int32)) + a2) - (1 : Int32)).toNatClampNeg) → post (some (.int (-2 : Int32))) h) ∧ (¬ (a3 < (h.1 2 (((a1 * (10 : Int32)) + a2) - (1 : Int32)).toNatClampNeg)) → ((9 : Int32) ≤ a2 → vp_in ((a1 * (10 : Int32)) + a2) 30 ∧ vp_in ((a1 * (10 : Int32)) + a2) 30 ∧ (¬ a1 = (1 : Int32) → post (some (.int (h.1 2 ((a1 * (10 : Int32)) + a2).toNatClampNeg))) (zsi h 2 ((a1 * (10 : Int32)) + a2).toNatClampNeg a3)) ∧ (¬ ¬ a1 = (1 : Int32) → ∃ h1 : zH, R_J7_fill_53178 [.ref 6, .int (-1 : Int32)] (zsi h 2 ((a1 * (10 : Int32)) + a2).toNatClampNeg a3) none h1 ∧ post (some (.int (h.1 2 ((a1 * (10 : Int32)) + a2).toNatClampNeg))) h1)) ∧ (¬ ((9 : Int32) ≤ a2) → vp_in (((a1 * (10 : Int32)) + a2) + (1 : Int32)) 30 ∧ (a3 ≤ (h.1 2 (((a1 * (10 : Int32)) + a2) + (1 : Int32)).toNatClampNeg) → vp_in ((a1 * (10 : Int32)) + a2) 30 ∧ vp_in ((a1 * (10 : Int32)) + a2) 30 ∧ (¬ a1 = (1 : Int32) → post (some (.int (h.1 2 ((a1 * (10 : Int32)) + a2).toNatClampNeg))) (zsi h 2 ((a1 * (10 : Int32)) + a2).toNatClampNeg a3)) ∧ (¬ ¬ a1 = (1 : Int32) → ∃ h1 : zH, R_J7_fill_53178 [.ref 6, .int (-1 : Int32)] (zsi h 2 ((a1 * (10 : Int32)) + a2).toNatClampNeg a3) none h1 ∧ post (some (.int (h.1 2 ((a1 * (10 : Int32)) + a2).toNatClampNeg))) h1)) ∧ (¬ (a3 ≤ (h.1 2 (((a1 * (10 : Int32)) + a2) + (1 : Int32)).toNatClampNeg)) → post (some (.int (-2 : Int32))) h)))) : zG M_X6_changeTable post (M_X6_changeTable.1) [some (.ref 1), some (.int a1), some (.int a2), some (.int a3), none, none] [] h := zsg_sound (cuts := []) 45 t
theorem r_X6_changeTable (a1 : Int32) (a2 : Int32) (a3 : Int32) (h : zH) (o : Option Value) (h' : zH) (ho : ∃ v, o = some (.int v)) (t : zG M_X6_changeTable (fun r1 h1 => r1 = o ∧ h1 = h') M_X6_changeTable.1 [some (.ref 1), some (.int a1), some (.int a2), some (.int a3), none, none] [] h) : R_X6_changeTable [.ref 1, .int a1, .int a2, .int a3] h o h' := ⟨rfl, ho, t⟩
theorem t_X6_addWedge_0 (a1 : Int32) (a2 : Int32) (h : zH) (post : Option Value → zH → Prop) (t : ∃ (v1 : Int32) (h1 : zH), R_X6_hasWedge [.ref 1, .int a1, .int a2] h (some (.int v1)) h1 ∧ (v1 = 0 → vp_in a1 4 ∧ ((h1.1 5 a1.toNatClampNeg) < (3 : Int32) → vp_in ((a1 * (3 : Int32)) + (h1.1 5 a1.toNatClampNeg)) 12 ∧ vp_in ((a1 * (3 : Int32)) + (h1.1 5 a1.toNatClampNeg)) 12 ∧ vp_in a1 4 ∧ post (some (.int ((h1.1 5 a1.toNatClampNeg) + (1 : Int32)))) (zsi (zsi (zsi h1 4 ((a1 * (3 : Int32)) + (h1.1 5 a1.toNatClampNeg)).toNatClampNeg a2) 6 ((a1 * (3 : Int32)) + (h1.1 5 a1.toNatClampNeg)).toNatClampNeg (-1 : Int32)) 5 a1.toNatClampNeg ((h1.1 5 a1.toNatClampNeg) + (1 : Int32)))) ∧ (¬ ((h1.1 5 a1.toNatClampNeg) < (3 : Int32)) → post (some (.int (-3 : Int32))) h1)) ∧ (¬ (v1 = 0) → post (some (.int (-2 : Int32))) h1)) : zG M_X6_addWedge post (M_X6_addWedge.1) [some (.ref 1), some (.int a1), some (.int a2), none] [] h := zsg_sound (cuts := []) 43 t
theorem r_X6_addWedge (a1 : Int32) (a2 : Int32) (h : zH) (o : Option Value) (h' : zH) (ho : ∃ v, o = some (.int v)) (t : zG M_X6_addWedge (fun r1 h1 => r1 = o ∧ h1 = h') M_X6_addWedge.1 [some (.ref 1), some (.int a1), some (.int a2), none] [] h) : R_X6_addWedge [.ref 1, .int a1, .int a2] h o h' := ⟨rfl, ho, t⟩
theorem t_X6_wedgesInAll_0  (h : zH) (post : Option Value → zH → Prop) (t : zG M_X6_wedgesInAll post (zat M_X6_wedgesInAll 4) [some (.ref 1), some (.int (0 : Int32)), some (.int (0 : Int32))] [] h) : zG M_X6_wedgesInAll post (M_X6_wedgesInAll.1) [some (.ref 1), none, none] [] h := zsg_sound (cuts := [(4, [true, true, true])]) 6 t
theorem r_X6_wedgesInAll  (h : zH) (o : Option Value) (h' : zH) (ho : ∃ v, o = some (.int v)) (t : zG M_X6_wedgesInAll (fun r1 h1 => r1 = o ∧ h1 = h') M_X6_wedgesInAll.1 [some (.ref 1), none, none] [] h) : R_X6_wedgesInAll [.ref 1] h o h' := ⟨rfl, ho, t⟩
theorem t_X6_wedgesInAll_4 (x1 : Int32) (x2 : Int32) (h : zH) (post : Option Value → zH → Prop) (t : ((4 : Int32) ≤ x2 → post (some (.int x1)) h) ∧ (¬ ((4 : Int32) ≤ x2) → vp_in x2 4 ∧ zG M_X6_wedgesInAll post (zat M_X6_wedgesInAll 4) [some (.ref 1), some (.int (x1 + (h.1 5 x2.toNatClampNeg))), some (.int (x2 + (1 : Int32)))] [] h)) : zG M_X6_wedgesInAll post (zat M_X6_wedgesInAll 4) [some (.ref 1), some (.int x1), some (.int x2)] [] h := zsg_sound (cuts := [(4, [true, true, true])]) 14 t
theorem t_X7_within_0 (a1 : Int32) (a2 : Int32) (a3 : Int32) (h : zH) (post : Option Value → zH → Prop) (t : (a1 < a2 → post (some (.int (0 : Int32))) h) ∧ (¬ (a1 < a2) → (a3 < a1 → post (some (.int (0 : Int32))) h) ∧ (¬ (a3 < a1) → post (some (.int (1 : Int32))) h))) : zG M_X7_within post (M_X7_within.1) [some (.int a1), some (.int a2), some (.int a3)] [] h := zsg_sound (cuts := []) 10 t
theorem r_X7_within (a1 : Int32) (a2 : Int32) (a3 : Int32) (h : zH) (o : Option Value) (h' : zH) (ho : o = some (.int 0) ∨ o = some (.int 1)) (t : zG M_X7_within (fun r1 h1 => r1 = o ∧ h1 = h') M_X7_within.1 [some (.int a1), some (.int a2), some (.int a3)] [] h) : R_X7_within [.int a1, .int a2, .int a3] h o h' := ⟨rfl, ho, t⟩
theorem t_X7_table_0 (a1 : Int32) (a2 : Int32) (a3 : Int32) (h : zH) (post : Option Value → zH → Prop) (t : ∃ (v1 : Int32) (h1 : zH), R_X7_within [.int a1, .int (0 : Int32), .int (2 : Int32)] h (some (.int v1)) h1 ∧ (v1 = 0 → post (some (.int (-1 : Int32))) h1) ∧ (¬ (v1 = 0) → ∃ (v2 : Int32) (h2 : zH), R_X7_within [.int a2, .int (1 : Int32), .int (9 : Int32)] h1 (some (.int v2)) h2 ∧ (v2 = 0 → post (some (.int (-1 : Int32))) h2) ∧ (¬ (v2 = 0) → ∃ (v3 : Int32) (h3 : zH), R_X7_within [.int a3, .int (0 : Int32), .int ((100 : Int32) * a2)] h2 (some (.int v3)) h3 ∧ (¬ v3 = 0 → ∃ (v4 : Int32) (h4 : zH), R_X6_changeTable [.ref 1, .int a1, .int a2, .int a3] h3 (some (.int v4)) h4 ∧ post (some (.int v4)) h4) ∧ (¬ ¬ v3 = 0 → post (some (.int (-1 : Int32))) h3)))) : zG M_X7_table post (M_X7_table.1) [some (.ref 0), some (.int a1), some (.int a2), some (.int a3)] [] h := zsg_sound (cuts := []) 25 t
theorem r_X7_table (a1 : Int32) (a2 : Int32) (a3 : Int32) (h : zH) (o : Option Value) (h' : zH) (ho : ∃ v, o = some (.int v)) (t : zG M_X7_table (fun r1 h1 => r1 = o ∧ h1 = h') M_X7_table.1 [some (.ref 0), some (.int a1), some (.int a2), some (.int a3)] [] h) : R_X7_table [.ref 0, .int a1, .int a2, .int a3] h o h' := ⟨rfl, ho, t⟩
theorem t_X7_rule_0 (a1 : Int32) (a2 : Int32) (h : zH) (post : Option Value → zH → Prop) (t : ∃ (v1 : Int32) (h1 : zH), R_X7_within [.int a1, .int (0 : Int32), .int (4 : Int32)] h (some (.int v1)) h1 ∧ (v1 = 0 → post (some (.int (-1000 : Int32))) h1) ∧ (¬ (v1 = 0) → vp_in a1 5 ∧ vp_in a1 5 ∧ ∃ (v2 : Int32) (h2 : zH), R_X7_within [.int a2, .int (zRL a1.toNatClampNeg), .int (zRM a1.toNatClampNeg)] h1 (some (.int v2)) h2 ∧ (¬ v2 = 0 → vp_in a1 5 ∧ vp_in a1 5 ∧ post (some (.int (h2.1 3 a1.toNatClampNeg))) (zsi h2 3 a1.toNatClampNeg a2)) ∧ (¬ ¬ v2 = 0 → post (some (.int (-1000 : Int32))) h2))) : zG M_X7_rule post (M_X7_rule.1) [some (.ref 0), some (.int a1), some (.int a2), none] [] h := zsg_sound (cuts := []) 29 t
theorem r_X7_rule (a1 : Int32) (a2 : Int32) (h : zH) (o : Option Value) (h' : zH) (ho : ∃ v, o = some (.int v)) (t : zG M_X7_rule (fun r1 h1 => r1 = o ∧ h1 = h') M_X7_rule.1 [some (.ref 0), some (.int a1), some (.int a2), none] [] h) : R_X7_rule [.ref 0, .int a1, .int a2] h o h' := ⟨rfl, ho, t⟩
theorem t_X7_isColour_0 (a1 : Int32) (h : zH) (post : Option Value → zH → Prop) (t : ∃ (v1 : Int32) (h1 : zH), R_X7_within [.int a1, .int (0 : Int32), .int (3 : Int32)] h (some (.int v1)) h1 ∧ post (some (.int v1)) h1) : zG M_X7_isColour post (M_X7_isColour.1) [some (.int a1)] [] h := zsg_sound (cuts := []) 6 t
theorem r_X7_isColour (a1 : Int32) (h : zH) (o : Option Value) (h' : zH) (ho : o = some (.int 0) ∨ o = some (.int 1)) (t : zG M_X7_isColour (fun r1 h1 => r1 = o ∧ h1 = h') M_X7_isColour.1 [some (.int a1)] [] h) : R_X7_isColour [.int a1] h o h' := ⟨rfl, ho, t⟩
theorem t_X7_isRight_0 (a1 : Int32) (h : zH) (post : Option Value → zH → Prop) (t : ∃ (v1 : Int32) (h1 : zH), R_X7_within [.int a1, .int (0 : Int32), .int (900 : Int32)] h (some (.int v1)) h1 ∧ post (some (.int v1)) h1) : zG M_X7_isRight post (M_X7_isRight.1) [some (.int a1)] [] h := zsg_sound (cuts := []) 6 t
theorem r_X7_isRight (a1 : Int32) (h : zH) (o : Option Value) (h' : zH) (ho : o = some (.int 0) ∨ o = some (.int 1)) (t : zG M_X7_isRight (fun r1 h1 => r1 = o ∧ h1 = h') M_X7_isRight.1 [some (.int a1)] [] h) : R_X7_isRight [.int a1] h o h' := ⟨rfl, ho, t⟩
theorem t_X7_inside_0 (a1 : Int32) (a2 : Int32) (a3 : Int32) (h : zH) (post : Option Value → zH → Prop) (t : ∃ (v1 : Int32) (h1 : zH), R_X7_within [.int a1, .int (0 : Int32), .int (2 : Int32)] h (some (.int v1)) h1 ∧ (v1 = 0 → post (some (.int (-1 : Int32))) h1) ∧ (¬ (v1 = 0) → ∃ (v2 : Int32) (h2 : zH), R_X7_isColour [.int a2] h1 (some (.int v2)) h2 ∧ (v2 = 0 → post (some (.int (-1 : Int32))) h2) ∧ (¬ (v2 = 0) → ∃ (v3 : Int32) (h3 : zH), R_X7_isRight [.int a3] h2 (some (.int v3)) h3 ∧ (¬ v3 = 0 → ∃ (v4 : Int32) (h4 : zH), R_X6_bent [.ref 1, .int a1, .int a2, .int a3] h3 (some (.int v4)) h4 ∧ post (some (.int v4)) h4) ∧ (¬ ¬ v3 = 0 → post (some (.int (-1 : Int32))) h3)))) : zG M_X7_inside post (M_X7_inside.1) [some (.ref 0), some (.int a1), some (.int a2), some (.int a3)] [] h := zsg_sound (cuts := []) 19 t
theorem r_X7_inside (a1 : Int32) (a2 : Int32) (a3 : Int32) (h : zH) (o : Option Value) (h' : zH) (ho : ∃ v, o = some (.int v)) (t : zG M_X7_inside (fun r1 h1 => r1 = o ∧ h1 = h') M_X7_inside.1 [some (.ref 0), some (.int a1), some (.int a2), some (.int a3)] [] h) : R_X7_inside [.ref 0, .int a1, .int a2, .int a3] h o h' := ⟨rfl, ho, t⟩
theorem t_X7_outside_0 (a1 : Int32) (a2 : Int32) (a3 : Int32) (h : zH) (post : Option Value → zH → Prop) (t : ∃ (v1 : Int32) (h1 : zH), R_X7_within [.int a1, .int (0 : Int32), .int (2 : Int32)] h (some (.int v1)) h1 ∧ (v1 = 0 → post (some (.int (-1 : Int32))) h1) ∧ (¬ (v1 = 0) → ∃ (v2 : Int32) (h2 : zH), R_X7_isColour [.int a2] h1 (some (.int v2)) h2 ∧ (v2 = 0 → post (some (.int (-1 : Int32))) h2) ∧ (¬ (v2 = 0) → ∃ (v3 : Int32) (h3 : zH), R_X7_isRight [.int a3] h2 (some (.int v3)) h3 ∧ (¬ v3 = 0 → ∃ (v4 : Int32) (h4 : zH), R_X6_unbent [.ref 1, .int a1, .int a2, .int a3] h3 (some (.int v4)) h4 ∧ post (some (.int v4)) h4) ∧ (¬ ¬ v3 = 0 → post (some (.int (-1 : Int32))) h3)))) : zG M_X7_outside post (M_X7_outside.1) [some (.ref 0), some (.int a1), some (.int a2), some (.int a3)] [] h := zsg_sound (cuts := []) 19 t
theorem r_X7_outside (a1 : Int32) (a2 : Int32) (a3 : Int32) (h : zH) (o : Option Value) (h' : zH) (ho : ∃ v, o = some (.int v)) (t : zG M_X7_outside (fun r1 h1 => r1 = o ∧ h1 = h') M_X7_outside.1 [some (.ref 0), some (.int a1), some (.int a2), some (.int a3)] [] h) : R_X7_outside [.ref 0, .int a1, .int a2, .int a3] h o h' := ⟨rfl, ho, t⟩
theorem t_X7_isMirrors_0 (a1 : Int32) (h : zH) (post : Option Value → zH → Prop) (t : ∃ (v1 : Int32) (h1 : zH), R_X7_within [.int a1, .int (0 : Int32), .int (5 : Int32)] h (some (.int v1)) h1 ∧ post (some (.int v1)) h1) : zG M_X7_isMirrors post (M_X7_isMirrors.1) [some (.int a1)] [] h := zsg_sound (cuts := []) 6 t
theorem r_X7_isMirrors (a1 : Int32) (h : zH) (o : Option Value) (h' : zH) (ho : o = some (.int 0) ∨ o = some (.int 1)) (t : zG M_X7_isMirrors (fun r1 h1 => r1 = o ∧ h1 = h') M_X7_isMirrors.1 [some (.int a1)] [] h) : R_X7_isMirrors [.int a1] h o h' := ⟨rfl, ho, t⟩
theorem t_X7_ray_0 (a1 : Int32) (a2 : Int32) (a3 : Int32) (a4 : Int32) (h : zH) (post : Option Value → zH → Prop) (t : ∃ (v1 : Int32) (h1 : zH), R_X7_isMirrors [.int a1] h (some (.int v1)) h1 ∧ (v1 = 0 → post (some (.int (-100000 : Int32))) h1) ∧ (¬ (v1 = 0) → ∃ (v2 : Int32) (h2 : zH), R_X7_isColour [.int a2] h1 (some (.int v2)) h2 ∧ (v2 = 0 → post (some (.int (-100000 : Int32))) h2) ∧ (¬ (v2 = 0) → ∃ (v3 : Int32) (h3 : zH), R_X7_isRight [.int a3] h2 (some (.int v3)) h3 ∧ (v3 = 0 → post (some (.int (-100000 : Int32))) h3) ∧ (¬ (v3 = 0) → ∃ (v4 : Int32) (h4 : zH), R_X7_within [.int a4, .int (0 : Int32), .int (4 : Int32)] h3 (some (.int v4)) h4 ∧ (¬ v4 = 0 → (a4.toInt < 0 ∨ 3 < a4.toInt → ∃ (v5 : Int32) (h5 : zH), R_X3_lightIn [.ref 26, .int a3] h4 (some (.int v5)) h5 ∧ ∃ (v6 : Int32) (h6 : zH), R_X3_lightOut [.ref 26, .int a1, .int a3] h5 (some (.int v6)) h6 ∧ post (some (.int (v5 - v6))) h6) ∧ (a4.toInt = 0 → ∃ (v5 : Int32) (h5 : zH), R_X3_turnOf [.ref 26, .int a1, .int a2, .int a3] h4 (some (.int v5)) h5 ∧ post (some (.int v5)) h5) ∧ (a4.toInt = 1 → ∃ (v5 : Int32) (h5 : zH), R_X3_fromSun [.ref 26, .int a1, .int a2, .int a3] h4 (some (.int v5)) h5 ∧ post (some (.int v5)) h5) ∧ (a4.toInt = 2 → ∃ (v5 : Int32) (h5 : zH), R_X3_lightIn [.ref 26, .int a3] h4 (some (.int v5)) h5 ∧ post (some (.int v5)) h5) ∧ (a4.toInt = 3 → ∃ (v5 : Int32) (h5 : zH), R_X3_lightOut [.ref 26, .int a1, .int a3] h4 (some (.int v5)) h5 ∧ post (some (.int v5)) h5) ∧ True) ∧ (¬ ¬ v4 = 0 → post (some (.int (-100000 : Int32))) h4))))) : zG M_X7_ray post (M_X7_ray.1) [some (.ref 0), some (.int a1), some (.int a2), some (.int a3), some (.int a4)] [] h := zsg_sound (cuts := []) 28 t
theorem r_X7_ray (a1 : Int32) (a2 : Int32) (a3 : Int32) (a4 : Int32) (h : zH) (o : Option Value) (h' : zH) (ho : ∃ v, o = some (.int v)) (t : zG M_X7_ray (fun r1 h1 => r1 = o ∧ h1 = h') M_X7_ray.1 [some (.ref 0), some (.int a1), some (.int a2), some (.int a3), some (.int a4)] [] h) : R_X7_ray [.ref 0, .int a1, .int a2, .int a3, .int a4] h o h' := ⟨rfl, ho, t⟩
theorem t_X7_map_0 (a1 : Int32) (a2 : Int32) (a3 : Int32) (h : zH) (post : Option Value → zH → Prop) (t : ∃ (v1 : Int32) (h1 : zH), R_X7_isMirrors [.int a1] h (some (.int v1)) h1 ∧ (v1 = 0 → post (some (.long (-1 : Int64))) h1) ∧ (¬ (v1 = 0) → ∃ (v2 : Int32) (h2 : zH), R_X7_isColour [.int a2] h1 (some (.int v2)) h2 ∧ (v2 = 0 → post (some (.long (-1 : Int64))) h2) ∧ (¬ (v2 = 0) → ∃ (v3 : Int32) (h3 : zH), R_X7_within [.int a3, .int (0 : Int32), .int (180 : Int32)] h2 (some (.int v3)) h3 ∧ (¬ v3 = 0 → ∃ h4 : zH, R_X3_fillSky [.ref 26, .ref 27, .int a1, .int a2] h3 none h4 ∧ vp_in a3 181 ∧ post (some (.long (h4.2 27 a3.toNatClampNeg))) h4) ∧ (¬ ¬ v3 = 0 → post (some (.long (-1 : Int64))) h3)))) : zG M_X7_map post (M_X7_map.1) [some (.ref 0), some (.int a1), some (.int a2), some (.int a3)] [] h := zsg_sound (cuts := []) 26 t
theorem r_X7_map (a1 : Int32) (a2 : Int32) (a3 : Int32) (h : zH) (o : Option Value) (h' : zH) (ho : ∃ v, o = some (.long v)) (t : zG M_X7_map (fun r1 h1 => r1 = o ∧ h1 = h') M_X7_map.1 [some (.ref 0), some (.int a1), some (.int a2), some (.int a3)] [] h) : R_X7_map [.ref 0, .int a1, .int a2, .int a3] h o h' := ⟨rfl, ho, t⟩
theorem t_X7_bow_0 (a1 : Int32) (a2 : Int32) (a3 : Int32) (a4 : Int32) (h : zH) (post : Option Value → zH → Prop) (t : ∃ (v1 : Int32) (h1 : zH), R_X7_isMirrors [.int a1] h (some (.int v1)) h1 ∧ (v1 = 0 → post (some (.int (-1000000 : Int32))) h1) ∧ (¬ (v1 = 0) → ∃ (v2 : Int32) (h2 : zH), R_X7_isColour [.int a2] h1 (some (.int v2)) h2 ∧ (v2 = 0 → post (some (.int (-1000000 : Int32))) h2) ∧ (¬ (v2 = 0) → ∃ (v3 : Int32) (h3 : zH), R_X7_isRight [.int a3] h2 (some (.int v3)) h3 ∧ (v3 = 0 → post (some (.int (-1000000 : Int32))) h3) ∧ (¬ (v3 = 0) → ∃ (v4 : Int32) (h4 : zH), R_X7_within [.int a4, .int (0 : Int32), .int (2 : Int32)] h3 (some (.int v4)) h4 ∧ (¬ v4 = 0 → ∃ h5 : zH, R_X3_fillSky [.ref 26, .ref 27, .int a1, .int a2] h4 none h5 ∧ ∃ (v6 : Int32) (h6 : zH), R_X3_brightest [.ref 26, .ref 27] h5 (some (.int v6)) h6 ∧ (¬ a4 = (2 : Int32) → (v6 = (-4 : Int32) → post (some (.int v6)) h6) ∧ (¬ (v6 = (-4 : Int32)) → (¬ a4 = 0 → ∃ (v7 : Int32) (h7 : zH), R_X3_broad [.ref 26, .ref 27, .int v6] h6 (some (.int v7)) h7 ∧ post (some (.int v7)) h7) ∧ (¬ ¬ a4 = 0 → post (some (.int v6)) h6))) ∧ (¬ ¬ a4 = (2 : Int32) → (v6 = (-4 : Int32) → post (some (.int (-100000 : Int32))) h6) ∧ (¬ (v6 = (-4 : Int32)) → (0 ≤ (((1800 : Int32) - ((10 : Int32) * v6)) - a3) → post (some (.int (((1800 : Int32) - ((10 : Int32) * v6)) - a3))) h6) ∧ (¬ (0 ≤ (((1800 : Int32) - ((10 : Int32) * v6)) - a3)) → post (some (.int (-100000 : Int32))) h6)))) ∧ (¬ ¬ v4 = 0 → post (some (.int (-1000000 : Int32))) h4))))) : zG M_X7_bow post (M_X7_bow.1) [some (.ref 0), some (.int a1), some (.int a2), some (.int a3), some (.int a4), none, none] [] h := zsg_sound (cuts := []) 49 t
theorem r_X7_bow (a1 : Int32) (a2 : Int32) (a3 : Int32) (a4 : Int32) (h : zH) (o : Option Value) (h' : zH) (ho : ∃ v, o = some (.int v)) (t : zG M_X7_bow (fun r1 h1 => r1 = o ∧ h1 = h') M_X7_bow.1 [some (.ref 0), some (.int a1), some (.int a2), some (.int a3), some (.int a4), none, none] [] h) : R_X7_bow [.ref 0, .int a1, .int a2, .int a3, .int a4] h o h' := ⟨rfl, ho, t⟩
theorem t_X7_dark_0 (a1 : Int32) (a2 : Int32) (h : zH) (post : Option Value → zH → Prop) (t : ∃ (v1 : Int32) (h1 : zH), R_X7_isMirrors [.int a1] h (some (.int v1)) h1 ∧ (v1 = 0 → post (some (.int (-1 : Int32))) h1) ∧ (¬ (v1 = 0) → ∃ (v2 : Int32) (h2 : zH), R_X7_isMirrors [.int a2] h1 (some (.int v2)) h2 ∧ (v2 = 0 → post (some (.int (-1 : Int32))) h2) ∧ (¬ (v2 = 0) → (¬ a1 = a2 → ∃ (v3 : Int32) (h3 : zH), R_X3_widestDark [.ref 26, .int a1, .int a2] h2 (some (.int v3)) h3 ∧ post (some (.int v3)) h3) ∧ (¬ ¬ a1 = a2 → post (some (.int (-1 : Int32))) h2)))) : zG M_X7_dark post (M_X7_dark.1) [some (.ref 0), some (.int a1), some (.int a2)] [] h := zsg_sound (cuts := []) 16 t
theorem r_X7_dark (a1 : Int32) (a2 : Int32) (h : zH) (o : Option Value) (h' : zH) (ho : ∃ v, o = some (.int v)) (t : zG M_X7_dark (fun r1 h1 => r1 = o ∧ h1 = h') M_X7_dark.1 [some (.ref 0), some (.int a1), some (.int a2)] [] h) : R_X7_dark [.ref 0, .int a1, .int a2] h o h' := ⟨rfl, ho, t⟩
theorem t_X7_wedge_0 (a1 : Int32) (a2 : Int32) (h : zH) (post : Option Value → zH → Prop) (t : ∃ (v1 : Int32) (h1 : zH), R_X7_within [.int a1, .int (0 : Int32), .int (3 : Int32)] h (some (.int v1)) h1 ∧ (v1 = 0 → post (some (.int (-1 : Int32))) h1) ∧ (¬ (v1 = 0) → ∃ (v2 : Int32) (h2 : zH), R_X7_within [.int a2, .int (200 : Int32), .int (1200 : Int32)] h1 (some (.int v2)) h2 ∧ (¬ v2 = 0 → ∃ (v3 : Int32) (h3 : zH), R_X6_addWedge [.ref 1, .int a1, .int a2] h2 (some (.int v3)) h3 ∧ post (some (.int v3)) h3) ∧ (¬ ¬ v2 = 0 → post (some (.int (-1 : Int32))) h2))) : zG M_X7_wedge post (M_X7_wedge.1) [some (.ref 0), some (.int a1), some (.int a2)] [] h := zsg_sound (cuts := []) 17 t
theorem r_X7_wedge (a1 : Int32) (a2 : Int32) (h : zH) (o : Option Value) (h' : zH) (ho : ∃ v, o = some (.int v)) (t : zG M_X7_wedge (fun r1 h1 => r1 = o ∧ h1 = h') M_X7_wedge.1 [some (.ref 0), some (.int a1), some (.int a2)] [] h) : R_X7_wedge [.ref 0, .int a1, .int a2] h o h' := ⟨rfl, ho, t⟩
theorem t_X7_noWedges_0 (a1 : Int32) (h : zH) (post : Option Value → zH → Prop) (t : ∃ (v1 : Int32) (h1 : zH), R_X7_within [.int a1, .int (0 : Int32), .int (3 : Int32)] h (some (.int v1)) h1 ∧ (¬ v1 = 0 → vp_in a1 4 ∧ vp_in a1 4 ∧ post (some (.int (h1.1 5 a1.toNatClampNeg))) (zsi h1 5 a1.toNatClampNeg (0 : Int32))) ∧ (¬ ¬ v1 = 0 → post (some (.int (-1 : Int32))) h1)) : zG M_X7_noWedges post (M_X7_noWedges.1) [some (.ref 0), some (.int a1), none] [] h := zsg_sound (cuts := []) 20 t
theorem r_X7_noWedges (a1 : Int32) (h : zH) (o : Option Value) (h' : zH) (ho : ∃ v, o = some (.int v)) (t : zG M_X7_noWedges (fun r1 h1 => r1 = o ∧ h1 = h') M_X7_noWedges.1 [some (.ref 0), some (.int a1), none] [] h) : R_X7_noWedges [.ref 0, .int a1] h o h' := ⟨rfl, ho, t⟩
theorem t_X7_turned_0 (a1 : Int32) (a2 : Int32) (a3 : Int32) (h : zH) (post : Option Value → zH → Prop) (t : ∃ (v1 : Int32) (h1 : zH), R_X7_within [.int a1, .int (200 : Int32), .int (1200 : Int32)] h (some (.int v1)) h1 ∧ (v1 = 0 → post (some (.int (-100000 : Int32))) h1) ∧ (¬ (v1 = 0) → ∃ (v2 : Int32) (h2 : zH), R_X7_isColour [.int a2] h1 (some (.int v2)) h2 ∧ (v2 = 0 → post (some (.int (-100000 : Int32))) h2) ∧ (¬ (v2 = 0) → ∃ (v3 : Int32) (h3 : zH), R_X7_isRight [.int a3] h2 (some (.int v3)) h3 ∧ (¬ v3 = 0 → ∃ (v4 : Int32) (h4 : zH), R_X4_turnOf [.ref 29, .int a1, .int a2, .int a3] h3 (some (.int v4)) h4 ∧ post (some (.int v4)) h4) ∧ (¬ ¬ v3 = 0 → post (some (.int (-100000 : Int32))) h3)))) : zG M_X7_turned post (M_X7_turned.1) [some (.ref 0), some (.int a1), some (.int a2), some (.int a3)] [] h := zsg_sound (cuts := []) 19 t
theorem r_X7_turned (a1 : Int32) (a2 : Int32) (a3 : Int32) (h : zH) (o : Option Value) (h' : zH) (ho : ∃ v, o = some (.int v)) (t : zG M_X7_turned (fun r1 h1 => r1 = o ∧ h1 = h') M_X7_turned.1 [some (.ref 0), some (.int a1), some (.int a2), some (.int a3)] [] h) : R_X7_turned [.ref 0, .int a1, .int a2, .int a3] h o h' := ⟨rfl, ho, t⟩
theorem t_X7_ring_0 (a1 : Int32) (a2 : Int32) (h : zH) (post : Option Value → zH → Prop) (t : ∃ (v1 : Int32) (h1 : zH), R_X7_within [.int a1, .int (200 : Int32), .int (1200 : Int32)] h (some (.int v1)) h1 ∧ (v1 = 0 → post (some (.int (-100000 : Int32))) h1) ∧ (¬ (v1 = 0) → ∃ (v2 : Int32) (h2 : zH), R_X7_isColour [.int a2] h1 (some (.int v2)) h2 ∧ (¬ v2 = 0 → ∃ (v3 : Int32) (h3 : zH), R_X4_leastTurn [.ref 29, .int a1, .int a2] h2 (some (.int v3)) h3 ∧ post (some (.int v3)) h3) ∧ (¬ ¬ v2 = 0 → post (some (.int (-100000 : Int32))) h2))) : zG M_X7_ring post (M_X7_ring.1) [some (.ref 0), some (.int a1), some (.int a2)] [] h := zsg_sound (cuts := []) 15 t
theorem r_X7_ring (a1 : Int32) (a2 : Int32) (h : zH) (o : Option Value) (h' : zH) (ho : ∃ v, o = some (.int v)) (t : zG M_X7_ring (fun r1 h1 => r1 = o ∧ h1 = h') M_X7_ring.1 [some (.ref 0), some (.int a1), some (.int a2)] [] h) : R_X7_ring [.ref 0, .int a1, .int a2] h o h' := ⟨rfl, ho, t⟩
theorem t_X7_isCause_0 (a1 : Int32) (h : zH) (post : Option Value → zH → Prop) (t : ∃ (v1 : Int32) (h1 : zH), R_X7_within [.int a1, .int (0 : Int32), .int (15 : Int32)] h (some (.int v1)) h1 ∧ post (some (.int v1)) h1) : zG M_X7_isCause post (M_X7_isCause.1) [some (.int a1)] [] h := zsg_sound (cuts := []) 6 t
theorem r_X7_isCause (a1 : Int32) (h : zH) (o : Option Value) (h' : zH) (ho : o = some (.int 0) ∨ o = some (.int 1)) (t : zG M_X7_isCause (fun r1 h1 => r1 = o ∧ h1 = h') M_X7_isCause.1 [some (.int a1)] [] h) : R_X7_isCause [.int a1] h o h' := ⟨rfl, ho, t⟩
theorem t_X7_light_0 (a1 : Int32) (a2 : Int32) (a3 : Int32) (a4 : Int32) (h : zH) (post : Option Value → zH → Prop) (t : ∃ (v1 : Int32) (h1 : zH), R_X7_isCause [.int a1] h (some (.int v1)) h1 ∧ (v1 = 0 → post (some (.int (-1 : Int32))) h1) ∧ (¬ (v1 = 0) → ∃ (v2 : Int32) (h2 : zH), R_X7_isRight [.int a2] h1 (some (.int v2)) h2 ∧ (v2 = 0 → post (some (.int (-1 : Int32))) h2) ∧ (¬ (v2 = 0) → (a3 < (-1 : Int32) → post (some (.int (-1 : Int32))) h2) ∧ (¬ (a3 < (-1 : Int32)) → ∃ (v3 : Int32) (h3 : zH), R_X7_within [.int a4, .int (0 : Int32), .int (3 : Int32)] h2 (some (.int v3)) h3 ∧ (¬ v3 = 0 → ∃ h4 : zH, R_X4_lightUp [.ref 29, .int a1, .int a2] h3 none h4 ∧ (¬ a3 = (-1 : Int32) → ((h4.1 30 1) ≤ a3 → post (some (.int (-4 : Int32))) h4) ∧ (¬ ((h4.1 30 1) ≤ a3) → ∃ (v5 : Int32) (h5 : zH), R_X5_part [.ref 30, .int a3, .int a4] h4 (some (.int v5)) h5 ∧ post (some (.int v5)) h5)) ∧ (¬ ¬ a3 = (-1 : Int32) → post (some (.int (h4.1 30 1))) h4)) ∧ (¬ ¬ v3 = 0 → post (some (.int (-1 : Int32))) h3))))) : zG M_X7_light post (M_X7_light.1) [some (.ref 0), some (.int a1), some (.int a2), some (.int a3), some (.int a4)] [] h := zsg_sound (cuts := []) 37 t
theorem r_X7_light (a1 : Int32) (a2 : Int32) (a3 : Int32) (a4 : Int32) (h : zH) (o : Option Value) (h' : zH) (ho : ∃ v, o = some (.int v)) (t : zG M_X7_light (fun r1 h1 => r1 = o ∧ h1 = h') M_X7_light.1 [some (.ref 0), some (.int a1), some (.int a2), some (.int a3), some (.int a4)] [] h) : R_X7_light [.ref 0, .int a1, .int a2, .int a3, .int a4] h o h' := ⟨rfl, ho, t⟩
theorem t_X7_mark_0 (a1 : Int32) (a2 : Int32) (a3 : Int32) (a4 : Int32) (h : zH) (post : Option Value → zH → Prop) (t : ∃ (v1 : Int32) (h1 : zH), R_X7_within [.int a1, .int (-1 : Int32), .int (3 : Int32)] h (some (.int v1)) h1 ∧ (v1 = 0 → post (some (.int (-1 : Int32))) h1) ∧ (¬ (v1 = 0) → ∃ (v2 : Int32) (h2 : zH), R_X7_within [.int a2, .int (-1 : Int32), .int (3 : Int32)] h1 (some (.int v2)) h2 ∧ (v2 = 0 → post (some (.int (-1 : Int32))) h2) ∧ (¬ (v2 = 0) → ∃ (v3 : Int32) (h3 : zH), R_X7_within [.int a3, .int (0 : Int32), .int (1800 : Int32)] h2 (some (.int v3)) h3 ∧ (v3 = 0 → post (some (.int (-1 : Int32))) h3) ∧ (¬ (v3 = 0) → ∃ (v4 : Int32) (h4 : zH), R_X7_within [.int a4, .int (0 : Int32), .int (200 : Int32)] h3 (some (.int v4)) h4 ∧ (¬ v4 = 0 → ∃ (v5 : Int32) (h5 : zH), R_X2_addMark [.ref 32, .int a1, .int a2, .int a3, .int a4] h4 (some (.int v5)) h5 ∧ post (some (.int v5)) h5) ∧ (¬ ¬ v4 = 0 → post (some (.int (-1 : Int32))) h4))))) : zG M_X7_mark post (M_X7_mark.1) [some (.ref 0), some (.int a1), some (.int a2), some (.int a3), some (.int a4)] [] h := zsg_sound (cuts := []) 29 t
theorem r_X7_mark (a1 : Int32) (a2 : Int32) (a3 : Int32) (a4 : Int32) (h : zH) (o : Option Value) (h' : zH) (ho : ∃ v, o = some (.int v)) (t : zG M_X7_mark (fun r1 h1 => r1 = o ∧ h1 = h') M_X7_mark.1 [some (.ref 0), some (.int a1), some (.int a2), some (.int a3), some (.int a4)] [] h) : R_X7_mark [.ref 0, .int a1, .int a2, .int a3, .int a4] h o h' := ⟨rfl, ho, t⟩
theorem t_X7_wipe_0  (h : zH) (post : Option Value → zH → Prop) (t : post (some (.int (h.1 32 2))) (zsi h 32 2 (0 : Int32))) : zG M_X7_wipe post (M_X7_wipe.1) [some (.ref 0), none] [] h := zsg_sound (cuts := []) 11 t
theorem r_X7_wipe  (h : zH) (o : Option Value) (h' : zH) (ho : ∃ v, o = some (.int v)) (t : zG M_X7_wipe (fun r1 h1 => r1 = o ∧ h1 = h') M_X7_wipe.1 [some (.ref 0), none] [] h) : R_X7_wipe [.ref 0] h o h' := ⟨rfl, ho, t⟩
theorem t_X7_isSet_0 (a1 : Int32) (h : zH) (post : Option Value → zH → Prop) (t : ∃ (v1 : Int32) (h1 : zH), R_X7_within [.int a1, .int (0 : Int32), .int (65535 : Int32)] h (some (.int v1)) h1 ∧ post (some (.int v1)) h1) : zG M_X7_isSet post (M_X7_isSet.1) [some (.int a1)] [] h := zsg_sound (cuts := []) 6 t
theorem r_X7_isSet (a1 : Int32) (h : zH) (o : Option Value) (h' : zH) (ho : o = some (.int 0) ∨ o = some (.int 1)) (t : zG M_X7_isSet (fun r1 h1 => r1 = o ∧ h1 = h') M_X7_isSet.1 [some (.int a1)] [] h) : R_X7_isSet [.int a1] h o h' := ⟨rfl, ho, t⟩
theorem t_X7_explains_0 (a1 : Int32) (a2 : Int32) (h : zH) (post : Option Value → zH → Prop) (t : ∃ (v1 : Int32) (h1 : zH), R_X7_isSet [.int a1] h (some (.int v1)) h1 ∧ (v1 = 0 → post (some (.int (-1 : Int32))) h1) ∧ (¬ (v1 = 0) → ∃ (v2 : Int32) (h2 : zH), R_X7_isRight [.int a2] h1 (some (.int v2)) h2 ∧ (¬ v2 = 0 → ∃ (v3 : Int32) (h3 : zH), R_X2_isExplained [.ref 32, .int a1, .int a2] h2 (some (.int v3)) h3 ∧ (v3 = 0 → post (some (.int (0 : Int32))) h3) ∧ (¬ (v3 = 0) → post (some (.int (1 : Int32))) h3)) ∧ (¬ ¬ v2 = 0 → post (some (.int (-1 : Int32))) h2))) : zG M_X7_explains post (M_X7_explains.1) [some (.ref 0), some (.int a1), some (.int a2)] [] h := zsg_sound (cuts := []) 16 t
theorem r_X7_explains (a1 : Int32) (a2 : Int32) (h : zH) (o : Option Value) (h' : zH) (ho : ∃ v, o = some (.int v)) (t : zG M_X7_explains (fun r1 h1 => r1 = o ∧ h1 = h') M_X7_explains.1 [some (.ref 0), some (.int a1), some (.int a2)] [] h) : R_X7_explains [.ref 0, .int a1, .int a2] h o h' := ⟨rfl, ho, t⟩
theorem t_X7_fewest_0 (a1 : Int32) (h : zH) (post : Option Value → zH → Prop) (t : ∃ (v1 : Int32) (h1 : zH), R_X7_isRight [.int a1] h (some (.int v1)) h1 ∧ (¬ v1 = 0 → ∃ (v2 : Int32) (h2 : zH), R_X2_leastCover [.ref 32, .int a1] h1 (some (.int v2)) h2 ∧ post (some (.int v2)) h2) ∧ (¬ ¬ v1 = 0 → post (some (.int (-1 : Int32))) h1)) : zG M_X7_fewest post (M_X7_fewest.1) [some (.ref 0), some (.int a1)] [] h := zsg_sound (cuts := []) 9 t
theorem r_X7_fewest (a1 : Int32) (h : zH) (o : Option Value) (h' : zH) (ho : ∃ v, o = some (.int v)) (t : zG M_X7_fewest (fun r1 h1 => r1 = o ∧ h1 = h') M_X7_fewest.1 [some (.ref 0), some (.int a1)] [] h) : R_X7_fewest [.ref 0, .int a1] h o h' := ⟨rfl, ho, t⟩
theorem t_X7_owed_0 (a1 : Int32) (a2 : Int32) (h : zH) (post : Option Value → zH → Prop) (t : ∃ (v1 : Int32) (h1 : zH), R_X7_isSet [.int a1] h (some (.int v1)) h1 ∧ (v1 = 0 → post (some (.int (-1 : Int32))) h1) ∧ (¬ (v1 = 0) → ∃ (v2 : Int32) (h2 : zH), R_X7_isRight [.int a2] h1 (some (.int v2)) h2 ∧ (¬ v2 = 0 → ∃ (v3 : Int32) (h3 : zH), R_X2_unseen [.ref 32, .int a1, .int a2] h2 (some (.int v3)) h3 ∧ post (some (.int v3)) h3) ∧ (¬ ¬ v2 = 0 → post (some (.int (-1 : Int32))) h2))) : zG M_X7_owed post (M_X7_owed.1) [some (.ref 0), some (.int a1), some (.int a2)] [] h := zsg_sound (cuts := []) 13 t
theorem r_X7_owed (a1 : Int32) (a2 : Int32) (h : zH) (o : Option Value) (h' : zH) (ho : ∃ v, o = some (.int v)) (t : zG M_X7_owed (fun r1 h1 => r1 = o ∧ h1 = h') M_X7_owed.1 [some (.ref 0), some (.int a1), some (.int a2)] [] h) : R_X7_owed [.ref 0, .int a1, .int a2] h o h' := ⟨rfl, ho, t⟩
theorem t_X7_never_0  (h : zH) (post : Option Value → zH → Prop) (t : ∃ (v1 : Int32) (h1 : zH), R_X2_marksNeverMet [.ref 32] h (some (.int v1)) h1 ∧ post (some (.int v1)) h1) : zG M_X7_never post (M_X7_never.1) [some (.ref 0)] [] h := zsg_sound (cuts := []) 5 t
theorem r_X7_never  (h : zH) (o : Option Value) (h' : zH) (ho : ∃ v, o = some (.int v)) (t : zG M_X7_never (fun r1 h1 => r1 = o ∧ h1 = h') M_X7_never.1 [some (.ref 0)] [] h) : R_X7_never [.ref 0] h o h' := ⟨rfl, ho, t⟩
theorem t_X7_heights_0 (a1 : Int32) (a2 : Int32) (h : zH) (post : Option Value → zH → Prop) (t : ∃ (v1 : Int32) (h1 : zH), R_X7_isSet [.int a1] h (some (.int v1)) h1 ∧ (v1 = 0 → post (some (.int (-1 : Int32))) h1) ∧ (¬ (v1 = 0) → ((-1 : Int32) ≤ a2 → zG M_X7_heights post (zat M_X7_heights 19) [some (.ref 0), some (.int a1), some (.int a2), some (.int (0 : Int32)), some (.int (0 : Int32))] [] h1) ∧ (¬ ((-1 : Int32) ≤ a2) → post (some (.int (-1 : Int32))) h1))) : zG M_X7_heights post (M_X7_heights.1) [some (.ref 0), some (.int a1), some (.int a2), none, none] [] h := zsg_sound (cuts := [(19, [true, true, true, true, true])]) 12 t
theorem r_X7_heights (a1 : Int32) (a2 : Int32) (h : zH) (o : Option Value) (h' : zH) (ho : ∃ v, o = some (.int v)) (t : zG M_X7_heights (fun r1 h1 => r1 = o ∧ h1 = h') M_X7_heights.1 [some (.ref 0), some (.int a1), some (.int a2), none, none] [] h) : R_X7_heights [.ref 0, .int a1, .int a2] h o h' := ⟨rfl, ho, t⟩
theorem t_X7_heights_19 (x1 : Int32) (x2 : Int32) (x3 : Int32) (x4 : Int32) (h : zH) (post : Option Value → zH → Prop) (t : ((900 : Int32) < x4 → (¬ x2 = (-1 : Int32) → post (some (.int (-4 : Int32))) h) ∧ (¬ ¬ x2 = (-1 : Int32) → post (some (.int x3)) h)) ∧ (¬ ((900 : Int32) < x4) → ∃ (v1 : Int32) (h1 : zH), R_X2_isExplained [.ref 32, .int x1, .int x4] h (some (.int v1)) h1 ∧ (v1 = 0 → zG M_X7_heights post (zat M_X7_heights 19) [some (.ref 0), some (.int x1), some (.int x2), some (.int x3), some (.int (x4 + (50 : Int32)))] [] h1) ∧ (¬ (v1 = 0) → (¬ x3 = x2 → zG M_X7_heights post (zat M_X7_heights 19) [some (.ref 0), some (.int x1), some (.int x2), some (.int (x3 + (1 : Int32))), some (.int (x4 + (50 : Int32)))] [] h1) ∧ (¬ ¬ x3 = x2 → post (some (.int x4)) h1)))) : zG M_X7_heights post (zat M_X7_heights 19) [some (.ref 0), some (.int x1), some (.int x2), some (.int x3), some (.int x4)] [] h := zsg_sound (cuts := [(19, [true, true, true, true, true])]) 17 t
theorem t_X7_cut_0 (a1 : Int32) (a2 : Int32) (h : zH) (post : Option Value → zH → Prop) (t : ∃ (v1 : Int32) (h1 : zH), R_X7_within [.int a1, .int (0 : Int32), .int (11 : Int32)] h (some (.int v1)) h1 ∧ (v1 = 0 → post (some (.int (-100 : Int32))) h1) ∧ (¬ (v1 = 0) → ∃ (v2 : Int32) (h2 : zH), R_X7_within [.int a2, .int (-1 : Int32), .int (1 : Int32)] h1 (some (.int v2)) h2 ∧ (¬ v2 = 0 → vp_in a1 12 ∧ vp_in a1 12 ∧ post (some (.int (h2.1 36 a1.toNatClampNeg))) (zsi h2 36 a1.toNatClampNeg a2)) ∧ (¬ ¬ v2 = 0 → post (some (.int (-100 : Int32))) h2))) : zG M_X7_cut post (M_X7_cut.1) [some (.ref 0), some (.int a1), some (.int a2), none] [] h := zsg_sound (cuts := []) 25 t
theorem r_X7_cut (a1 : Int32) (a2 : Int32) (h : zH) (o : Option Value) (h' : zH) (ho : ∃ v, o = some (.int v)) (t : zG M_X7_cut (fun r1 h1 => r1 = o ∧ h1 = h') M_X7_cut.1 [some (.ref 0), some (.int a1), some (.int a2), none] [] h) : R_X7_cut [.ref 0, .int a1, .int a2] h o h' := ⟨rfl, ho, t⟩
theorem t_X7_made_0 (a1 : Int32) (a2 : Int32) (h : zH) (post : Option Value → zH → Prop) (t : ∃ (v1 : Int32) (h1 : zH), R_X7_isSet [.int a1] h (some (.int v1)) h1 ∧ (v1 = 0 → post (some (.int (-1 : Int32))) h1) ∧ (¬ (v1 = 0) → ∃ (v2 : Int32) (h2 : zH), R_X7_isRight [.int a2] h1 (some (.int v2)) h2 ∧ (¬ v2 = 0 → ∃ (v3 : Int32) (h3 : zH), R_X0_isMade [.ref 35, .int a1, .int a2] h2 (some (.int v3)) h3 ∧ (v3 = 0 → post (some (.int (0 : Int32))) h3) ∧ (¬ (v3 = 0) → post (some (.int (1 : Int32))) h3)) ∧ (¬ ¬ v2 = 0 → post (some (.int (-1 : Int32))) h2))) : zG M_X7_made post (M_X7_made.1) [some (.ref 0), some (.int a1), some (.int a2)] [] h := zsg_sound (cuts := []) 16 t
theorem r_X7_made (a1 : Int32) (a2 : Int32) (h : zH) (o : Option Value) (h' : zH) (ho : ∃ v, o = some (.int v)) (t : zG M_X7_made (fun r1 h1 => r1 = o ∧ h1 = h') M_X7_made.1 [some (.ref 0), some (.int a1), some (.int a2)] [] h) : R_X7_made [.ref 0, .int a1, .int a2] h o h' := ⟨rfl, ho, t⟩
theorem t_X7_maker_0 (a1 : Int32) (h : zH) (post : Option Value → zH → Prop) (t : ∃ (v1 : Int32) (h1 : zH), R_X7_isRight [.int a1] h (some (.int v1)) h1 ∧ (¬ v1 = 0 → ∃ (v2 : Int32) (h2 : zH), R_X0_firstMaker [.ref 35, .int a1] h1 (some (.int v2)) h2 ∧ post (some (.int v2)) h2) ∧ (¬ ¬ v1 = 0 → post (some (.int (-1 : Int32))) h1)) : zG M_X7_maker post (M_X7_maker.1) [some (.ref 0), some (.int a1)] [] h := zsg_sound (cuts := []) 9 t
theorem r_X7_maker (a1 : Int32) (h : zH) (o : Option Value) (h' : zH) (ho : ∃ v, o = some (.int v)) (t : zG M_X7_maker (fun r1 h1 => r1 = o ∧ h1 = h') M_X7_maker.1 [some (.ref 0), some (.int a1)] [] h) : R_X7_maker [.ref 0, .int a1] h o h' := ⟨rfl, ho, t⟩
theorem t_X7_isCold_0 (a1 : Int32) (h : zH) (post : Option Value → zH → Prop) (t : ∃ (v1 : Int32) (h1 : zH), R_X7_within [.int a1, .int (-60 : Int32), .int (40 : Int32)] h (some (.int v1)) h1 ∧ post (some (.int v1)) h1) : zG M_X7_isCold post (M_X7_isCold.1) [some (.int a1)] [] h := zsg_sound (cuts := []) 6 t
theorem r_X7_isCold (a1 : Int32) (h : zH) (o : Option Value) (h' : zH) (ho : o = some (.int 0) ∨ o = some (.int 1)) (t : zG M_X7_isCold (fun r1 h1 => r1 = o ∧ h1 = h') M_X7_isCold.1 [some (.int a1)] [] h) : R_X7_isCold [.int a1] h o h' := ⟨rfl, ho, t⟩
theorem t_X7_day_0 (a1 : Int32) (a2 : Int32) (a3 : Int32) (h : zH) (post : Option Value → zH → Prop) (t : ∃ (v1 : Int32) (h1 : zH), R_X7_isCold [.int a1] h (some (.int v1)) h1 ∧ (v1 = 0 → post (some (.int (-1 : Int32))) h1) ∧ (¬ (v1 = 0) → ∃ (v2 : Int32) (h2 : zH), R_X7_within [.int a2, .int (0 : Int32), .int (3 : Int32)] h1 (some (.int v2)) h2 ∧ (v2 = 0 → post (some (.int (-1 : Int32))) h2) ∧ (¬ (v2 = 0) → ∃ (v3 : Int32) (h3 : zH), R_X7_isSet [.int a3] h2 (some (.int v3)) h3 ∧ (¬ v3 = 0 → ∃ (v4 : Int32) (h4 : zH), R_X1_addDay [.ref 38, .int a1, .int a2, .int a3] h3 (some (.int v4)) h4 ∧ post (some (.int v4)) h4) ∧ (¬ ¬ v3 = 0 → post (some (.int (-1 : Int32))) h3)))) : zG M_X7_day post (M_X7_day.1) [some (.ref 0), some (.int a1), some (.int a2), some (.int a3)] [] h := zsg_sound (cuts := []) 19 t
theorem r_X7_day (a1 : Int32) (a2 : Int32) (a3 : Int32) (h : zH) (o : Option Value) (h' : zH) (ho : ∃ v, o = some (.int v)) (t : zG M_X7_day (fun r1 h1 => r1 = o ∧ h1 = h') M_X7_day.1 [some (.ref 0), some (.int a1), some (.int a2), some (.int a3)] [] h) : R_X7_day [.ref 0, .int a1, .int a2, .int a3] h o h' := ⟨rfl, ho, t⟩
theorem t_X7_commonDivisor_0 (a1 : Int32) (a2 : Int32) (h : zH) (post : Option Value → zH → Prop) (t : zG M_X7_commonDivisor post (zat M_X7_commonDivisor 2) [some (.int a1), some (.int a2), some (.int a1)] [] h) : zG M_X7_commonDivisor post (M_X7_commonDivisor.1) [some (.int a1), some (.int a2), none] [] h := zsg_sound (cuts := [(2, [true, true, true])]) 4 t
theorem r_X7_commonDivisor (a1 : Int32) (a2 : Int32) (h : zH) (o : Option Value) (h' : zH) (ho : ∃ v, o = some (.int v)) (t : zG M_X7_commonDivisor (fun r1 h1 => r1 = o ∧ h1 = h') M_X7_commonDivisor.1 [some (.int a1), some (.int a2), none] [] h) : R_X7_commonDivisor [.int a1, .int a2] h o h' := ⟨rfl, ho, t⟩
theorem t_X7_commonDivisor_2 (x0 : Int32) (x1 : Int32) (x2 : Int32) (h : zH) (post : Option Value → zH → Prop) (t : (x2 ≤ (1 : Int32) → post (some (.int (1 : Int32))) h) ∧ (¬ (x2 ≤ (1 : Int32)) → ¬ x2 = 0 ∧ (¬ (x0 - x0 / x2 * x2) = 0 → zG M_X7_commonDivisor post (zat M_X7_commonDivisor 2) [some (.int x0), some (.int x1), some (.int (x2 + (-1 : Int32)))] [] h) ∧ (¬ ¬ (x0 - x0 / x2 * x2) = 0 → ¬ x2 = 0 ∧ (¬ (x1 - x1 / x2 * x2) = 0 → zG M_X7_commonDivisor post (zat M_X7_commonDivisor 2) [some (.int x0), some (.int x1), some (.int (x2 + (-1 : Int32)))] [] h) ∧ (¬ ¬ (x1 - x1 / x2 * x2) = 0 → post (some (.int x2)) h)))) : zG M_X7_commonDivisor post (zat M_X7_commonDivisor 2) [some (.int x0), some (.int x1), some (.int x2)] [] h := zsg_sound (cuts := [(2, [true, true, true])]) 15 t
theorem t_X7_odds_0 (a1 : Int32) (a2 : Int32) (a3 : Int32) (a4 : Int32) (a5 : Int32) (h : zH) (post : Option Value → zH → Prop) (t : ∃ (v1 : Int32) (h1 : zH), R_X7_isCause [.int a1] h (some (.int v1)) h1 ∧ (v1 = 0 → post (some (.int (-1 : Int32))) h1) ∧ (¬ (v1 = 0) → ∃ (v2 : Int32) (h2 : zH), R_X7_isCold [.int a2] h1 (some (.int v2)) h2 ∧ (v2 = 0 → post (some (.int (-1 : Int32))) h2) ∧ (¬ (v2 = 0) → ∃ (v3 : Int32) (h3 : zH), R_X7_isCold [.int a3] h2 (some (.int v3)) h3 ∧ (v3 = 0 → post (some (.int (-1 : Int32))) h3) ∧ (¬ (v3 = 0) → (a3 < a2 → post (some (.int (-1 : Int32))) h3) ∧ (¬ (a3 < a2) → ∃ (v4 : Int32) (h4 : zH), R_X7_within [.int a4, .int (-1 : Int32), .int (3 : Int32)] h3 (some (.int v4)) h4 ∧ (v4 = 0 → post (some (.int (-1 : Int32))) h4) ∧ (¬ (v4 = 0) → ∃ (v5 : Int32) (h5 : zH), R_X7_within [.int a5, .int (0 : Int32), .int (1 : Int32)] h4 (some (.int v5)) h5 ∧ (¬ v5 = 0 → ∃ (v6 : Int32) (h6 : zH), R_X1_daysWith [.ref 38, .int (0 : Int32), .int a2, .int a3, .int a4] h5 (some (.int v6)) h6 ∧ (¬ v6 = 0 → ∃ (v7 : Int32) (h7 : zH), R_X1_daysWith [.ref 38, .int ((1 : Int32) <<< (a1 &&& 31)), .int a2, .int a3, .int a4] h6 (some (.int v7)) h7 ∧ (¬ v7 = 0 → (¬ a5 = 0 → ∃ (v8 : Int32) (h8 : zH), R_X7_commonDivisor [.int v7, .int v6] h7 (some (.int v8)) h8 ∧ ¬ v8 = 0 ∧ post (some (.int (v6 / v8))) h8) ∧ (¬ ¬ a5 = 0 → ∃ (v8 : Int32) (h8 : zH), R_X7_commonDivisor [.int v7, .int v6] h7 (some (.int v8)) h8 ∧ ¬ v8 = 0 ∧ post (some (.int (v7 / v8))) h8)) ∧ (¬ ¬ v7 = 0 → post (some (.int a5)) h7)) ∧ (¬ ¬ v6 = 0 → post (some (.int (-4 : Int32))) h6)) ∧ (¬ ¬ v5 = 0 → post (some (.int (-1 : Int32))) h5))))))) : zG M_X7_odds post (M_X7_odds.1) [some (.ref 0), some (.int a1), some (.int a2), some (.int a3), some (.int a4), some (.int a5), none, none] [] h := zsg_sound (cuts := []) 54 t
theorem r_X7_odds (a1 : Int32) (a2 : Int32) (a3 : Int32) (a4 : Int32) (a5 : Int32) (h : zH) (o : Option Value) (h' : zH) (ho : ∃ v, o = some (.int v)) (t : zG M_X7_odds (fun r1 h1 => r1 = o ∧ h1 = h') M_X7_odds.1 [some (.ref 0), some (.int a1), some (.int a2), some (.int a3), some (.int a4), some (.int a5), none, none] [] h) : R_X7_odds [.ref 0, .int a1, .int a2, .int a3, .int a4, .int a5] h o h' := ⟨rfl, ho, t⟩
theorem t_X7_together_0 (a1 : Int32) (a2 : Int32) (h : zH) (post : Option Value → zH → Prop) (t : ∃ (v1 : Int32) (h1 : zH), R_X7_isCause [.int a1] h (some (.int v1)) h1 ∧ (v1 = 0 → post (some (.int (-1 : Int32))) h1) ∧ (¬ (v1 = 0) → ∃ (v2 : Int32) (h2 : zH), R_X7_isCause [.int a2] h1 (some (.int v2)) h2 ∧ (v2 = 0 → post (some (.int (-1 : Int32))) h2) ∧ (¬ (v2 = 0) → (¬ a1 = a2 → ∃ (v3 : Int32) (h3 : zH), R_X1_daysWith [.ref 38, .int (((1 : Int32) <<< (a1 &&& 31)) ||| ((1 : Int32) <<< (a2 &&& 31))), .int (-60 : Int32), .int (40 : Int32), .int (-1 : Int32)] h2 (some (.int v3)) h3 ∧ post (some (.int v3)) h3) ∧ (¬ ¬ a1 = a2 → post (some (.int (-1 : Int32))) h2)))) : zG M_X7_together post (M_X7_together.1) [some (.ref 0), some (.int a1), some (.int a2)] [] h := zsg_sound (cuts := []) 24 t
theorem r_X7_together (a1 : Int32) (a2 : Int32) (h : zH) (o : Option Value) (h' : zH) (ho : ∃ v, o = some (.int v)) (t : zG M_X7_together (fun r1 h1 => r1 = o ∧ h1 = h') M_X7_together.1 [some (.ref 0), some (.int a1), some (.int a2)] [] h) : R_X7_together [.ref 0, .int a1, .int a2] h o h' := ⟨rfl, ho, t⟩
theorem t_X7_keep_0 (h : zH) (post : Option Value → zH → Prop) (t : ((h.1 0 2) < (3 : Int32) → zG M_X7_keep post (zat M_X7_keep 19) [some (.ref 0)] [.int (h.1 0 2), .ref 7] h) ∧ (¬ ((h.1 0 2) < (3 : Int32)) → post (some (.int (-3 : Int32))) h)) : zG M_X7_keep post (M_X7_keep.1) [some (.ref 0)] [] h := zsg_sound (cuts := [(19, [true])]) 10 t
theorem r_X7_keep (h : zH) (o : Option Value) (h' : zH) (ho : ∃ v, o = some (.int v)) (t : zG M_X7_keep (fun r1 h1 => r1 = o ∧ h1 = h') M_X7_keep.1 [some (.ref 0)] [] h) : R_X7_keep [.ref 0] h o h' := ⟨rfl, ho, t⟩
theorem t_X7_keep_19_0 (h : zH) (post : Option Value → zH → Prop) (t : vp_in (0 : Int32) 3 ∧ ∃ h1 : zH, R_X6_copyFrom [.ref 8, .ref 1] h none h1 ∧ post (some (.int ((zsi h1 0 2 ((h1.1 0 2) + (1 : Int32))).1 0 2))) (zsi h1 0 2 ((h1.1 0 2) + (1 : Int32)))) : zG M_X7_keep post (zat M_X7_keep 19) [some (.ref 0)] [.int (0 : Int32), .ref 7] h := zsg_sound (cuts := []) 14 t
theorem t_X7_keep_19_1 (h : zH) (post : Option Value → zH → Prop) (t : vp_in (1 : Int32) 3 ∧ ∃ h1 : zH, R_X6_copyFrom [.ref 14, .ref 1] h none h1 ∧ post (some (.int ((zsi h1 0 2 ((h1.1 0 2) + (1 : Int32))).1 0 2))) (zsi h1 0 2 ((h1.1 0 2) + (1 : Int32)))) : zG M_X7_keep post (zat M_X7_keep 19) [some (.ref 0)] [.int (1 : Int32), .ref 7] h := zsg_sound (cuts := []) 14 t
theorem t_X7_keep_19_2 (h : zH) (post : Option Value → zH → Prop) (t : vp_in (2 : Int32) 3 ∧ ∃ h1 : zH, R_X6_copyFrom [.ref 20, .ref 1] h none h1 ∧ post (some (.int ((zsi h1 0 2 ((h1.1 0 2) + (1 : Int32))).1 0 2))) (zsi h1 0 2 ((h1.1 0 2) + (1 : Int32)))) : zG M_X7_keep post (zat M_X7_keep 19) [some (.ref 0)] [.int (2 : Int32), .ref 7] h := zsg_sound (cuts := []) 14 t
theorem t_X7_back_0 (h : zH) (post : Option Value → zH → Prop) (t : (0 < (h.1 0 2) → zG M_X7_back post (zat M_X7_back 32) [some (.ref 0)] [.int ((zsi h 0 2 ((h.1 0 2) - (1 : Int32))).1 0 2), .ref 7, .ref 1] (zsi h 0 2 ((h.1 0 2) - (1 : Int32)))) ∧ (¬ (0 < (h.1 0 2)) → post (some (.int (-2 : Int32))) h)) : zG M_X7_back post (M_X7_back.1) [some (.ref 0)] [] h := zsg_sound (cuts := [(32, [true])]) 17 t
theorem r_X7_back (h : zH) (o : Option Value) (h' : zH) (ho : ∃ v, o = some (.int v)) (t : zG M_X7_back (fun r1 h1 => r1 = o ∧ h1 = h') M_X7_back.1 [some (.ref 0)] [] h) : R_X7_back [.ref 0] h o h' := ⟨rfl, ho, t⟩
theorem t_X7_back_32_0 (h : zH) (post : Option Value → zH → Prop) (t : vp_in (0 : Int32) 3 ∧ ∃ h1 : zH, R_X6_copyFrom [.ref 1, .ref 8] h none h1 ∧ post (some (.int (h1.1 0 2))) h1) : zG M_X7_back post (zat M_X7_back 32) [some (.ref 0)] [.int (0 : Int32), .ref 7, .ref 1] h := zsg_sound (cuts := []) 6 t
theorem t_X7_back_32_1 (h : zH) (post : Option Value → zH → Prop) (t : vp_in (1 : Int32) 3 ∧ ∃ h1 : zH, R_X6_copyFrom [.ref 1, .ref 14] h none h1 ∧ post (some (.int (h1.1 0 2))) h1) : zG M_X7_back post (zat M_X7_back 32) [some (.ref 0)] [.int (1 : Int32), .ref 7, .ref 1] h := zsg_sound (cuts := []) 6 t
theorem t_X7_back_32_2 (h : zH) (post : Option Value → zH → Prop) (t : vp_in (2 : Int32) 3 ∧ ∃ h1 : zH, R_X6_copyFrom [.ref 1, .ref 20] h none h1 ∧ post (some (.int (h1.1 0 2))) h1) : zG M_X7_back post (zat M_X7_back 32) [some (.ref 0)] [.int (2 : Int32), .ref 7, .ref 1] h := zsg_sound (cuts := []) 6 t
theorem t_J6_bitCount_0f7a4_0 (a1 : Int32) (h : zH) (post : Option Value → zH → Prop) (t : post (some (.int ((((((((a1 - (((a1.toUInt32 >>> ((1 : Int32).toUInt32 &&& Int32.toUInt32 31)).toInt32) &&& (1431655765 : Int32))) &&& (858993459 : Int32)) + ((((a1 - (((a1.toUInt32 >>> ((1 : Int32).toUInt32 &&& Int32.toUInt32 31)).toInt32) &&& (1431655765 : Int32))).toUInt32 >>> ((2 : Int32).toUInt32 &&& Int32.toUInt32 31)).toInt32) &&& (858993459 : Int32))) + (((((a1 - (((a1.toUInt32 >>> ((1 : Int32).toUInt32 &&& Int32.toUInt32 31)).toInt32) &&& (1431655765 : Int32))) &&& (858993459 : Int32)) + ((((a1 - (((a1.toUInt32 >>> ((1 : Int32).toUInt32 &&& Int32.toUInt32 31)).toInt32) &&& (1431655765 : Int32))).toUInt32 >>> ((2 : Int32).toUInt32 &&& Int32.toUInt32 31)).toInt32) &&& (858993459 : Int32))).toUInt32 >>> ((4 : Int32).toUInt32 &&& Int32.toUInt32 31)).toInt32)) &&& (252645135 : Int32)) + (((((((a1 - (((a1.toUInt32 >>> ((1 : Int32).toUInt32 &&& Int32.toUInt32 31)).toInt32) &&& (1431655765 : Int32))) &&& (858993459 : Int32)) + ((((a1 - (((a1.toUInt32 >>> ((1 : Int32).toUInt32 &&& Int32.toUInt32 31)).toInt32) &&& (1431655765 : Int32))).toUInt32 >>> ((2 : Int32).toUInt32 &&& Int32.toUInt32 31)).toInt32) &&& (858993459 : Int32))) + (((((a1 - (((a1.toUInt32 >>> ((1 : Int32).toUInt32 &&& Int32.toUInt32 31)).toInt32) &&& (1431655765 : Int32))) &&& (858993459 : Int32)) + ((((a1 - (((a1.toUInt32 >>> ((1 : Int32).toUInt32 &&& Int32.toUInt32 31)).toInt32) &&& (1431655765 : Int32))).toUInt32 >>> ((2 : Int32).toUInt32 &&& Int32.toUInt32 31)).toInt32) &&& (858993459 : Int32))).toUInt32 >>> ((4 : Int32).toUInt32 &&& Int32.toUInt32 31)).toInt32)) &&& (252645135 : Int32)).toUInt32 >>> ((8 : Int32).toUInt32 &&& Int32.toUInt32 31)).toInt32)) + ((((((((a1 - (((a1.toUInt32 >>> ((1 : Int32).toUInt32 &&& Int32.toUInt32 31)).toInt32) &&& (1431655765 : Int32))) &&& (858993459 : Int32)) + ((((a1 - (((a1.toUInt32 >>> ((1 : Int32).toUInt32 &&& Int32.toUInt32 31)).toInt32) &&& (1431655765 : Int32))).toUInt32 >>> ((2 : Int32).toUInt32 &&& Int32.toUInt32 31)).toInt32) &&& (858993459 : Int32))) + (((((a1 - (((a1.toUInt32 >>> ((1 : Int32).toUInt32 &&& Int32.toUInt32 31)).toInt32) &&& (1431655765 : Int32))) &&& (858993459 : Int32)) + ((((a1 - (((a1.toUInt32 >>> ((1 : Int32).toUInt32 &&& Int32.toUInt32 31)).toInt32) &&& (1431655765 : Int32))).toUInt32 >>> ((2 : Int32).toUInt32 &&& Int32.toUInt32 31)).toInt32) &&& (858993459 : Int32))).toUInt32 >>> ((4 : Int32).toUInt32 &&& Int32.toUInt32 31)).toInt32)) &&& (252645135 : Int32)) + (((((((a1 - (((a1.toUInt32 >>> ((1 : Int32).toUInt32 &&& Int32.toUInt32 31)).toInt32) &&& (1431655765 : Int32))) &&& (858993459 : Int32)) + ((((a1 - (((a1.toUInt32 >>> ((1 : Int32).toUInt32 &&& Int32.toUInt32 31)).toInt32) &&& (1431655765 : Int32))).toUInt32 >>> ((2 : Int32).toUInt32 &&& Int32.toUInt32 31)).toInt32) &&& (858993459 : Int32))) + (((((a1 - (((a1.toUInt32 >>> ((1 : Int32).toUInt32 &&& Int32.toUInt32 31)).toInt32) &&& (1431655765 : Int32))) &&& (858993459 : Int32)) + ((((a1 - (((a1.toUInt32 >>> ((1 : Int32).toUInt32 &&& Int32.toUInt32 31)).toInt32) &&& (1431655765 : Int32))).toUInt32 >>> ((2 : Int32).toUInt32 &&& Int32.toUInt32 31)).toInt32) &&& (858993459 : Int32))).toUInt32 >>> ((4 : Int32).toUInt32 &&& Int32.toUInt32 31)).toInt32)) &&& (252645135 : Int32)).toUInt32 >>> ((8 : Int32).toUInt32 &&& Int32.toUInt32 31)).toInt32)).toUInt32 >>> ((16 : Int32).toUInt32 &&& Int32.toUInt32 31)).toInt32)) &&& (63 : Int32)))) h) : zG M_J6_bitCount_0f7a4 post (M_J6_bitCount_0f7a4.1) [some (.int a1)] [] h := zsg_sound (cuts := []) 43 t
theorem r_J6_bitCount_0f7a4 (a1 : Int32) (h : zH) (o : Option Value) (h' : zH) (ho : ∃ v, o = some (.int v)) (t : zG M_J6_bitCount_0f7a4 (fun r1 h1 => r1 = o ∧ h1 = h') M_J6_bitCount_0f7a4.1 [some (.int a1)] [] h) : R_J6_bitCount_0f7a4 [.int a1] h o h' := ⟨rfl, ho, t⟩
theorem t_X7_count_0 (a1 : Int32) (h : zH) (post : Option Value → zH → Prop) (t : (a1.toInt < 0 ∨ 5 < a1.toInt → post (some (.int (-1 : Int32))) h) ∧ (a1.toInt = 0 → ∃ (v1 : Int32) (h1 : zH), R_X6_wedgesInAll [.ref 1] h (some (.int v1)) h1 ∧ post (some (.int v1)) h1) ∧ (a1.toInt = 1 → post (some (.int (h.1 32 2))) h) ∧ (a1.toInt = 2 → post (some (.int (h.1 38 3))) h) ∧ (a1.toInt = 3 → post (some (.int (h.1 0 2))) h) ∧ (a1.toInt = 4 → ∃ (v1 : Int32) (h1 : zH), R_X0_placesTold [.ref 35, .int (1 : Int32)] h (some (.int v1)) h1 ∧ ∃ (v2 : Int32) (h2 : zH), R_X0_placesTold [.ref 35, .int (0 : Int32)] h1 (some (.int v2)) h2 ∧ ∃ (v3 : Int32) (h3 : zH), R_J6_bitCount_0f7a4 [.int (v1 ||| v2)] h2 (some (.int v3)) h3 ∧ post (some (.int v3)) h3) ∧ (a1.toInt = 5 → ∃ (v1 : Int32) (h1 : zH), R_X1_causesSeen [.ref 38] h (some (.int v1)) h1 ∧ ∃ (v2 : Int32) (h2 : zH), R_J6_bitCount_0f7a4 [.int v1] h1 (some (.int v2)) h2 ∧ post (some (.int v2)) h2) ∧ True) : zG M_X7_count post (M_X7_count.1) [some (.ref 0), some (.int a1)] [] h := zsg_sound (cuts := []) 14 t
theorem r_X7_count (a1 : Int32) (h : zH) (o : Option Value) (h' : zH) (ho : ∃ v, o = some (.int v)) (t : zG M_X7_count (fun r1 h1 => r1 = o ∧ h1 = h') M_X7_count.1 [some (.ref 0), some (.int a1)] [] h) : R_X7_count [.ref 0, .int a1] h o h' := ⟨rfl, ho, t⟩
end
section
theorem t_X8_in_0 (a1 : Int32) (a2 : Int32) (a3 : Int32) (h : zH) (post : Option Value → zH → Prop) (t : (a1 < a2 → post (some (.int (0 : Int32))) h) ∧ (¬ (a1 < a2) → (a3 < a1 → post (some (.int (0 : Int32))) h) ∧ (¬ (a3 < a1) → post (some (.int (1 : Int32))) h))) : zG M_X8_in post (M_X8_in.1) [some (.int a1), some (.int a2), some (.int a3)] [] h := zsg_sound (cuts := []) 10 t
theorem r_X8_in (a1 : Int32) (a2 : Int32) (a3 : Int32) (h : zH) (o : Option Value) (h' : zH) (ho : o = some (.int 0) ∨ o = some (.int 1)) (t : zG M_X8_in (fun r1 h1 => r1 = o ∧ h1 = h') M_X8_in.1 [some (.int a1), some (.int a2), some (.int a3)] [] h) : R_X8_in [.int a1, .int a2, .int a3] h o h' := ⟨rfl, ho, t⟩
theorem t_X8_table_0 (a1 : Int32) (a2 : Int32) (a3 : Int32) (h : zH) (post : Option Value → zH → Prop) (t : ∃ (v1 : Int32) (h1 : zH), R_X8_in [.int a1, .int (0 : Int32), .int (2 : Int32)] h (some (.int v1)) h1 ∧ (v1 = 0 → post (some (.int (-1 : Int32))) h1) ∧ (¬ (v1 = 0) → ∃ (v2 : Int32) (h2 : zH), R_X8_in [.int a2, .int (1 : Int32), .int (9 : Int32)] h1 (some (.int v2)) h2 ∧ (v2 = 0 → post (some (.int (-1 : Int32))) h2) ∧ (¬ (v2 = 0) → ∃ (v3 : Int32) (h3 : zH), R_X8_in [.int a3, .int (0 : Int32), .int ((100 : Int32) * a2)] h2 (some (.int v3)) h3 ∧ (¬ v3 = 0 → vp_in ((((10 : Int32) * a1) + a2) - (1 : Int32)) 30 ∧ (a3 < (h3.1 43 ((((10 : Int32) * a1) + a2) - (1 : Int32)).toNatClampNeg) → post (some (.int (-2 : Int32))) h3) ∧ (¬ (a3 < (h3.1 43 ((((10 : Int32) * a1) + a2) - (1 : Int32)).toNatClampNeg)) → ((9 : Int32) ≤ a2 → vp_in (((10 : Int32) * a1) + a2) 30 ∧ vp_in (((10 : Int32) * a1) + a2) 30 ∧ post (some (.int (h3.1 43 (((10 : Int32) * a1) + a2).toNatClampNeg))) (zsi h3 43 (((10 : Int32) * a1) + a2).toNatClampNeg a3)) ∧ (¬ ((9 : Int32) ≤ a2) → vp_in ((((10 : Int32) * a1) + a2) + (1 : Int32)) 30 ∧ (a3 ≤ (h3.1 43 ((((10 : Int32) * a1) + a2) + (1 : Int32)).toNatClampNeg) → vp_in (((10 : Int32) * a1) + a2) 30 ∧ vp_in (((10 : Int32) * a1) + a2) 30 ∧ post (some (.int (h3.1 43 (((10 : Int32) * a1) + a2).toNatClampNeg))) (zsi h3 43 (((10 : Int32) * a1) + a2).toNatClampNeg a3)) ∧ (¬ (a3 ≤ (h3.1 43 ((((10 : Int32) * a1) + a2) + (1 : Int32)).toNatClampNeg)) → post (some (.int (-2 : Int32))) h3)))) ∧ (¬ ¬ v3 = 0 → post (some (.int (-1 : Int32))) h3)))) : zG M_X8_table post (M_X8_table.1) [some (.ref 42), some (.int a1), some (.int a2), some (.int a3), none, none] [] h := zsg_sound (cuts := []) 55 t
theorem r_X8_table (a1 : Int32) (a2 : Int32) (a3 : Int32) (h : zH) (o : Option Value) (h' : zH) (ho : ∃ v, o = some (.int v)) (t : zG M_X8_table (fun r1 h1 => r1 = o ∧ h1 = h') M_X8_table.1 [some (.ref 42), some (.int a1), some (.int a2), some (.int a3), none, none] [] h) : R_X8_table [.ref 42, .int a1, .int a2, .int a3] h o h' := ⟨rfl, ho, t⟩
theorem t_X8_rule_0 (a1 : Int32) (a2 : Int32) (h : zH) (post : Option Value → zH → Prop) (t : (a1.toInt < 0 ∨ 4 < a1.toInt → post (some (.int (-1000 : Int32))) h) ∧ (a1.toInt = 0 → ∃ (v1 : Int32) (h1 : zH), R_X8_in [.int a2, .int (0 : Int32), .int (20 : Int32)] h (some (.int v1)) h1 ∧ (¬ v1 = 0 → post (some (.int (h.1 42 1))) (zsi h1 42 1 a2)) ∧ (¬ ¬ v1 = 0 → post (some (.int (-1000 : Int32))) h1)) ∧ (a1.toInt = 1 → ∃ (v1 : Int32) (h1 : zH), R_X8_in [.int a2, .int (-100 : Int32), .int (100 : Int32)] h (some (.int v1)) h1 ∧ (¬ v1 = 0 → post (some (.int (h.1 42 2))) (zsi h1 42 2 a2)) ∧ (¬ ¬ v1 = 0 → post (some (.int (-1000 : Int32))) h1)) ∧ (a1.toInt = 2 → ∃ (v1 : Int32) (h1 : zH), R_X8_in [.int a2, .int (0 : Int32), .int (100 : Int32)] h (some (.int v1)) h1 ∧ (¬ v1 = 0 → post (some (.int (h.1 42 3))) (zsi h1 42 3 a2)) ∧ (¬ ¬ v1 = 0 → post (some (.int (-1000 : Int32))) h1)) ∧ (a1.toInt = 3 → ∃ (v1 : Int32) (h1 : zH), R_X8_in [.int a2, .int (500 : Int32), .int (9000 : Int32)] h (some (.int v1)) h1 ∧ (¬ v1 = 0 → post (some (.int (h.1 42 4))) (zsi h1 42 4 a2)) ∧ (¬ ¬ v1 = 0 → post (some (.int (-1000 : Int32))) h1)) ∧ (a1.toInt = 4 → ∃ (v1 : Int32) (h1 : zH), R_X8_in [.int a2, .int (0 : Int32), .int (300 : Int32)] h (some (.int v1)) h1 ∧ (¬ v1 = 0 → post (some (.int (h.1 42 5))) (zsi h1 42 5 a2)) ∧ (¬ ¬ v1 = 0 → post (some (.int (-1000 : Int32))) h1)) ∧ True) : zG M_X8_rule post (M_X8_rule.1) [some (.ref 42), some (.int a1), some (.int a2), none] [] h := zsg_sound (cuts := []) 16 t
theorem r_X8_rule (a1 : Int32) (a2 : Int32) (h : zH) (o : Option Value) (h' : zH) (ho : ∃ v, o = some (.int v)) (t : zG M_X8_rule (fun r1 h1 => r1 = o ∧ h1 = h') M_X8_rule.1 [some (.ref 42), some (.int a1), some (.int a2), none] [] h) : R_X8_rule [.ref 42, .int a1, .int a2] h o h' := ⟨rfl, ho, t⟩
theorem t_X8_bent_0 (a1 : Int32) (a2 : Int32) (a3 : Int32) (h : zH) (post : Option Value → zH → Prop) (t : ¬ (100 : Int32) = 0 ∧ vp_in (((10 : Int32) * a1) + (a3 / (100 : Int32))) 30 ∧ ¬ (100 : Int32) = 0 ∧ ((a3 - a3 / (100 : Int32) * (100 : Int32)) ≤ 0 → ¬ (1000 : Int32) = 0 ∧ post (some (.int ((h.1 43 (((10 : Int32) * a1) + (a3 / (100 : Int32))).toNatClampNeg) - ((((h.1 43 (((10 : Int32) * a1) + (a3 / (100 : Int32))).toNatClampNeg) * (h.1 42 1)) * a2) / (1000 : Int32))))) h) ∧ (¬ ((a3 - a3 / (100 : Int32) * (100 : Int32)) ≤ 0) → vp_in ((((10 : Int32) * a1) + (a3 / (100 : Int32))) + (1 : Int32)) 30 ∧ ¬ (100 : Int32) = 0 ∧ ¬ (100 : Int32) = 0 ∧ ¬ (1000 : Int32) = 0 ∧ post (some (.int (((h.1 43 (((10 : Int32) * a1) + (a3 / (100 : Int32))).toNatClampNeg) + ((((h.1 43 ((((10 : Int32) * a1) + (a3 / (100 : Int32))) + (1 : Int32)).toNatClampNeg) - (h.1 43 (((10 : Int32) * a1) + (a3 / (100 : Int32))).toNatClampNeg)) * (a3 - a3 / (100 : Int32) * (100 : Int32))) / (100 : Int32))) - (((((h.1 43 (((10 : Int32) * a1) + (a3 / (100 : Int32))).toNatClampNeg) + ((((h.1 43 ((((10 : Int32) * a1) + (a3 / (100 : Int32))) + (1 : Int32)).toNatClampNeg) - (h.1 43 (((10 : Int32) * a1) + (a3 / (100 : Int32))).toNatClampNeg)) * (a3 - a3 / (100 : Int32) * (100 : Int32))) / (100 : Int32))) * (h.1 42 1)) * a2) / (1000 : Int32))))) h)) : zG M_X8_bent post (M_X8_bent.1) [some (.ref 42), some (.int a1), some (.int a2), some (.int a3), none, none] [] h := zsg_sound (cuts := []) 50 t
theorem r_X8_bent (a1 : Int32) (a2 : Int32) (a3 : Int32) (h : zH) (o : Option Value) (h' : zH) (ho : ∃ v, o = some (.int v)) (t : zG M_X8_bent (fun r1 h1 => r1 = o ∧ h1 = h') M_X8_bent.1 [some (.ref 42), some (.int a1), some (.int a2), some (.int a3), none, none] [] h) : R_X8_bent [.ref 42, .int a1, .int a2, .int a3] h o h' := ⟨rfl, ho, t⟩
theorem t_X8_least_0 (a1 : Int32) (a2 : Int32) (a3 : Int32) (h : zH) (post : Option Value → zH → Prop) (t : ∃ (v1 : Int32) (h1 : zH), R_X8_bent [.ref 42, .int a1, .int a2, .int (900 : Int32)] h (some (.int v1)) h1 ∧ (a3 ≤ v1 → zG M_X8_least post (zat M_X8_least 24) [some (.ref 42), some (.int a1), some (.int a2), some (.int a3), some (.int (0 : Int32)), some (.int (900 : Int32)), none] [] h1) ∧ (¬ (a3 ≤ v1) → post (some (.int (-4 : Int32))) h1)) : zG M_X8_least post (M_X8_least.1) [some (.ref 42), some (.int a1), some (.int a2), some (.int a3), none, none, none] [] h := zsg_sound (cuts := [(24, [true, true, true, true, true, true, false])]) 13 t
theorem r_X8_least (a1 : Int32) (a2 : Int32) (a3 : Int32) (h : zH) (o : Option Value) (h' : zH) (ho : ∃ v, o = some (.int v)) (t : zG M_X8_least (fun r1 h1 => r1 = o ∧ h1 = h') M_X8_least.1 [some (.ref 42), some (.int a1), some (.int a2), some (.int a3), none, none, none] [] h) : R_X8_least [.ref 42, .int a1, .int a2, .int a3] h o h' := ⟨rfl, ho, t⟩
theorem t_X8_least_24 (x1 : Int32) (x2 : Int32) (x3 : Int32) (x4 : Int32) (x5 : Int32) (h : zH) (post : Option Value → zH → Prop) (t : (x5 ≤ x4 → post (some (.int x4)) h) ∧ (¬ (x5 ≤ x4) → ¬ (2 : Int32) = 0 ∧ ∃ (v1 : Int32) (h1 : zH), R_X8_bent [.ref 42, .int x1, .int x2, .int ((x4 + x5) / (2 : Int32))] h (some (.int v1)) h1 ∧ (v1 < x3 → zG M_X8_least post (zat M_X8_least 24) [some (.ref 42), some (.int x1), some (.int x2), some (.int x3), some (.int (((x4 + x5) / (2 : Int32)) + (1 : Int32))), some (.int x5), none] [] h1) ∧ (¬ (v1 < x3) → zG M_X8_least post (zat M_X8_least 24) [some (.ref 42), some (.int x1), some (.int x2), some (.int x3), some (.int x4), some (.int ((x4 + x5) / (2 : Int32))), none] [] h1))) : zG M_X8_least post (zat M_X8_least 24) [some (.ref 42), some (.int x1), some (.int x2), some (.int x3), some (.int x4), some (.int x5), none] [] h := zsg_sound (cuts := [(24, [true, true, true, true, true, true, false])]) 23 t
theorem t_X8_inside_0 (a1 : Int32) (a2 : Int32) (a3 : Int32) (h : zH) (post : Option Value → zH → Prop) (t : ∃ (v1 : Int32) (h1 : zH), R_X8_in [.int a1, .int (0 : Int32), .int (2 : Int32)] h (some (.int v1)) h1 ∧ (v1 = 0 → post (some (.int (-1 : Int32))) h1) ∧ (¬ (v1 = 0) → ∃ (v2 : Int32) (h2 : zH), R_X8_in [.int a2, .int (0 : Int32), .int (3 : Int32)] h1 (some (.int v2)) h2 ∧ (v2 = 0 → post (some (.int (-1 : Int32))) h2) ∧ (¬ (v2 = 0) → ∃ (v3 : Int32) (h3 : zH), R_X8_in [.int a3, .int (0 : Int32), .int (900 : Int32)] h2 (some (.int v3)) h3 ∧ (v3 = 0 → post (some (.int (-1 : Int32))) h3) ∧ (¬ (v3 = 0) → ∃ (v4 : Int32) (h4 : zH), R_X8_bent [.ref 42, .int a1, .int a2, .int a3] h3 (some (.int v4)) h4 ∧ post (some (.int v4)) h4)))) : zG M_X8_inside post (M_X8_inside.1) [some (.ref 42), some (.int a1), some (.int a2), some (.int a3)] [] h := zsg_sound (cuts := []) 23 t
theorem r_X8_inside (a1 : Int32) (a2 : Int32) (a3 : Int32) (h : zH) (o : Option Value) (h' : zH) (ho : ∃ v, o = some (.int v)) (t : zG M_X8_inside (fun r1 h1 => r1 = o ∧ h1 = h') M_X8_inside.1 [some (.ref 42), some (.int a1), some (.int a2), some (.int a3)] [] h) : R_X8_inside [.ref 42, .int a1, .int a2, .int a3] h o h' := ⟨rfl, ho, t⟩
theorem t_X8_outside_0 (a1 : Int32) (a2 : Int32) (a3 : Int32) (h : zH) (post : Option Value → zH → Prop) (t : ∃ (v1 : Int32) (h1 : zH), R_X8_in [.int a1, .int (0 : Int32), .int (2 : Int32)] h (some (.int v1)) h1 ∧ (v1 = 0 → post (some (.int (-1 : Int32))) h1) ∧ (¬ (v1 = 0) → ∃ (v2 : Int32) (h2 : zH), R_X8_in [.int a2, .int (0 : Int32), .int (3 : Int32)] h1 (some (.int v2)) h2 ∧ (v2 = 0 → post (some (.int (-1 : Int32))) h2) ∧ (¬ (v2 = 0) → ∃ (v3 : Int32) (h3 : zH), R_X8_in [.int a3, .int (0 : Int32), .int (900 : Int32)] h2 (some (.int v3)) h3 ∧ (v3 = 0 → post (some (.int (-1 : Int32))) h3) ∧ (¬ (v3 = 0) → ∃ (v4 : Int32) (h4 : zH), R_X8_least [.ref 42, .int a1, .int a2, .int a3] h3 (some (.int v4)) h4 ∧ post (some (.int v4)) h4)))) : zG M_X8_outside post (M_X8_outside.1) [some (.ref 42), some (.int a1), some (.int a2), some (.int a3)] [] h := zsg_sound (cuts := []) 23 t
theorem r_X8_outside (a1 : Int32) (a2 : Int32) (a3 : Int32) (h : zH) (o : Option Value) (h' : zH) (ho : ∃ v, o = some (.int v)) (t : zG M_X8_outside (fun r1 h1 => r1 = o ∧ h1 = h') M_X8_outside.1 [some (.ref 42), some (.int a1), some (.int a2), some (.int a3)] [] h) : R_X8_outside [.ref 42, .int a1, .int a2, .int a3] h o h' := ⟨rfl, ho, t⟩
theorem t_X8_turns_0 (a1 : Int32) (a2 : Int32) (a3 : Int32) (h : zH) (post : Option Value → zH → Prop) (t : ∃ (v1 : Int32) (h1 : zH), R_X8_bent [.ref 42, .int (0 : Int32), .int a2, .int a3] h (some (.int v1)) h1 ∧ post (some (.int ((((2 : Int32) * a3) - ((2 : Int32) * v1)) + (a1 * (((1800 : Int32) - ((2 : Int32) * v1)) + (h1.1 42 2)))))) h1) : zG M_X8_turns post (M_X8_turns.1) [some (.ref 42), some (.int a1), some (.int a2), some (.int a3), none] [] h := zsg_sound (cuts := []) 26 t
theorem r_X8_turns (a1 : Int32) (a2 : Int32) (a3 : Int32) (h : zH) (o : Option Value) (h' : zH) (ho : ∃ v, o = some (.int v)) (t : zG M_X8_turns (fun r1 h1 => r1 = o ∧ h1 = h') M_X8_turns.1 [some (.ref 42), some (.int a1), some (.int a2), some (.int a3), none] [] h) : R_X8_turns [.ref 42, .int a1, .int a2, .int a3] h o h' := ⟨rfl, ho, t⟩
theorem t_X8_from_0 (a1 : Int32) (a2 : Int32) (a3 : Int32) (h : zH) (post : Option Value → zH → Prop) (t : ∃ (v1 : Int32) (h1 : zH), R_X8_turns [.ref 42, .int a1, .int a2, .int a3] h (some (.int v1)) h1 ∧ ¬ (3600 : Int32) = 0 ∧ (0 ≤ (v1 - v1 / (3600 : Int32) * (3600 : Int32)) → ((v1 - v1 / (3600 : Int32) * (3600 : Int32)) ≤ (1800 : Int32) → post (some (.int (v1 - v1 / (3600 : Int32) * (3600 : Int32)))) h1) ∧ (¬ ((v1 - v1 / (3600 : Int32) * (3600 : Int32)) ≤ (1800 : Int32)) → post (some (.int ((3600 : Int32) - (v1 - v1 / (3600 : Int32) * (3600 : Int32))))) h1)) ∧ (¬ (0 ≤ (v1 - v1 / (3600 : Int32) * (3600 : Int32))) → (((v1 - v1 / (3600 : Int32) * (3600 : Int32)) + (3600 : Int32)) ≤ (1800 : Int32) → post (some (.int ((v1 - v1 / (3600 : Int32) * (3600 : Int32)) + (3600 : Int32)))) h1) ∧ (¬ (((v1 - v1 / (3600 : Int32) * (3600 : Int32)) + (3600 : Int32)) ≤ (1800 : Int32)) → post (some (.int ((3600 : Int32) - ((v1 - v1 / (3600 : Int32) * (3600 : Int32)) + (3600 : Int32))))) h1))) : zG M_X8_from post (M_X8_from.1) [some (.ref 42), some (.int a1), some (.int a2), some (.int a3), none] [] h := zsg_sound (cuts := []) 24 t
theorem r_X8_from (a1 : Int32) (a2 : Int32) (a3 : Int32) (h : zH) (o : Option Value) (h' : zH) (ho : ∃ v, o = some (.int v)) (t : zG M_X8_from (fun r1 h1 => r1 = o ∧ h1 = h') M_X8_from.1 [some (.ref 42), some (.int a1), some (.int a2), some (.int a3), none] [] h) : R_X8_from [.ref 42, .int a1, .int a2, .int a3] h o h' := ⟨rfl, ho, t⟩
theorem t_X8_out_0 (a1 : Int32) (a2 : Int32) (h : zH) (post : Option Value → zH → Prop) (t : ¬ (100 : Int32) = 0 ∧ zG M_X8_out post (zat M_X8_out 23) [some (.ref 42), some (.int a1), some (.int a2), some (.int ((a2 * ((900 : Int32) - a2)) - (((a2 * ((900 : Int32) - a2)) * (h.1 42 3)) / (100 : Int32)))), some (.int (0 : Int32))] [] h) : zG M_X8_out post (M_X8_out.1) [some (.ref 42), some (.int a1), some (.int a2), none, none] [] h := zsg_sound (cuts := [(23, [true, true, true, true, true])]) 19 t
theorem r_X8_out (a1 : Int32) (a2 : Int32) (h : zH) (o : Option Value) (h' : zH) (ho : ∃ v, o = some (.int v)) (t : zG M_X8_out (fun r1 h1 => r1 = o ∧ h1 = h') M_X8_out.1 [some (.ref 42), some (.int a1), some (.int a2), none, none] [] h) : R_X8_out [.ref 42, .int a1, .int a2] h o h' := ⟨rfl, ho, t⟩
theorem t_X8_out_23 (x1 : Int32) (x2 : Int32) (x3 : Int32) (x4 : Int32) (h : zH) (post : Option Value → zH → Prop) (t : (x1 ≤ x4 → ¬ (100 : Int32) = 0 ∧ post (some (.int (x3 - ((x3 * (h.1 42 3)) / (100 : Int32))))) h) ∧ (¬ (x1 ≤ x4) → ¬ (100 : Int32) = 0 ∧ zG M_X8_out post (zat M_X8_out 23) [some (.ref 42), some (.int x1), some (.int x2), some (.int ((x3 * (h.1 42 3)) / (100 : Int32))), some (.int (x4 + (1 : Int32)))] [] h)) : zG M_X8_out post (zat M_X8_out 23) [some (.ref 42), some (.int x1), some (.int x2), some (.int x3), some (.int x4)] [] h := zsg_sound (cuts := [(23, [true, true, true, true, true])]) 14 t
theorem t_X8_ray_0 (a1 : Int32) (a2 : Int32) (a3 : Int32) (a4 : Int32) (h : zH) (post : Option Value → zH → Prop) (t : ∃ (v1 : Int32) (h1 : zH), R_X8_in [.int a1, .int (0 : Int32), .int (5 : Int32)] h (some (.int v1)) h1 ∧ (v1 = 0 → post (some (.int (-100000 : Int32))) h1) ∧ (¬ (v1 = 0) → ∃ (v2 : Int32) (h2 : zH), R_X8_in [.int a2, .int (0 : Int32), .int (3 : Int32)] h1 (some (.int v2)) h2 ∧ (v2 = 0 → post (some (.int (-100000 : Int32))) h2) ∧ (¬ (v2 = 0) → ∃ (v3 : Int32) (h3 : zH), R_X8_in [.int a3, .int (0 : Int32), .int (900 : Int32)] h2 (some (.int v3)) h3 ∧ (v3 = 0 → post (some (.int (-100000 : Int32))) h3) ∧ (¬ (v3 = 0) → ∃ (v4 : Int32) (h4 : zH), R_X8_in [.int a4, .int (0 : Int32), .int (4 : Int32)] h3 (some (.int v4)) h4 ∧ (¬ v4 = 0 → (a4.toInt < 0 ∨ 3 < a4.toInt → ∃ (v5 : Int32) (h5 : zH), R_X8_out [.ref 42, .int a1, .int a3] h4 (some (.int v5)) h5 ∧ post (some (.int ((a3 * ((900 : Int32) - a3)) - v5))) h5) ∧ (a4.toInt = 0 → ∃ (v5 : Int32) (h5 : zH), R_X8_turns [.ref 42, .int a1, .int a2, .int a3] h4 (some (.int v5)) h5 ∧ post (some (.int v5)) h5) ∧ (a4.toInt = 1 → ∃ (v5 : Int32) (h5 : zH), R_X8_from [.ref 42, .int a1, .int a2, .int a3] h4 (some (.int v5)) h5 ∧ post (some (.int v5)) h5) ∧ (a4.toInt = 2 → post (some (.int (a3 * ((900 : Int32) - a3)))) h4) ∧ (a4.toInt = 3 → ∃ (v5 : Int32) (h5 : zH), R_X8_out [.ref 42, .int a1, .int a3] h4 (some (.int v5)) h5 ∧ post (some (.int v5)) h5) ∧ True) ∧ (¬ ¬ v4 = 0 → post (some (.int (-100000 : Int32))) h4))))) : zG M_X8_ray post (M_X8_ray.1) [some (.ref 42), some (.int a1), some (.int a2), some (.int a3), some (.int a4)] [] h := zsg_sound (cuts := []) 34 t
theorem r_X8_ray (a1 : Int32) (a2 : Int32) (a3 : Int32) (a4 : Int32) (h : zH) (o : Option Value) (h' : zH) (ho : ∃ v, o = some (.int v)) (t : zG M_X8_ray (fun r1 h1 => r1 = o ∧ h1 = h') M_X8_ray.1 [some (.ref 42), some (.int a1), some (.int a2), some (.int a3), some (.int a4)] [] h) : R_X8_ray [.ref 42, .int a1, .int a2, .int a3, .int a4] h o h' := ⟨rfl, ho, t⟩
theorem t_X8_layMap_0 (a1 : Int32) (a2 : Int32) (h : zH) (post : Option Value → zH → Prop) (t : zG M_X8_layMap post (zat M_X8_layMap 2) [some (.ref 42), some (.int a1), some (.int a2), some (.int (0 : Int32))] [] h) : zG M_X8_layMap post (M_X8_layMap.1) [some (.ref 42), some (.int a1), some (.int a2), none] [] h := zsg_sound (cuts := [(2, [true, true, true, true]), (24, [true, true, true, true])]) 4 t
theorem r_X8_layMap (a1 : Int32) (a2 : Int32) (h : zH) (o : Option Value) (h' : zH) (ho : o = none) (t : zG M_X8_layMap (fun r1 h1 => r1 = o ∧ h1 = h') M_X8_layMap.1 [some (.ref 42), some (.int a1), some (.int a2), none] [] h) : R_X8_layMap [.ref 42, .int a1, .int a2] h o h' := ⟨rfl, ho, t⟩
theorem t_X8_layMap_2 (x1 : Int32) (x2 : Int32) (x3 : Int32) (h : zH) (post : Option Value → zH → Prop) (t : ((181 : Int32) ≤ x3 → zG M_X8_layMap post (zat M_X8_layMap 24) [some (.ref 42), some (.int x1), some (.int x2), some (.int (0 : Int32))] [] h) ∧ (¬ ((181 : Int32) ≤ x3) → vp_in x3 181 ∧ zG M_X8_layMap post (zat M_X8_layMap 2) [some (.ref 42), some (.int x1), some (.int x2), some (.int (x3 + (1 : Int32)))] [] (zsl h 54 x3.toNatClampNeg (0 : Int64)))) : zG M_X8_layMap post (zat M_X8_layMap 2) [some (.ref 42), some (.int x1), some (.int x2), some (.int x3)] [] h := zsg_sound (cuts := [(2, [true, true, true, true]), (24, [true, true, true, true])]) 12 t
theorem t_X8_layMap_24 (x1 : Int32) (x2 : Int32) (x3 : Int32) (h : zH) (post : Option Value → zH → Prop) (t : ((900 : Int32) < x3 → post none h) ∧ (¬ ((900 : Int32) < x3) → ∃ (v1 : Int32) (h1 : zH), R_X8_from [.ref 42, .int x1, .int x2, .int x3] h (some (.int v1)) h1 ∧ ¬ (10 : Int32) = 0 ∧ vp_in (v1 / (10 : Int32)) 181 ∧ ∃ (v2 : Int32) (h2 : zH), R_X8_out [.ref 42, .int x1, .int x3] h1 (some (.int v2)) h2 ∧ vp_in (v1 / (10 : Int32)) 181 ∧ zG M_X8_layMap post (zat M_X8_layMap 24) [some (.ref 42), some (.int x1), some (.int x2), some (.int (x3 + (5 : Int32)))] [] (zsl h2 54 (v1 / (10 : Int32)).toNatClampNeg ((h1.2 54 (v1 / (10 : Int32)).toNatClampNeg) + v2.toInt64)))) : zG M_X8_layMap post (zat M_X8_layMap 24) [some (.ref 42), some (.int x1), some (.int x2), some (.int x3)] [] h := zsg_sound (cuts := [(2, [true, true, true, true]), (24, [true, true, true, true])]) 25 t
theorem t_X8_bowOf_0  (h : zH) (post : Option Value → zH → Prop) (t : zG M_X8_bowOf post (zat M_X8_bowOf 4) [some (.ref 42), some (.int (0 : Int32)), some (.int (1 : Int32))] [] h) : zG M_X8_bowOf post (M_X8_bowOf.1) [some (.ref 42), none, none] [] h := zsg_sound (cuts := [(4, [true, true, true])]) 6 t
theorem r_X8_bowOf  (h : zH) (o : Option Value) (h' : zH) (ho : ∃ v, o = some (.int v)) (t : zG M_X8_bowOf (fun r1 h1 => r1 = o ∧ h1 = h') M_X8_bowOf.1 [some (.ref 42), none, none] [] h) : R_X8_bowOf [.ref 42] h o h' := ⟨rfl, ho, t⟩
theorem t_X8_bowOf_4 (x1 : Int32) (x2 : Int32) (h : zH) (post : Option Value → zH → Prop) (t : ((181 : Int32) ≤ x2 → vp_in x1 181 ∧ (¬ (lg_cmp (h.2 54 x1.toNatClampNeg) (0 : Int64)) = 0 → post (some (.int x1)) h) ∧ (¬ ¬ (lg_cmp (h.2 54 x1.toNatClampNeg) (0 : Int64)) = 0 → post (some (.int (-4 : Int32))) h)) ∧ (¬ ((181 : Int32) ≤ x2) → vp_in x2 181 ∧ vp_in x1 181 ∧ ((lg_cmp (h.2 54 x2.toNatClampNeg) (h.2 54 x1.toNatClampNeg)) ≤ 0 → zG M_X8_bowOf post (zat M_X8_bowOf 4) [some (.ref 42), some (.int x1), some (.int (x2 + (1 : Int32)))] [] h) ∧ (¬ ((lg_cmp (h.2 54 x2.toNatClampNeg) (h.2 54 x1.toNatClampNeg)) ≤ 0) → zG M_X8_bowOf post (zat M_X8_bowOf 4) [some (.ref 42), some (.int x2), some (.int (x2 + (1 : Int32)))] [] h))) : zG M_X8_bowOf post (zat M_X8_bowOf 4) [some (.ref 42), some (.int x1), some (.int x2)] [] h := zsg_sound (cuts := [(4, [true, true, true])]) 20 t
theorem t_X8_map_0 (a1 : Int32) (a2 : Int32) (a3 : Int32) (h : zH) (post : Option Value → zH → Prop) (t : ∃ (v1 : Int32) (h1 : zH), R_X8_in [.int a1, .int (0 : Int32), .int (5 : Int32)] h (some (.int v1)) h1 ∧ (v1 = 0 → post (some (.long (-1 : Int64))) h1) ∧ (¬ (v1 = 0) → ∃ (v2 : Int32) (h2 : zH), R_X8_in [.int a2, .int (0 : Int32), .int (3 : Int32)] h1 (some (.int v2)) h2 ∧ (v2 = 0 → post (some (.long (-1 : Int64))) h2) ∧ (¬ (v2 = 0) → ∃ (v3 : Int32) (h3 : zH), R_X8_in [.int a3, .int (0 : Int32), .int (180 : Int32)] h2 (some (.int v3)) h3 ∧ (¬ v3 = 0 → ∃ h4 : zH, R_X8_layMap [.ref 42, .int a1, .int a2] h3 none h4 ∧ vp_in a3 181 ∧ post (some (.long (h4.2 54 a3.toNatClampNeg))) h4) ∧ (¬ ¬ v3 = 0 → post (some (.long (-1 : Int64))) h3)))) : zG M_X8_map post (M_X8_map.1) [some (.ref 42), some (.int a1), some (.int a2), some (.int a3)] [] h := zsg_sound (cuts := []) 25 t
theorem r_X8_map (a1 : Int32) (a2 : Int32) (a3 : Int32) (h : zH) (o : Option Value) (h' : zH) (ho : ∃ v, o = some (.long v)) (t : zG M_X8_map (fun r1 h1 => r1 = o ∧ h1 = h') M_X8_map.1 [some (.ref 42), some (.int a1), some (.int a2), some (.int a3)] [] h) : R_X8_map [.ref 42, .int a1, .int a2, .int a3] h o h' := ⟨rfl, ho, t⟩
theorem t_X8_bow_0 (a1 : Int32) (a2 : Int32) (a3 : Int32) (a4 : Int32) (h : zH) (post : Option Value → zH → Prop) (t : ∃ (v1 : Int32) (h1 : zH), R_X8_in [.int a1, .int (0 : Int32), .int (5 : Int32)] h (some (.int v1)) h1 ∧ (v1 = 0 → post (some (.int (-1000000 : Int32))) h1) ∧ (¬ (v1 = 0) → ∃ (v2 : Int32) (h2 : zH), R_X8_in [.int a2, .int (0 : Int32), .int (3 : Int32)] h1 (some (.int v2)) h2 ∧ (v2 = 0 → post (some (.int (-1000000 : Int32))) h2) ∧ (¬ (v2 = 0) → ∃ (v3 : Int32) (h3 : zH), R_X8_in [.int a3, .int (0 : Int32), .int (900 : Int32)] h2 (some (.int v3)) h3 ∧ (v3 = 0 → post (some (.int (-1000000 : Int32))) h3) ∧ (¬ (v3 = 0) → ∃ (v4 : Int32) (h4 : zH), R_X8_in [.int a4, .int (0 : Int32), .int (2 : Int32)] h3 (some (.int v4)) h4 ∧ (¬ v4 = 0 → ∃ h5 : zH, R_X8_layMap [.ref 42, .int a1, .int a2] h4 none h5 ∧ ∃ (v6 : Int32) (h6 : zH), R_X8_bowOf [.ref 42] h5 (some (.int v6)) h6 ∧ (¬ a4 = (2 : Int32) → (v6 = (-4 : Int32) → post (some (.int v6)) h6) ∧ (¬ (v6 = (-4 : Int32)) → (¬ a4 = 0 → zG M_X8_bow post (zat M_X8_bow 116) [some (.ref 42), some (.int a1), some (.int a2), some (.int a3), some (.int a4), some (.int v6), some (.int v6), none] [] h6) ∧ (¬ ¬ a4 = 0 → post (some (.int v6)) h6))) ∧ (¬ ¬ a4 = (2 : Int32) → (¬ v6 = (-4 : Int32) → (0 ≤ (((1800 : Int32) - ((10 : Int32) * v6)) - a3) → post (some (.int (((1800 : Int32) - ((10 : Int32) * v6)) - a3))) h6) ∧ (¬ (0 ≤ (((1800 : Int32) - ((10 : Int32) * v6)) - a3)) → post (some (.int (-100000 : Int32))) h6)) ∧ (¬ ¬ v6 = (-4 : Int32) → (0 ≤ (-1 : Int32) → post (some (.int (-1 : Int32))) h6) ∧ (¬ (0 ≤ (-1 : Int32)) → post (some (.int (-100000 : Int32))) h6)))) ∧ (¬ ¬ v4 = 0 → post (some (.int (-1000000 : Int32))) h4))))) : zG M_X8_bow post (M_X8_bow.1) [some (.ref 42), some (.int a1), some (.int a2), some (.int a3), some (.int a4), none, none, none] [] h := zsg_sound (cuts := [(116, [true, true, true, true, true, true, true, false]), (155, [true, true, true, true, true, true, true, true])]) 47 t
theorem r_X8_bow (a1 : Int32) (a2 : Int32) (a3 : Int32) (a4 : Int32) (h : zH) (o : Option Value) (h' : zH) (ho : ∃ v, o = some (.int v)) (t : zG M_X8_bow (fun r1 h1 => r1 = o ∧ h1 = h') M_X8_bow.1 [some (.ref 42), some (.int a1), some (.int a2), some (.int a3), some (.int a4), none, none, none] [] h) : R_X8_bow [.ref 42, .int a1, .int a2, .int a3, .int a4] h o h' := ⟨rfl, ho, t⟩
theorem t_X8_bow_116 (x1 : Int32) (x2 : Int32) (x3 : Int32) (x4 : Int32) (x5 : Int32) (x6 : Int32) (h : zH) (post : Option Value → zH → Prop) (t : (x6 ≤ 0 → zG M_X8_bow post (zat M_X8_bow 155) [some (.ref 42), some (.int x1), some (.int x2), some (.int x3), some (.int x4), some (.int x5), some (.int x6), some (.int x5)] [] h) ∧ (¬ (x6 ≤ 0) → vp_in (x6 - (1 : Int32)) 181 ∧ vp_in x5 181 ∧ ((lg_cmp ((2 : Int64) * (h.2 54 (x6 - (1 : Int32)).toNatClampNeg)) (h.2 54 x5.toNatClampNeg)) < 0 → zG M_X8_bow post (zat M_X8_bow 155) [some (.ref 42), some (.int x1), some (.int x2), some (.int x3), some (.int x4), some (.int x5), some (.int x6), some (.int x5)] [] h) ∧ (¬ ((lg_cmp ((2 : Int64) * (h.2 54 (x6 - (1 : Int32)).toNatClampNeg)) (h.2 54 x5.toNatClampNeg)) < 0) → zG M_X8_bow post (zat M_X8_bow 116) [some (.ref 42), some (.int x1), some (.int x2), some (.int x3), some (.int x4), some (.int x5), some (.int (x6 + (-1 : Int32))), none] [] h))) : zG M_X8_bow post (zat M_X8_bow 116) [some (.ref 42), some (.int x1), some (.int x2), some (.int x3), some (.int x4), some (.int x5), some (.int x6), none] [] h := zsg_sound (cuts := [(116, [true, true, true, true, true, true, true, false]), (155, [true, true, true, true, true, true, true, true])]) 20 t
theorem t_X8_bow_155 (x1 : Int32) (x2 : Int32) (x3 : Int32) (x4 : Int32) (x5 : Int32) (x6 : Int32) (x7 : Int32) (h : zH) (post : Option Value → zH → Prop) (t : ((180 : Int32) ≤ x7 → post (some (.int ((x7 - x6) + (1 : Int32)))) h) ∧ (¬ ((180 : Int32) ≤ x7) → vp_in (x7 + (1 : Int32)) 181 ∧ vp_in x5 181 ∧ ((lg_cmp ((2 : Int64) * (h.2 54 (x7 + (1 : Int32)).toNatClampNeg)) (h.2 54 x5.toNatClampNeg)) < 0 → post (some (.int ((x7 - x6) + (1 : Int32)))) h) ∧ (¬ ((lg_cmp ((2 : Int64) * (h.2 54 (x7 + (1 : Int32)).toNatClampNeg)) (h.2 54 x5.toNatClampNeg)) < 0) → zG M_X8_bow post (zat M_X8_bow 155) [some (.ref 42), some (.int x1), some (.int x2), some (.int x3), some (.int x4), some (.int x5), some (.int x6), some (.int (x7 + (1 : Int32)))] [] h))) : zG M_X8_bow post (zat M_X8_bow 155) [some (.ref 42), some (.int x1), some (.int x2), some (.int x3), some (.int x4), some (.int x5), some (.int x6), some (.int x7)] [] h := zsg_sound (cuts := [(116, [true, true, true, true, true, true, true, false]), (155, [true, true, true, true, true, true, true, true])]) 24 t
theorem t_X8_dark_0 (a1 : Int32) (a2 : Int32) (h : zH) (post : Option Value → zH → Prop) (t : ∃ (v1 : Int32) (h1 : zH), R_X8_in [.int a1, .int (0 : Int32), .int (5 : Int32)] h (some (.int v1)) h1 ∧ (v1 = 0 → post (some (.int (-1 : Int32))) h1) ∧ (¬ (v1 = 0) → ∃ (v2 : Int32) (h2 : zH), R_X8_in [.int a2, .int (0 : Int32), .int (5 : Int32)] h1 (some (.int v2)) h2 ∧ (v2 = 0 → post (some (.int (-1 : Int32))) h2) ∧ (¬ (v2 = 0) → (¬ a1 = a2 → ∃ h3 : zH, R_X8_layMap [.ref 42, .int a1, .int (0 : Int32)] h2 none h3 ∧ ∃ (v4 : Int32) (h4 : zH), R_X8_bowOf [.ref 42] h3 (some (.int v4)) h4 ∧ zG M_X8_dark post (zat M_X8_dark 39) [some (.ref 42), some (.int a1), some (.int a2), some (.int v4), some (.int (0 : Int32)), none, none, none, none, none] [] h4) ∧ (¬ ¬ a1 = a2 → post (some (.int (-1 : Int32))) h2)))) : zG M_X8_dark post (M_X8_dark.1) [some (.ref 42), some (.int a1), some (.int a2), none, none, none, none, none, none, none] [] h := zsg_sound (cuts := [(39, [true, true, true, true, true, false, false, false, false, false]), (145, [true, true, true, true, true, true, true, true, true, true])]) 24 t
theorem r_X8_dark (a1 : Int32) (a2 : Int32) (h : zH) (o : Option Value) (h' : zH) (ho : ∃ v, o = some (.int v)) (t : zG M_X8_dark (fun r1 h1 => r1 = o ∧ h1 = h') M_X8_dark.1 [some (.ref 42), some (.int a1), some (.int a2), none, none, none, none, none, none, none] [] h) : R_X8_dark [.ref 42, .int a1, .int a2] h o h' := ⟨rfl, ho, t⟩
theorem t_X8_dark_39 (x1 : Int32) (x2 : Int32) (x3 : Int32) (x4 : Int32) (h : zH) (post : Option Value → zH → Prop) (t : ((181 : Int32) ≤ x4 → ∃ h1 : zH, R_X8_layMap [.ref 42, .int x2, .int (0 : Int32)] h none h1 ∧ ∃ (v2 : Int32) (h2 : zH), R_X8_bowOf [.ref 42] h1 (some (.int v2)) h2 ∧ (x3 = (-4 : Int32) → post (some (.int (-2 : Int32))) h2) ∧ (¬ (x3 = (-4 : Int32)) → (¬ v2 = (-4 : Int32) → (v2 ≤ x3 → (v2 ≤ x3 → zG M_X8_dark post (zat M_X8_dark 145) [some (.ref 42), some (.int x1), some (.int x2), some (.int x3), some (.int v2), some (.int v2), some (.int x3), some (.int (0 : Int32)), some (.int (0 : Int32)), some (.int (v2 + (1 : Int32)))] [] h2) ∧ (¬ (v2 ≤ x3) → zG M_X8_dark post (zat M_X8_dark 145) [some (.ref 42), some (.int x1), some (.int x2), some (.int x3), some (.int v2), some (.int v2), some (.int v2), some (.int (0 : Int32)), some (.int (0 : Int32)), some (.int (v2 + (1 : Int32)))] [] h2)) ∧ (¬ (v2 ≤ x3) → (v2 ≤ x3 → zG M_X8_dark post (zat M_X8_dark 145) [some (.ref 42), some (.int x1), some (.int x2), some (.int x3), some (.int v2), some (.int x3), some (.int x3), some (.int (0 : Int32)), some (.int (0 : Int32)), some (.int (x3 + (1 : Int32)))] [] h2) ∧ (¬ (v2 ≤ x3) → zG M_X8_dark post (zat M_X8_dark 145) [some (.ref 42), some (.int x1), some (.int x2), some (.int x3), some (.int v2), some (.int x3), some (.int v2), some (.int (0 : Int32)), some (.int (0 : Int32)), some (.int (x3 + (1 : Int32)))] [] h2))) ∧ (¬ ¬ v2 = (-4 : Int32) → post (some (.int (-2 : Int32))) h2))) ∧ (¬ ((181 : Int32) ≤ x4) → vp_in x4 181 ∧ ((lg_cmp (h.2 54 x4.toNatClampNeg) (0 : Int64)) ≤ 0 → vp_in x4 181 ∧ zG M_X8_dark post (zat M_X8_dark 39) [some (.ref 42), some (.int x1), some (.int x2), some (.int x3), some (.int (x4 + (1 : Int32))), none, none, none, none, none] [] (zsi h 55 x4.toNatClampNeg (vp_nar .boolean (0 : Int32)))) ∧ (¬ ((lg_cmp (h.2 54 x4.toNatClampNeg) (0 : Int64)) ≤ 0) → vp_in x4 181 ∧ zG M_X8_dark post (zat M_X8_dark 39) [some (.ref 42), some (.int x1), some (.int x2), some (.int x3), some (.int (x4 + (1 : Int32))), none, none, none, none, none] [] (zsi h 55 x4.toNatClampNeg (vp_nar .boolean (1 : Int32)))))) : zG M_X8_dark post (zat M_X8_dark 39) [some (.ref 42), some (.int x1), some (.int x2), some (.int x3), some (.int x4), none, none, none, none, none] [] h := zsg_sound (cuts := [(39, [true, true, true, true, true, false, false, false, false, false]), (145, [true, true, true, true, true, true, true, true, true, true])]) 38 t
theorem t_X8_dark_145 (x1 : Int32) (x2 : Int32) (x3 : Int32) (x4 : Int32) (x5 : Int32) (x6 : Int32) (x7 : Int32) (x8 : Int32) (x9 : Int32) (h : zH) (post : Option Value → zH → Prop) (t : (x6 ≤ x9 → post (some (.int x7)) h) ∧ (¬ (x6 ≤ x9) → vp_in x9 181 ∧ (¬ (h.1 55 x9.toNatClampNeg) = 0 → ((0 : Int32) ≤ x7 → zG M_X8_dark post (zat M_X8_dark 145) [some (.ref 42), some (.int x1), some (.int x2), some (.int x3), some (.int x4), some (.int x5), some (.int x6), some (.int x7), some (.int (0 : Int32)), some (.int (x9 + (1 : Int32)))] [] h) ∧ (¬ ((0 : Int32) ≤ x7) → zG M_X8_dark post (zat M_X8_dark 145) [some (.ref 42), some (.int x1), some (.int x2), some (.int x3), some (.int x4), some (.int x5), some (.int x6), some (.int (0 : Int32)), some (.int (0 : Int32)), some (.int (x9 + (1 : Int32)))] [] h)) ∧ (¬ ¬ (h.1 55 x9.toNatClampNeg) = 0 → vp_in x9 181 ∧ ((lg_cmp (h.2 54 x9.toNatClampNeg) (0 : Int64)) ≤ 0 → ((x8 + (1 : Int32)) ≤ x7 → zG M_X8_dark post (zat M_X8_dark 145) [some (.ref 42), some (.int x1), some (.int x2), some (.int x3), some (.int x4), some (.int x5), some (.int x6), some (.int x7), some (.int (x8 + (1 : Int32))), some (.int (x9 + (1 : Int32)))] [] h) ∧ (¬ ((x8 + (1 : Int32)) ≤ x7) → zG M_X8_dark post (zat M_X8_dark 145) [some (.ref 42), some (.int x1), some (.int x2), some (.int x3), some (.int x4), some (.int x5), some (.int x6), some (.int (x8 + (1 : Int32))), some (.int (x8 + (1 : Int32))), some (.int (x9 + (1 : Int32)))] [] h)) ∧ (¬ ((lg_cmp (h.2 54 x9.toNatClampNeg) (0 : Int64)) ≤ 0) → ((0 : Int32) ≤ x7 → zG M_X8_dark post (zat M_X8_dark 145) [some (.ref 42), some (.int x1), some (.int x2), some (.int x3), some (.int x4), some (.int x5), some (.int x6), some (.int x7), some (.int (0 : Int32)), some (.int (x9 + (1 : Int32)))] [] h) ∧ (¬ ((0 : Int32) ≤ x7) → zG M_X8_dark post (zat M_X8_dark 145) [some (.ref 42), some (.int x1), some (.int x2), some (.int x3), some (.int x4), some (.int x5), some (.int x6), some (.int (0 : Int32)), some (.int (0 : Int32)), some (.int (x9 + (1 : Int32)))] [] h))))) : zG M_X8_dark post (zat M_X8_dark 145) [some (.ref 42), some (.int x1), some (.int x2), some (.int x3), some (.int x4), some (.int x5), some (.int x6), some (.int x7), some (.int x8), some (.int x9)] [] h := zsg_sound (cuts := [(39, [true, true, true, true, true, false, false, false, false, false]), (145, [true, true, true, true, true, true, true, true, true, true])]) 29 t
theorem t_X8_hasWedge_0 (a1 : Int32) (a2 : Int32) (h : zH) (post : Option Value → zH → Prop) (t : zG M_X8_hasWedge post (zat M_X8_hasWedge 5) [some (.ref 42), some (.int a1), some (.int a2), some (.int (0 : Int32)), some (.int (0 : Int32))] [] h) : zG M_X8_hasWedge post (M_X8_hasWedge.1) [some (.ref 42), some (.int a1), some (.int a2), none, none] [] h := zsg_sound (cuts := [(5, [true, true, true, true, true])]) 6 t
theorem r_X8_hasWedge (a1 : Int32) (a2 : Int32) (h : zH) (o : Option Value) (h' : zH) (ho : o = some (.int 0) ∨ o = some (.int 1)) (t : zG M_X8_hasWedge (fun r1 h1 => r1 = o ∧ h1 = h') M_X8_hasWedge.1 [some (.ref 42), some (.int a1), some (.int a2), none, none] [] h) : R_X8_hasWedge [.ref 42, .int a1, .int a2] h o h' := ⟨rfl, ho, t⟩
theorem t_X8_hasWedge_5 (x1 : Int32) (x2 : Int32) (x3 : Int32) (x4 : Int32) (h : zH) (post : Option Value → zH → Prop) (t : vp_in x1 4 ∧ ((h.1 44 x1.toNatClampNeg) ≤ x4 → post (some (.int x3)) h) ∧ (¬ ((h.1 44 x1.toNatClampNeg) ≤ x4) → (¬ x3 = 0 → zG M_X8_hasWedge post (zat M_X8_hasWedge 5) [some (.ref 42), some (.int x1), some (.int x2), some (.int (1 : Int32)), some (.int (x4 + (1 : Int32)))] [] h) ∧ (¬ ¬ x3 = 0 → vp_in (((3 : Int32) * x1) + x4) 12 ∧ (¬ (h.1 45 (((3 : Int32) * x1) + x4).toNatClampNeg) = x2 → zG M_X8_hasWedge post (zat M_X8_hasWedge 5) [some (.ref 42), some (.int x1), some (.int x2), some (.int (0 : Int32)), some (.int (x4 + (1 : Int32)))] [] h) ∧ (¬ ¬ (h.1 45 (((3 : Int32) * x1) + x4).toNatClampNeg) = x2 → zG M_X8_hasWedge post (zat M_X8_hasWedge 5) [some (.ref 42), some (.int x1), some (.int x2), some (.int (1 : Int32)), some (.int (x4 + (1 : Int32)))] [] h)))) : zG M_X8_hasWedge post (zat M_X8_hasWedge 5) [some (.ref 42), some (.int x1), some (.int x2), some (.int x3), some (.int x4)] [] h := zsg_sound (cuts := [(5, [true, true, true, true, true])]) 25 t
theorem t_X8_wedge_0 (a1 : Int32) (a2 : Int32) (h : zH) (post : Option Value → zH → Prop) (t : ∃ (v1 : Int32) (h1 : zH), R_X8_in [.int a1, .int (0 : Int32), .int (3 : Int32)] h (some (.int v1)) h1 ∧ (v1 = 0 → post (some (.int (-1 : Int32))) h1) ∧ (¬ (v1 = 0) → ∃ (v2 : Int32) (h2 : zH), R_X8_in [.int a2, .int (200 : Int32), .int (1200 : Int32)] h1 (some (.int v2)) h2 ∧ (¬ v2 = 0 → ∃ (v3 : Int32) (h3 : zH), R_X8_hasWedge [.ref 42, .int a1, .int a2] h2 (some (.int v3)) h3 ∧ (v3 = 0 → vp_in a1 4 ∧ (¬ (h3.1 44 a1.toNatClampNeg) = (3 : Int32) → vp_in a1 4 ∧ vp_in (((3 : Int32) * a1) + (h3.1 44 a1.toNatClampNeg)) 12 ∧ vp_in a1 4 ∧ vp_in a1 4 ∧ vp_in a1 4 ∧ post (some (.int ((zsi (zsi h3 45 (((3 : Int32) * a1) + (h3.1 44 a1.toNatClampNeg)).toNatClampNeg a2) 44 a1.toNatClampNeg (((zsi h3 45 (((3 : Int32) * a1) + (h3.1 44 a1.toNatClampNeg)).toNatClampNeg a2).1 44 a1.toNatClampNeg) + (1 : Int32))).1 44 a1.toNatClampNeg))) (zsi (zsi h3 45 (((3 : Int32) * a1) + (h3.1 44 a1.toNatClampNeg)).toNatClampNeg a2) 44 a1.toNatClampNeg (((zsi h3 45 (((3 : Int32) * a1) + (h3.1 44 a1.toNatClampNeg)).toNatClampNeg a2).1 44 a1.toNatClampNeg) + (1 : Int32)))) ∧ (¬ ¬ (h3.1 44 a1.toNatClampNeg) = (3 : Int32) → post (some (.int (-3 : Int32))) h3)) ∧ (¬ (v3 = 0) → post (some (.int (-2 : Int32))) h3)) ∧ (¬ ¬ v2 = 0 → post (some (.int (-1 : Int32))) h2))) : zG M_X8_wedge post (M_X8_wedge.1) [some (.ref 42), some (.int a1), some (.int a2)] [] h := zsg_sound (cuts := []) 47 t
theorem r_X8_wedge (a1 : Int32) (a2 : Int32) (h : zH) (o : Option Value) (h' : zH) (ho : ∃ v, o = some (.int v)) (t : zG M_X8_wedge (fun r1 h1 => r1 = o ∧ h1 = h') M_X8_wedge.1 [some (.ref 42), some (.int a1), some (.int a2)] [] h) : R_X8_wedge [.ref 42, .int a1, .int a2] h o h' := ⟨rfl, ho, t⟩
theorem t_X8_noWedges_0 (a1 : Int32) (h : zH) (post : Option Value → zH → Prop) (t : ∃ (v1 : Int32) (h1 : zH), R_X8_in [.int a1, .int (0 : Int32), .int (3 : Int32)] h (some (.int v1)) h1 ∧ (¬ v1 = 0 → vp_in a1 4 ∧ vp_in a1 4 ∧ post (some (.int (h1.1 44 a1.toNatClampNeg))) (zsi h1 44 a1.toNatClampNeg (0 : Int32))) ∧ (¬ ¬ v1 = 0 → post (some (.int (-1 : Int32))) h1)) : zG M_X8_noWedges post (M_X8_noWedges.1) [some (.ref 42), some (.int a1), none] [] h := zsg_sound (cuts := []) 18 t
theorem r_X8_noWedges (a1 : Int32) (h : zH) (o : Option Value) (h' : zH) (ho : ∃ v, o = some (.int v)) (t : zG M_X8_noWedges (fun r1 h1 => r1 = o ∧ h1 = h') M_X8_noWedges.1 [some (.ref 42), some (.int a1), none] [] h) : R_X8_noWedges [.ref 42, .int a1] h o h' := ⟨rfl, ho, t⟩
theorem t_X8_turnedBy_0 (a1 : Int32) (a2 : Int32) (a3 : Int32) (h : zH) (post : Option Value → zH → Prop) (t : ∃ (v1 : Int32) (h1 : zH), R_X8_bent [.ref 42, .int (1 : Int32), .int a2, .int a3] h (some (.int v1)) h1 ∧ (0 ≤ (a1 - v1) → ∃ (v2 : Int32) (h2 : zH), R_X8_least [.ref 42, .int (1 : Int32), .int a2, .int (a1 - v1)] h1 (some (.int v2)) h2 ∧ (¬ v2 = (-4 : Int32) → post (some (.int ((a3 + v2) - a1))) h2) ∧ (¬ ¬ v2 = (-4 : Int32) → post (some (.int (-10000 : Int32))) h2)) ∧ (¬ (0 ≤ (a1 - v1)) → (¬ (-4 : Int32) = (-4 : Int32) → post (some (.int ((a3 + (-4 : Int32)) - a1))) h1) ∧ (¬ ¬ (-4 : Int32) = (-4 : Int32) → post (some (.int (-10000 : Int32))) h1))) : zG M_X8_turnedBy post (M_X8_turnedBy.1) [some (.ref 42), some (.int a1), some (.int a2), some (.int a3), none, none] [] h := zsg_sound (cuts := []) 26 t
theorem r_X8_turnedBy (a1 : Int32) (a2 : Int32) (a3 : Int32) (h : zH) (o : Option Value) (h' : zH) (ho : ∃ v, o = some (.int v)) (t : zG M_X8_turnedBy (fun r1 h1 => r1 = o ∧ h1 = h') M_X8_turnedBy.1 [some (.ref 42), some (.int a1), some (.int a2), some (.int a3), none, none] [] h) : R_X8_turnedBy [.ref 42, .int a1, .int a2, .int a3] h o h' := ⟨rfl, ho, t⟩
theorem t_X8_turned_0 (a1 : Int32) (a2 : Int32) (a3 : Int32) (h : zH) (post : Option Value → zH → Prop) (t : ∃ (v1 : Int32) (h1 : zH), R_X8_in [.int a1, .int (200 : Int32), .int (1200 : Int32)] h (some (.int v1)) h1 ∧ (v1 = 0 → post (some (.int (-100000 : Int32))) h1) ∧ (¬ (v1 = 0) → ∃ (v2 : Int32) (h2 : zH), R_X8_in [.int a2, .int (0 : Int32), .int (3 : Int32)] h1 (some (.int v2)) h2 ∧ (v2 = 0 → post (some (.int (-100000 : Int32))) h2) ∧ (¬ (v2 = 0) → ∃ (v3 : Int32) (h3 : zH), R_X8_in [.int a3, .int (0 : Int32), .int (900 : Int32)] h2 (some (.int v3)) h3 ∧ (v3 = 0 → post (some (.int (-100000 : Int32))) h3) ∧ (¬ (v3 = 0) → ∃ (v4 : Int32) (h4 : zH), R_X8_turnedBy [.ref 42, .int a1, .int a2, .int a3] h3 (some (.int v4)) h4 ∧ post (some (.int v4)) h4)))) : zG M_X8_turned post (M_X8_turned.1) [some (.ref 42), some (.int a1), some (.int a2), some (.int a3)] [] h := zsg_sound (cuts := []) 23 t
theorem r_X8_turned (a1 : Int32) (a2 : Int32) (a3 : Int32) (h : zH) (o : Option Value) (h' : zH) (ho : ∃ v, o = some (.int v)) (t : zG M_X8_turned (fun r1 h1 => r1 = o ∧ h1 = h') M_X8_turned.1 [some (.ref 42), some (.int a1), some (.int a2), some (.int a3)] [] h) : R_X8_turned [.ref 42, .int a1, .int a2, .int a3] h o h' := ⟨rfl, ho, t⟩
theorem t_X8_ringOf_0 (a1 : Int32) (a2 : Int32) (h : zH) (post : Option Value → zH → Prop) (t : zG M_X8_ringOf post (zat M_X8_ringOf 7) [some (.ref 42), some (.int a1), some (.int a2), some (.int (-10000 : Int32)), some (.int (0 : Int32)), none] [] h) : zG M_X8_ringOf post (M_X8_ringOf.1) [some (.ref 42), some (.int a1), some (.int a2), none, none, none] [] h := zsg_sound (cuts := [(7, [true, true, true, true, true, false])]) 6 t
theorem r_X8_ringOf (a1 : Int32) (a2 : Int32) (h : zH) (o : Option Value) (h' : zH) (ho : ∃ v, o = some (.int v)) (t : zG M_X8_ringOf (fun r1 h1 => r1 = o ∧ h1 = h') M_X8_ringOf.1 [some (.ref 42), some (.int a1), some (.int a2), none, none, none] [] h) : R_X8_ringOf [.ref 42, .int a1, .int a2] h o h' := ⟨rfl, ho, t⟩
theorem t_X8_ringOf_7 (x1 : Int32) (x2 : Int32) (x3 : Int32) (x4 : Int32) (h : zH) (post : Option Value → zH → Prop) (t : ((900 : Int32) < x4 → post (some (.int x3)) h) ∧ (¬ ((900 : Int32) < x4) → ∃ (v1 : Int32) (h1 : zH), R_X8_turnedBy [.ref 42, .int x1, .int x2, .int x4] h (some (.int v1)) h1 ∧ (v1 = (-10000 : Int32) → zG M_X8_ringOf post (zat M_X8_ringOf 7) [some (.ref 42), some (.int x1), some (.int x2), some (.int x3), some (.int (x4 + (1 : Int32))), none] [] h1) ∧ (¬ (v1 = (-10000 : Int32)) → (x3 = (-10000 : Int32) → zG M_X8_ringOf post (zat M_X8_ringOf 7) [some (.ref 42), some (.int x1), some (.int x2), some (.int v1), some (.int (x4 + (1 : Int32))), none] [] h1) ∧ (¬ (x3 = (-10000 : Int32)) → (x3 ≤ v1 → zG M_X8_ringOf post (zat M_X8_ringOf 7) [some (.ref 42), some (.int x1), some (.int x2), some (.int x3), some (.int (x4 + (1 : Int32))), none] [] h1) ∧ (¬ (x3 ≤ v1) → zG M_X8_ringOf post (zat M_X8_ringOf 7) [some (.ref 42), some (.int x1), some (.int x2), some (.int v1), some (.int (x4 + (1 : Int32))), none] [] h1))))) : zG M_X8_ringOf post (zat M_X8_ringOf 7) [some (.ref 42), some (.int x1), some (.int x2), some (.int x3), some (.int x4), none] [] h := zsg_sound (cuts := [(7, [true, true, true, true, true, false])]) 25 t
theorem t_X8_ring_0 (a1 : Int32) (a2 : Int32) (h : zH) (post : Option Value → zH → Prop) (t : ∃ (v1 : Int32) (h1 : zH), R_X8_in [.int a1, .int (200 : Int32), .int (1200 : Int32)] h (some (.int v1)) h1 ∧ (v1 = 0 → post (some (.int (-100000 : Int32))) h1) ∧ (¬ (v1 = 0) → ∃ (v2 : Int32) (h2 : zH), R_X8_in [.int a2, .int (0 : Int32), .int (3 : Int32)] h1 (some (.int v2)) h2 ∧ (v2 = 0 → post (some (.int (-100000 : Int32))) h2) ∧ (¬ (v2 = 0) → ∃ (v3 : Int32) (h3 : zH), R_X8_ringOf [.ref 42, .int a1, .int a2] h2 (some (.int v3)) h3 ∧ post (some (.int v3)) h3))) : zG M_X8_ring post (M_X8_ring.1) [some (.ref 42), some (.int a1), some (.int a2)] [] h := zsg_sound (cuts := []) 17 t
theorem r_X8_ring (a1 : Int32) (a2 : Int32) (h : zH) (o : Option Value) (h' : zH) (ho : ∃ v, o = some (.int v)) (t : zG M_X8_ring (fun r1 h1 => r1 = o ∧ h1 = h') M_X8_ring.1 [some (.ref 42), some (.int a1), some (.int a2)] [] h) : R_X8_ring [.ref 42, .int a1, .int a2] h o h' := ⟨rfl, ho, t⟩
theorem t_X8_layRings_0  (h : zH) (post : Option Value → zH → Prop) (t : zG M_X8_layRings post (zat M_X8_layRings 2) [some (.ref 42), some (.int (0 : Int32)), none] [] h) : zG M_X8_layRings post (M_X8_layRings.1) [some (.ref 42), none, none] [] h := zsg_sound (cuts := [(2, [true, true, false]), (9, [true, true, true])]) 4 t
theorem r_X8_layRings  (h : zH) (o : Option Value) (h' : zH) (ho : o = none) (t : zG M_X8_layRings (fun r1 h1 => r1 = o ∧ h1 = h') M_X8_layRings.1 [some (.ref 42), none, none] [] h) : R_X8_layRings [.ref 42] h o h' := ⟨rfl, ho, t⟩
theorem t_X8_layRings_2 (x1 : Int32) (h : zH) (post : Option Value → zH → Prop) (t : ((4 : Int32) ≤ x1 → post none h) ∧ (¬ ((4 : Int32) ≤ x1) → zG M_X8_layRings post (zat M_X8_layRings 9) [some (.ref 42), some (.int x1), some (.int (0 : Int32))] [] h)) : zG M_X8_layRings post (zat M_X8_layRings 2) [some (.ref 42), some (.int x1), none] [] h := zsg_sound (cuts := [(2, [true, true, false]), (9, [true, true, true])]) 7 t
theorem t_X8_layRings_9 (x1 : Int32) (x2 : Int32) (h : zH) (post : Option Value → zH → Prop) (t : vp_in x1 4 ∧ ((h.1 44 x1.toNatClampNeg) ≤ x2 → zG M_X8_layRings post (zat M_X8_layRings 2) [some (.ref 42), some (.int (x1 + (1 : Int32))), none] [] h) ∧ (¬ ((h.1 44 x1.toNatClampNeg) ≤ x2) → vp_in (((3 : Int32) * x1) + x2) 12 ∧ ∃ (v1 : Int32) (h1 : zH), R_X8_ringOf [.ref 42, .int (h.1 45 (((3 : Int32) * x1) + x2).toNatClampNeg), .int (0 : Int32)] h (some (.int v1)) h1 ∧ vp_in (((3 : Int32) * x1) + x2) 12 ∧ zG M_X8_layRings post (zat M_X8_layRings 9) [some (.ref 42), some (.int x1), some (.int (x2 + (1 : Int32)))] [] (zsi h1 56 (((3 : Int32) * x1) + x2).toNatClampNeg v1))) : zG M_X8_layRings post (zat M_X8_layRings 9) [some (.ref 42), some (.int x1), some (.int x2)] [] h := zsg_sound (cuts := [(2, [true, true, false]), (9, [true, true, true])]) 29 t
theorem t_X8_put_0 (a1 : Int32) (a2 : Int32) (a3 : Int32) (a4 : Int32) (h : zH) (post : Option Value → zH → Prop) (t : vp_in (h.1 42 21) 8 ∧ vp_in ((zsi h 57 (h.1 42 21).toNatClampNeg a1).1 42 21) 8 ∧ vp_in ((zsi (zsi h 57 (h.1 42 21).toNatClampNeg a1) 58 ((zsi h 57 (h.1 42 21).toNatClampNeg a1).1 42 21).toNatClampNeg a2).1 42 21) 8 ∧ vp_in ((zsi (zsi (zsi h 57 (h.1 42 21).toNatClampNeg a1) 58 ((zsi h 57 (h.1 42 21).toNatClampNeg a1).1 42 21).toNatClampNeg a2) 59 ((zsi (zsi h 57 (h.1 42 21).toNatClampNeg a1) 58 ((zsi h 57 (h.1 42 21).toNatClampNeg a1).1 42 21).toNatClampNeg a2).1 42 21).toNatClampNeg a3).1 42 21) 8 ∧ post none (zsi (zsi (zsi (zsi (zsi h 57 (h.1 42 21).toNatClampNeg a1) 58 ((zsi h 57 (h.1 42 21).toNatClampNeg a1).1 42 21).toNatClampNeg a2) 59 ((zsi (zsi h 57 (h.1 42 21).toNatClampNeg a1) 58 ((zsi h 57 (h.1 42 21).toNatClampNeg a1).1 42 21).toNatClampNeg a2).1 42 21).toNatClampNeg a3) 60 ((zsi (zsi (zsi h 57 (h.1 42 21).toNatClampNeg a1) 58 ((zsi h 57 (h.1 42 21).toNatClampNeg a1).1 42 21).toNatClampNeg a2) 59 ((zsi (zsi h 57 (h.1 42 21).toNatClampNeg a1) 58 ((zsi h 57 (h.1 42 21).toNatClampNeg a1).1 42 21).toNatClampNeg a2).1 42 21).toNatClampNeg a3).1 42 21).toNatClampNeg a4) 42 21 (((zsi (zsi (zsi (zsi h 57 (h.1 42 21).toNatClampNeg a1) 58 ((zsi h 57 (h.1 42 21).toNatClampNeg a1).1 42 21).toNatClampNeg a2) 59 ((zsi (zsi h 57 (h.1 42 21).toNatClampNeg a1) 58 ((zsi h 57 (h.1 42 21).toNatClampNeg a1).1 42 21).toNatClampNeg a2).1 42 21).toNatClampNeg a3) 60 ((zsi (zsi (zsi h 57 (h.1 42 21).toNatClampNeg a1) 58 ((zsi h 57 (h.1 42 21).toNatClampNeg a1).1 42 21).toNatClampNeg a2) 59 ((zsi (zsi h 57 (h.1 42 21).toNatClampNeg a1) 58 ((zsi h 57 (h.1 42 21).toNatClampNeg a1).1 42 21).toNatClampNeg a2).1 42 21).toNatClampNeg a3).1 42 21).toNatClampNeg a4).1 42 21) + (1 : Int32)))) : zG M_X8_put post (M_X8_put.1) [some (.ref 42), some (.int a1), some (.int a2), some (.int a3), some (.int a4)] [] h := zsg_sound (cuts := []) 32 t
theorem r_X8_put (a1 : Int32) (a2 : Int32) (a3 : Int32) (a4 : Int32) (h : zH) (o : Option Value) (h' : zH) (ho : o = none) (t : zG M_X8_put (fun r1 h1 => r1 = o ∧ h1 = h') M_X8_put.1 [some (.ref 42), some (.int a1), some (.int a2), some (.int a3), some (.int a4)] [] h) : R_X8_put [.ref 42, .int a1, .int a2, .int a3, .int a4] h o h' := ⟨rfl, ho, t⟩
theorem t_X8_putRing_0 (a1 : Int32) (a2 : Int32) (a3 : Int32) (h : zH) (post : Option Value → zH → Prop) (t : ¬ (h.1 42 4) = 0 ∧ ((600 : Int32) < a3 → (a1.toInt < 0 ∨ 2 < a1.toInt → ((0 : Int32) = 0 → post none h) ∧ (¬ ((0 : Int32) = 0) → ∃ h1 : zH, R_X8_put [.ref 42, .int (2 : Int32), .int (1 : Int32), .int a2, .int ((a2 + ((a2 * a3) / (h.1 42 4))) + (h.1 42 5))] h none h1 ∧ post none h1)) ∧ (a1.toInt = 0 → ∃ h1 : zH, R_X8_put [.ref 42, .int (0 : Int32), .int (0 : Int32), .int a2, .int a2] h none h1 ∧ post none h1) ∧ (a1.toInt = 1 → ((0 : Int32) = 0 → post none h) ∧ (¬ ((0 : Int32) = 0) → ∃ h1 : zH, R_X8_put [.ref 42, .int (2 : Int32), .int (1 : Int32), .int (a2 + ((a2 * a3) / (h.1 42 4))), .int (a2 + ((a2 * a3) / (h.1 42 4)))] h none h1 ∧ post none h1)) ∧ (a1.toInt = 2 → ((900 : Int32) < (a3 + a2) → (a3 < a2 → post none h) ∧ (¬ (a3 < a2) → ∃ h1 : zH, R_X8_put [.ref 42, .int (1 : Int32), .int (3 : Int32), .int a2, .int a2] h none h1 ∧ post none h1)) ∧ (¬ ((900 : Int32) < (a3 + a2)) → ∃ h1 : zH, R_X8_put [.ref 42, .int (1 : Int32), .int (2 : Int32), .int a2, .int a2] h none h1 ∧ (a3 < a2 → post none h1) ∧ (¬ (a3 < a2) → ∃ h2 : zH, R_X8_put [.ref 42, .int (1 : Int32), .int (3 : Int32), .int a2, .int a2] h1 none h2 ∧ post none h2))) ∧ True) ∧ (¬ ((600 : Int32) < a3) → ((1800 : Int32) < (a2 + ((a2 * a3) / (h.1 42 4))) → (a1.toInt < 0 ∨ 2 < a1.toInt → ((0 : Int32) = 0 → post none h) ∧ (¬ ((0 : Int32) = 0) → ∃ h1 : zH, R_X8_put [.ref 42, .int (2 : Int32), .int (1 : Int32), .int a2, .int ((a2 + ((a2 * a3) / (h.1 42 4))) + (h.1 42 5))] h none h1 ∧ post none h1)) ∧ (a1.toInt = 0 → ∃ h1 : zH, R_X8_put [.ref 42, .int (0 : Int32), .int (0 : Int32), .int a2, .int a2] h none h1 ∧ post none h1) ∧ (a1.toInt = 1 → ((0 : Int32) = 0 → post none h) ∧ (¬ ((0 : Int32) = 0) → ∃ h1 : zH, R_X8_put [.ref 42, .int (2 : Int32), .int (1 : Int32), .int (a2 + ((a2 * a3) / (h.1 42 4))), .int (a2 + ((a2 * a3) / (h.1 42 4)))] h none h1 ∧ post none h1)) ∧ (a1.toInt = 2 → ((900 : Int32) < (a3 + a2) → (a3 < a2 → post none h) ∧ (¬ (a3 < a2) → ∃ h1 : zH, R_X8_put [.ref 42, .int (1 : Int32), .int (3 : Int32), .int a2, .int a2] h none h1 ∧ post none h1)) ∧ (¬ ((900 : Int32) < (a3 + a2)) → ∃ h1 : zH, R_X8_put [.ref 42, .int (1 : Int32), .int (2 : Int32), .int a2, .int a2] h none h1 ∧ (a3 < a2 → post none h1) ∧ (¬ (a3 < a2) → ∃ h2 : zH, R_X8_put [.ref 42, .int (1 : Int32), .int (3 : Int32), .int a2, .int a2] h1 none h2 ∧ post none h2))) ∧ True) ∧ (¬ ((1800 : Int32) < (a2 + ((a2 * a3) / (h.1 42 4)))) → (a1.toInt < 0 ∨ 2 < a1.toInt → ((1 : Int32) = 0 → post none h) ∧ (¬ ((1 : Int32) = 0) → ∃ h1 : zH, R_X8_put [.ref 42, .int (2 : Int32), .int (1 : Int32), .int a2, .int ((a2 + ((a2 * a3) / (h.1 42 4))) + (h.1 42 5))] h none h1 ∧ post none h1)) ∧ (a1.toInt = 0 → ∃ h1 : zH, R_X8_put [.ref 42, .int (0 : Int32), .int (0 : Int32), .int a2, .int a2] h none h1 ∧ post none h1) ∧ (a1.toInt = 1 → ((1 : Int32) = 0 → post none h) ∧ (¬ ((1 : Int32) = 0) → ∃ h1 : zH, R_X8_put [.ref 42, .int (2 : Int32), .int (1 : Int32), .int (a2 + ((a2 * a3) / (h.1 42 4))), .int (a2 + ((a2 * a3) / (h.1 42 4)))] h none h1 ∧ post none h1)) ∧ (a1.toInt = 2 → ((900 : Int32) < (a3 + a2) → (a3 < a2 → post none h) ∧ (¬ (a3 < a2) → ∃ h1 : zH, R_X8_put [.ref 42, .int (1 : Int32), .int (3 : Int32), .int a2, .int a2] h none h1 ∧ post none h1)) ∧ (¬ ((900 : Int32) < (a3 + a2)) → ∃ h1 : zH, R_X8_put [.ref 42, .int (1 : Int32), .int (2 : Int32), .int a2, .int a2] h none h1 ∧ (a3 < a2 → post none h1) ∧ (¬ (a3 < a2) → ∃ h2 : zH, R_X8_put [.ref 42, .int (1 : Int32), .int (3 : Int32), .int a2, .int a2] h1 none h2 ∧ post none h2))) ∧ True))) : zG M_X8_putRing post (M_X8_putRing.1) [some (.ref 42), some (.int a1), some (.int a2), some (.int a3), none, none] [] h := zsg_sound (cuts := []) 43 t
theorem r_X8_putRing (a1 : Int32) (a2 : Int32) (a3 : Int32) (h : zH) (o : Option Value) (h' : zH) (ho : o = none) (t : zG M_X8_putRing (fun r1 h1 => r1 = o ∧ h1 = h') M_X8_putRing.1 [some (.ref 42), some (.int a1), some (.int a2), some (.int a3), none, none] [] h) : R_X8_putRing [.ref 42, .int a1, .int a2, .int a3] h o h' := ⟨rfl, ho, t⟩
theorem t_X8_layLights_0 (a1 : Int32) (a2 : Int32) (h : zH) (post : Option Value → zH → Prop) (t : ¬ (4 : Int32) = 0 ∧ ¬ (4 : Int32) = 0 ∧ zG M_X8_layLights post (zat M_X8_layLights 17) [some (.ref 42), some (.int a1), some (.int a2), some (.int (a1 / (4 : Int32))), some (.int (a1 - a1 / (4 : Int32) * (4 : Int32))), some (.int (0 : Int32))] [] (zsi h 42 21 (0 : Int32))) : zG M_X8_layLights post (M_X8_layLights.1) [some (.ref 42), some (.int a1), some (.int a2), none, none, none] [] h := zsg_sound (cuts := [(17, [true, true, true, true, true, true])]) 15 t
theorem r_X8_layLights (a1 : Int32) (a2 : Int32) (h : zH) (o : Option Value) (h' : zH) (ho : o = none) (t : zG M_X8_layLights (fun r1 h1 => r1 = o ∧ h1 = h') M_X8_layLights.1 [some (.ref 42), some (.int a1), some (.int a2), none, none, none] [] h) : R_X8_layLights [.ref 42, .int a1, .int a2] h o h' := ⟨rfl, ho, t⟩
theorem t_X8_layLights_17 (x1 : Int32) (x2 : Int32) (x3 : Int32) (x4 : Int32) (x5 : Int32) (h : zH) (post : Option Value → zH → Prop) (t : vp_in x3 4 ∧ ((h.1 44 x3.toNatClampNeg) ≤ x5 → (¬ x4 = (1 : Int32) → (¬ x4 = (2 : Int32) → (¬ x4 = (3 : Int32) → post none h) ∧ (¬ ¬ x4 = (3 : Int32) → ∃ h1 : zH, R_X8_put [.ref 42, .int (3 : Int32), .int (1 : Int32), .int (0 : Int32), .int (1800 : Int32)] h none h1 ∧ post none h1)) ∧ (¬ ¬ x4 = (2 : Int32) → ∃ (v1 : Int32) (h1 : zH), R_X8_hasWedge [.ref 42, .int x3, .int (900 : Int32)] h (some (.int v1)) h1 ∧ (v1 = 0 → (¬ x4 = (3 : Int32) → post none h1) ∧ (¬ ¬ x4 = (3 : Int32) → ∃ h2 : zH, R_X8_put [.ref 42, .int (3 : Int32), .int (1 : Int32), .int (0 : Int32), .int (1800 : Int32)] h1 none h2 ∧ post none h2)) ∧ (¬ (v1 = 0) → ∃ h2 : zH, R_X8_put [.ref 42, .int (2 : Int32), .int (1 : Int32), .int (1800 : Int32), .int (1800 : Int32)] h1 none h2 ∧ (¬ x4 = (3 : Int32) → post none h2) ∧ (¬ ¬ x4 = (3 : Int32) → ∃ h3 : zH, R_X8_put [.ref 42, .int (3 : Int32), .int (1 : Int32), .int (0 : Int32), .int (1800 : Int32)] h2 none h3 ∧ post none h3)))) ∧ (¬ ¬ x4 = (1 : Int32) → ∃ (v1 : Int32) (h1 : zH), R_X8_hasWedge [.ref 42, .int x3, .int (600 : Int32)] h (some (.int v1)) h1 ∧ (v1 = 0 → (¬ x4 = (2 : Int32) → (¬ x4 = (3 : Int32) → post none h1) ∧ (¬ ¬ x4 = (3 : Int32) → ∃ h2 : zH, R_X8_put [.ref 42, .int (3 : Int32), .int (1 : Int32), .int (0 : Int32), .int (1800 : Int32)] h1 none h2 ∧ post none h2)) ∧ (¬ ¬ x4 = (2 : Int32) → ∃ (v2 : Int32) (h2 : zH), R_X8_hasWedge [.ref 42, .int x3, .int (900 : Int32)] h1 (some (.int v2)) h2 ∧ (v2 = 0 → (¬ x4 = (3 : Int32) → post none h2) ∧ (¬ ¬ x4 = (3 : Int32) → ∃ h3 : zH, R_X8_put [.ref 42, .int (3 : Int32), .int (1 : Int32), .int (0 : Int32), .int (1800 : Int32)] h2 none h3 ∧ post none h3)) ∧ (¬ (v2 = 0) → ∃ h3 : zH, R_X8_put [.ref 42, .int (2 : Int32), .int (1 : Int32), .int (1800 : Int32), .int (1800 : Int32)] h2 none h3 ∧ (¬ x4 = (3 : Int32) → post none h3) ∧ (¬ ¬ x4 = (3 : Int32) → ∃ h4 : zH, R_X8_put [.ref 42, .int (3 : Int32), .int (1 : Int32), .int (0 : Int32), .int (1800 : Int32)] h3 none h4 ∧ post none h4)))) ∧ (¬ (v1 = 0) → ∃ h2 : zH, R_X8_put [.ref 42, .int (2 : Int32), .int (1 : Int32), .int (1200 : Int32), .int (1200 : Int32)] h1 none h2 ∧ (¬ x4 = (2 : Int32) → (¬ x4 = (3 : Int32) → post none h2) ∧ (¬ ¬ x4 = (3 : Int32) → ∃ h3 : zH, R_X8_put [.ref 42, .int (3 : Int32), .int (1 : Int32), .int (0 : Int32), .int (1800 : Int32)] h2 none h3 ∧ post none h3)) ∧ (¬ ¬ x4 = (2 : Int32) → ∃ (v3 : Int32) (h3 : zH), R_X8_hasWedge [.ref 42, .int x3, .int (900 : Int32)] h2 (some (.int v3)) h3 ∧ (v3 = 0 → (¬ x4 = (3 : Int32) → post none h3) ∧ (¬ ¬ x4 = (3 : Int32) → ∃ h4 : zH, R_X8_put [.ref 42, .int (3 : Int32), .int (1 : Int32), .int (0 : Int32), .int (1800 : Int32)] h3 none h4 ∧ post none h4)) ∧ (¬ (v3 = 0) → ∃ h4 : zH, R_X8_put [.ref 42, .int (2 : Int32), .int (1 : Int32), .int (1800 : Int32), .int (1800 : Int32)] h3 none h4 ∧ (¬ x4 = (3 : Int32) → post none h4) ∧ (¬ ¬ x4 = (3 : Int32) → ∃ h5 : zH, R_X8_put [.ref 42, .int (3 : Int32), .int (1 : Int32), .int (0 : Int32), .int (1800 : Int32)] h4 none h5 ∧ post none h5)))))) ∧ (¬ ((h.1 44 x3.toNatClampNeg) ≤ x5) → vp_in (((3 : Int32) * x3) + x5) 12 ∧ ((h.1 56 (((3 : Int32) * x3) + x5).toNatClampNeg) = (-10000 : Int32) → zG M_X8_layLights post (zat M_X8_layLights 17) [some (.ref 42), some (.int x1), some (.int x2), some (.int x3), some (.int x4), some (.int (x5 + (1 : Int32)))] [] h) ∧ (¬ ((h.1 56 (((3 : Int32) * x3) + x5).toNatClampNeg) = (-10000 : Int32)) → vp_in (((3 : Int32) * x3) + x5) 12 ∧ ∃ h1 : zH, R_X8_putRing [.ref 42, .int x4, .int (h.1 56 (((3 : Int32) * x3) + x5).toNatClampNeg), .int x2] h none h1 ∧ zG M_X8_layLights post (zat M_X8_layLights 17) [some (.ref 42), some (.int x1), some (.int x2), some (.int x3), some (.int x4), some (.int (x5 + (1 : Int32)))] [] h1))) : zG M_X8_layLights post (zat M_X8_layLights 17) [some (.ref 42), some (.int x1), some (.int x2), some (.int x3), some (.int x4), some (.int x5)] [] h := zsg_sound (cuts := [(17, [true, true, true, true, true, true])]) 45 t
theorem t_X8_light_0 (a1 : Int32) (a2 : Int32) (a3 : Int32) (a4 : Int32) (h : zH) (post : Option Value → zH → Prop) (t : ∃ (v1 : Int32) (h1 : zH), R_X8_in [.int a1, .int (0 : Int32), .int (15 : Int32)] h (some (.int v1)) h1 ∧ (v1 = 0 → post (some (.int (-1 : Int32))) h1) ∧ (¬ (v1 = 0) → ∃ (v2 : Int32) (h2 : zH), R_X8_in [.int a2, .int (0 : Int32), .int (900 : Int32)] h1 (some (.int v2)) h2 ∧ (v2 = 0 → post (some (.int (-1 : Int32))) h2) ∧ (¬ (v2 = 0) → (a3 < (-1 : Int32) → post (some (.int (-1 : Int32))) h2) ∧ (¬ (a3 < (-1 : Int32)) → ∃ (v3 : Int32) (h3 : zH), R_X8_in [.int a4, .int (0 : Int32), .int (3 : Int32)] h2 (some (.int v3)) h3 ∧ (¬ v3 = 0 → ∃ h4 : zH, R_X8_layRings [.ref 42] h3 none h4 ∧ ∃ h5 : zH, R_X8_layLights [.ref 42, .int a1, .int a2] h4 none h5 ∧ (0 ≤ a3 → (a3 < (h5.1 42 21) → (¬ a4 = 0 → (¬ a4 = (1 : Int32) → (¬ a4 = (2 : Int32) → vp_in a3 8 ∧ post (some (.int (h5.1 60 a3.toNatClampNeg))) h5) ∧ (¬ ¬ a4 = (2 : Int32) → vp_in a3 8 ∧ post (some (.int (h5.1 59 a3.toNatClampNeg))) h5)) ∧ (¬ ¬ a4 = (1 : Int32) → vp_in a3 8 ∧ post (some (.int (h5.1 58 a3.toNatClampNeg))) h5)) ∧ (¬ ¬ a4 = 0 → vp_in a3 8 ∧ post (some (.int (h5.1 57 a3.toNatClampNeg))) h5)) ∧ (¬ (a3 < (h5.1 42 21)) → post (some (.int (-4 : Int32))) h5)) ∧ (¬ (0 ≤ a3) → post (some (.int (h5.1 42 21))) h5)) ∧ (¬ ¬ v3 = 0 → post (some (.int (-1 : Int32))) h3))))) : zG M_X8_light post (M_X8_light.1) [some (.ref 42), some (.int a1), some (.int a2), some (.int a3), some (.int a4)] [] h := zsg_sound (cuts := []) 45 t
theorem r_X8_light (a1 : Int32) (a2 : Int32) (a3 : Int32) (a4 : Int32) (h : zH) (o : Option Value) (h' : zH) (ho : ∃ v, o = some (.int v)) (t : zG M_X8_light (fun r1 h1 => r1 = o ∧ h1 = h') M_X8_light.1 [some (.ref 42), some (.int a1), some (.int a2), some (.int a3), some (.int a4)] [] h) : R_X8_light [.ref 42, .int a1, .int a2, .int a3, .int a4] h o h' := ⟨rfl, ho, t⟩
theorem t_X8_mark_0 (a1 : Int32) (a2 : Int32) (a3 : Int32) (a4 : Int32) (h : zH) (post : Option Value → zH → Prop) (t : ∃ (v1 : Int32) (h1 : zH), R_X8_in [.int a1, .int (-1 : Int32), .int (3 : Int32)] h (some (.int v1)) h1 ∧ (v1 = 0 → post (some (.int (-1 : Int32))) h1) ∧ (¬ (v1 = 0) → ∃ (v2 : Int32) (h2 : zH), R_X8_in [.int a2, .int (-1 : Int32), .int (3 : Int32)] h1 (some (.int v2)) h2 ∧ (v2 = 0 → post (some (.int (-1 : Int32))) h2) ∧ (¬ (v2 = 0) → ∃ (v3 : Int32) (h3 : zH), R_X8_in [.int a3, .int (0 : Int32), .int (1800 : Int32)] h2 (some (.int v3)) h3 ∧ (v3 = 0 → post (some (.int (-1 : Int32))) h3) ∧ (¬ (v3 = 0) → ∃ (v4 : Int32) (h4 : zH), R_X8_in [.int a4, .int (0 : Int32), .int (200 : Int32)] h3 (some (.int v4)) h4 ∧ (¬ v4 = 0 → (¬ (h4.1 42 8) = (12 : Int32) → vp_in (h4.1 42 8) 12 ∧ vp_in ((zsi h4 46 (h4.1 42 8).toNatClampNeg a1).1 42 8) 12 ∧ vp_in ((zsi (zsi h4 46 (h4.1 42 8).toNatClampNeg a1) 47 ((zsi h4 46 (h4.1 42 8).toNatClampNeg a1).1 42 8).toNatClampNeg a2).1 42 8) 12 ∧ vp_in ((zsi (zsi (zsi h4 46 (h4.1 42 8).toNatClampNeg a1) 47 ((zsi h4 46 (h4.1 42 8).toNatClampNeg a1).1 42 8).toNatClampNeg a2) 48 ((zsi (zsi h4 46 (h4.1 42 8).toNatClampNeg a1) 47 ((zsi h4 46 (h4.1 42 8).toNatClampNeg a1).1 42 8).toNatClampNeg a2).1 42 8).toNatClampNeg a3).1 42 8) 12 ∧ post (some (.int ((zsi (zsi (zsi (zsi (zsi h4 46 (h4.1 42 8).toNatClampNeg a1) 47 ((zsi h4 46 (h4.1 42 8).toNatClampNeg a1).1 42 8).toNatClampNeg a2) 48 ((zsi (zsi h4 46 (h4.1 42 8).toNatClampNeg a1) 47 ((zsi h4 46 (h4.1 42 8).toNatClampNeg a1).1 42 8).toNatClampNeg a2).1 42 8).toNatClampNeg a3) 49 ((zsi (zsi (zsi h4 46 (h4.1 42 8).toNatClampNeg a1) 47 ((zsi h4 46 (h4.1 42 8).toNatClampNeg a1).1 42 8).toNatClampNeg a2) 48 ((zsi (zsi h4 46 (h4.1 42 8).toNatClampNeg a1) 47 ((zsi h4 46 (h4.1 42 8).toNatClampNeg a1).1 42 8).toNatClampNeg a2).1 42 8).toNatClampNeg a3).1 42 8).toNatClampNeg a4) 42 8 (((zsi (zsi (zsi (zsi h4 46 (h4.1 42 8).toNatClampNeg a1) 47 ((zsi h4 46 (h4.1 42 8).toNatClampNeg a1).1 42 8).toNatClampNeg a2) 48 ((zsi (zsi h4 46 (h4.1 42 8).toNatClampNeg a1) 47 ((zsi h4 46 (h4.1 42 8).toNatClampNeg a1).1 42 8).toNatClampNeg a2).1 42 8).toNatClampNeg a3) 49 ((zsi (zsi (zsi h4 46 (h4.1 42 8).toNatClampNeg a1) 47 ((zsi h4 46 (h4.1 42 8).toNatClampNeg a1).1 42 8).toNatClampNeg a2) 48 ((zsi (zsi h4 46 (h4.1 42 8).toNatClampNeg a1) 47 ((zsi h4 46 (h4.1 42 8).toNatClampNeg a1).1 42 8).toNatClampNeg a2).1 42 8).toNatClampNeg a3).1 42 8).toNatClampNeg a4).1 42 8) + (1 : Int32))).1 42 8))) (zsi (zsi (zsi (zsi (zsi h4 46 (h4.1 42 8).toNatClampNeg a1) 47 ((zsi h4 46 (h4.1 42 8).toNatClampNeg a1).1 42 8).toNatClampNeg a2) 48 ((zsi (zsi h4 46 (h4.1 42 8).toNatClampNeg a1) 47 ((zsi h4 46 (h4.1 42 8).toNatClampNeg a1).1 42 8).toNatClampNeg a2).1 42 8).toNatClampNeg a3) 49 ((zsi (zsi (zsi h4 46 (h4.1 42 8).toNatClampNeg a1) 47 ((zsi h4 46 (h4.1 42 8).toNatClampNeg a1).1 42 8).toNatClampNeg a2) 48 ((zsi (zsi h4 46 (h4.1 42 8).toNatClampNeg a1) 47 ((zsi h4 46 (h4.1 42 8).toNatClampNeg a1).1 42 8).toNatClampNeg a2).1 42 8).toNatClampNeg a3).1 42 8).toNatClampNeg a4) 42 8 (((zsi (zsi (zsi (zsi h4 46 (h4.1 42 8).toNatClampNeg a1) 47 ((zsi h4 46 (h4.1 42 8).toNatClampNeg a1).1 42 8).toNatClampNeg a2) 48 ((zsi (zsi h4 46 (h4.1 42 8).toNatClampNeg a1) 47 ((zsi h4 46 (h4.1 42 8).toNatClampNeg a1).1 42 8).toNatClampNeg a2).1 42 8).toNatClampNeg a3) 49 ((zsi (zsi (zsi h4 46 (h4.1 42 8).toNatClampNeg a1) 47 ((zsi h4 46 (h4.1 42 8).toNatClampNeg a1).1 42 8).toNatClampNeg a2) 48 ((zsi (zsi h4 46 (h4.1 42 8).toNatClampNeg a1) 47 ((zsi h4 46 (h4.1 42 8).toNatClampNeg a1).1 42 8).toNatClampNeg a2).1 42 8).toNatClampNeg a3).1 42 8).toNatClampNeg a4).1 42 8) + (1 : Int32)))) ∧ (¬ ¬ (h4.1 42 8) = (12 : Int32) → post (some (.int (-3 : Int32))) h4)) ∧ (¬ ¬ v4 = 0 → post (some (.int (-1 : Int32))) h4))))) : zG M_X8_mark post (M_X8_mark.1) [some (.ref 42), some (.int a1), some (.int a2), some (.int a3), some (.int a4)] [] h := zsg_sound (cuts := []) 58 t
theorem r_X8_mark (a1 : Int32) (a2 : Int32) (a3 : Int32) (a4 : Int32) (h : zH) (o : Option Value) (h' : zH) (ho : ∃ v, o = some (.int v)) (t : zG M_X8_mark (fun r1 h1 => r1 = o ∧ h1 = h') M_X8_mark.1 [some (.ref 42), some (.int a1), some (.int a2), some (.int a3), some (.int a4)] [] h) : R_X8_mark [.ref 42, .int a1, .int a2, .int a3, .int a4] h o h' := ⟨rfl, ho, t⟩
theorem t_X8_wipe_0  (h : zH) (post : Option Value → zH → Prop) (t : post (some (.int (h.1 42 8))) (zsi h 42 8 (0 : Int32))) : zG M_X8_wipe post (M_X8_wipe.1) [some (.ref 42), none] [] h := zsg_sound (cuts := []) 9 t
theorem r_X8_wipe  (h : zH) (o : Option Value) (h' : zH) (ho : ∃ v, o = some (.int v)) (t : zG M_X8_wipe (fun r1 h1 => r1 = o ∧ h1 = h') M_X8_wipe.1 [some (.ref 42), none] [] h) : R_X8_wipe [.ref 42] h o h' := ⟨rfl, ho, t⟩
theorem t_X8_meets_0 (a1 : Int32) (a2 : Int32) (h : zH) (post : Option Value → zH → Prop) (t : vp_in a2 12 ∧ ((h.1 46 a2.toNatClampNeg) < 0 → vp_in a2 12 ∧ ((h.1 47 a2.toNatClampNeg) < 0 → ((1 : Int32) = 0 → post (some (.int (0 : Int32))) h) ∧ (¬ ((1 : Int32) = 0) → ((1 : Int32) = 0 → post (some (.int (0 : Int32))) h) ∧ (¬ ((1 : Int32) = 0) → vp_in a2 12 ∧ vp_in a1 8 ∧ vp_in a2 12 ∧ ((h.1 48 a2.toNatClampNeg) < ((h.1 59 a1.toNatClampNeg) - (h.1 49 a2.toNatClampNeg)) → post (some (.int (0 : Int32))) h) ∧ (¬ ((h.1 48 a2.toNatClampNeg) < ((h.1 59 a1.toNatClampNeg) - (h.1 49 a2.toNatClampNeg))) → vp_in a2 12 ∧ vp_in a1 8 ∧ vp_in a2 12 ∧ (((h.1 60 a1.toNatClampNeg) + (h.1 49 a2.toNatClampNeg)) < (h.1 48 a2.toNatClampNeg) → post (some (.int (0 : Int32))) h) ∧ (¬ (((h.1 60 a1.toNatClampNeg) + (h.1 49 a2.toNatClampNeg)) < (h.1 48 a2.toNatClampNeg)) → post (some (.int (1 : Int32))) h))))) ∧ (¬ ((h.1 47 a2.toNatClampNeg) < 0) → vp_in a2 12 ∧ vp_in a1 8 ∧ (¬ (h.1 47 a2.toNatClampNeg) = (h.1 58 a1.toNatClampNeg) → ((1 : Int32) = 0 → post (some (.int (0 : Int32))) h) ∧ (¬ ((1 : Int32) = 0) → ((0 : Int32) = 0 → post (some (.int (0 : Int32))) h) ∧ (¬ ((0 : Int32) = 0) → vp_in a2 12 ∧ vp_in a1 8 ∧ vp_in a2 12 ∧ ((h.1 48 a2.toNatClampNeg) < ((h.1 59 a1.toNatClampNeg) - (h.1 49 a2.toNatClampNeg)) → post (some (.int (0 : Int32))) h) ∧ (¬ ((h.1 48 a2.toNatClampNeg) < ((h.1 59 a1.toNatClampNeg) - (h.1 49 a2.toNatClampNeg))) → vp_in a2 12 ∧ vp_in a1 8 ∧ vp_in a2 12 ∧ (((h.1 60 a1.toNatClampNeg) + (h.1 49 a2.toNatClampNeg)) < (h.1 48 a2.toNatClampNeg) → post (some (.int (0 : Int32))) h) ∧ (¬ (((h.1 60 a1.toNatClampNeg) + (h.1 49 a2.toNatClampNeg)) < (h.1 48 a2.toNatClampNeg)) → post (some (.int (1 : Int32))) h))))) ∧ (¬ ¬ (h.1 47 a2.toNatClampNeg) = (h.1 58 a1.toNatClampNeg) → ((1 : Int32) = 0 → post (some (.int (0 : Int32))) h) ∧ (¬ ((1 : Int32) = 0) → ((1 : Int32) = 0 → post (some (.int (0 : Int32))) h) ∧ (¬ ((1 : Int32) = 0) → vp_in a2 12 ∧ vp_in a1 8 ∧ vp_in a2 12 ∧ ((h.1 48 a2.toNatClampNeg) < ((h.1 59 a1.toNatClampNeg) - (h.1 49 a2.toNatClampNeg)) → post (some (.int (0 : Int32))) h) ∧ (¬ ((h.1 48 a2.toNatClampNeg) < ((h.1 59 a1.toNatClampNeg) - (h.1 49 a2.toNatClampNeg))) → vp_in a2 12 ∧ vp_in a1 8 ∧ vp_in a2 12 ∧ (((h.1 60 a1.toNatClampNeg) + (h.1 49 a2.toNatClampNeg)) < (h.1 48 a2.toNatClampNeg) → post (some (.int (0 : Int32))) h) ∧ (¬ (((h.1 60 a1.toNatClampNeg) + (h.1 49 a2.toNatClampNeg)) < (h.1 48 a2.toNatClampNeg)) → post (some (.int (1 : Int32))) h))))))) ∧ (¬ ((h.1 46 a2.toNatClampNeg) < 0) → vp_in a2 12 ∧ vp_in a1 8 ∧ (¬ (h.1 46 a2.toNatClampNeg) = (h.1 57 a1.toNatClampNeg) → vp_in a2 12 ∧ ((h.1 47 a2.toNatClampNeg) < 0 → ((0 : Int32) = 0 → post (some (.int (0 : Int32))) h) ∧ (¬ ((0 : Int32) = 0) → ((1 : Int32) = 0 → post (some (.int (0 : Int32))) h) ∧ (¬ ((1 : Int32) = 0) → vp_in a2 12 ∧ vp_in a1 8 ∧ vp_in a2 12 ∧ ((h.1 48 a2.toNatClampNeg) < ((h.1 59 a1.toNatClampNeg) - (h.1 49 a2.toNatClampNeg)) → post (some (.int (0 : Int32))) h) ∧ (¬ ((h.1 48 a2.toNatClampNeg) < ((h.1 59 a1.toNatClampNeg) - (h.1 49 a2.toNatClampNeg))) → vp_in a2 12 ∧ vp_in a1 8 ∧ vp_in a2 12 ∧ (((h.1 60 a1.toNatClampNeg) + (h.1 49 a2.toNatClampNeg)) < (h.1 48 a2.toNatClampNeg) → post (some (.int (0 : Int32))) h) ∧ (¬ (((h.1 60 a1.toNatClampNeg) + (h.1 49 a2.toNatClampNeg)) < (h.1 48 a2.toNatClampNeg)) → post (some (.int (1 : Int32))) h))))) ∧ (¬ ((h.1 47 a2.toNatClampNeg) < 0) → vp_in a2 12 ∧ vp_in a1 8 ∧ (¬ (h.1 47 a2.toNatClampNeg) = (h.1 58 a1.toNatClampNeg) → ((0 : Int32) = 0 → post (some (.int (0 : Int32))) h) ∧ (¬ ((0 : Int32) = 0) → ((0 : Int32) = 0 → post (some (.int (0 : Int32))) h) ∧ (¬ ((0 : Int32) = 0) → vp_in a2 12 ∧ vp_in a1 8 ∧ vp_in a2 12 ∧ ((h.1 48 a2.toNatClampNeg) < ((h.1 59 a1.toNatClampNeg) - (h.1 49 a2.toNatClampNeg)) → post (some (.int (0 : Int32))) h) ∧ (¬ ((h.1 48 a2.toNatClampNeg) < ((h.1 59 a1.toNatClampNeg) - (h.1 49 a2.toNatClampNeg))) → vp_in a2 12 ∧ vp_in a1 8 ∧ vp_in a2 12 ∧ (((h.1 60 a1.toNatClampNeg) + (h.1 49 a2.toNatClampNeg)) < (h.1 48 a2.toNatClampNeg) → post (some (.int (0 : Int32))) h) ∧ (¬ (((h.1 60 a1.toNatClampNeg) + (h.1 49 a2.toNatClampNeg)) < (h.1 48 a2.toNatClampNeg)) → post (some (.int (1 : Int32))) h))))) ∧ (¬ ¬ (h.1 47 a2.toNatClampNeg) = (h.1 58 a1.toNatClampNeg) → ((0 : Int32) = 0 → post (some (.int (0 : Int32))) h) ∧ (¬ ((0 : Int32) = 0) → ((1 : Int32) = 0 → post (some (.int (0 : Int32))) h) ∧ (¬ ((1 : Int32) = 0) → vp_in a2 12 ∧ vp_in a1 8 ∧ vp_in a2 12 ∧ ((h.1 48 a2.toNatClampNeg) < ((h.1 59 a1.toNatClampNeg) - (h.1 49 a2.toNatClampNeg)) → post (some (.int (0 : Int32))) h) ∧ (¬ ((h.1 48 a2.toNatClampNeg) < ((h.1 59 a1.toNatClampNeg) - (h.1 49 a2.toNatClampNeg))) → vp_in a2 12 ∧ vp_in a1 8 ∧ vp_in a2 12 ∧ (((h.1 60 a1.toNatClampNeg) + (h.1 49 a2.toNatClampNeg)) < (h.1 48 a2.toNatClampNeg) → post (some (.int (0 : Int32))) h) ∧ (¬ (((h.1 60 a1.toNatClampNeg) + (h.1 49 a2.toNatClampNeg)) < (h.1 48 a2.toNatClampNeg)) → post (some (.int (1 : Int32))) h))))))) ∧ (¬ ¬ (h.1 46 a2.toNatClampNeg) = (h.1 57 a1.toNatClampNeg) → vp_in a2 12 ∧ ((h.1 47 a2.toNatClampNeg) < 0 → ((1 : Int32) = 0 → post (some (.int (0 : Int32))) h) ∧ (¬ ((1 : Int32) = 0) → ((1 : Int32) = 0 → post (some (.int (0 : Int32))) h) ∧ (¬ ((1 : Int32) = 0) → vp_in a2 12 ∧ vp_in a1 8 ∧ vp_in a2 12 ∧ ((h.1 48 a2.toNatClampNeg) < ((h.1 59 a1.toNatClampNeg) - (h.1 49 a2.toNatClampNeg)) → post (some (.int (0 : Int32))) h) ∧ (¬ ((h.1 48 a2.toNatClampNeg) < ((h.1 59 a1.toNatClampNeg) - (h.1 49 a2.toNatClampNeg))) → vp_in a2 12 ∧ vp_in a1 8 ∧ vp_in a2 12 ∧ (((h.1 60 a1.toNatClampNeg) + (h.1 49 a2.toNatClampNeg)) < (h.1 48 a2.toNatClampNeg) → post (some (.int (0 : Int32))) h) ∧ (¬ (((h.1 60 a1.toNatClampNeg) + (h.1 49 a2.toNatClampNeg)) < (h.1 48 a2.toNatClampNeg)) → post (some (.int (1 : Int32))) h))))) ∧ (¬ ((h.1 47 a2.toNatClampNeg) < 0) → vp_in a2 12 ∧ vp_in a1 8 ∧ (¬ (h.1 47 a2.toNatClampNeg) = (h.1 58 a1.toNatClampNeg) → ((1 : Int32) = 0 → post (some (.int (0 : Int32))) h) ∧ (¬ ((1 : Int32) = 0) → ((0 : Int32) = 0 → post (some (.int (0 : Int32))) h) ∧ (¬ ((0 : Int32) = 0) → vp_in a2 12 ∧ vp_in a1 8 ∧ vp_in a2 12 ∧ ((h.1 48 a2.toNatClampNeg) < ((h.1 59 a1.toNatClampNeg) - (h.1 49 a2.toNatClampNeg)) → post (some (.int (0 : Int32))) h) ∧ (¬ ((h.1 48 a2.toNatClampNeg) < ((h.1 59 a1.toNatClampNeg) - (h.1 49 a2.toNatClampNeg))) → vp_in a2 12 ∧ vp_in a1 8 ∧ vp_in a2 12 ∧ (((h.1 60 a1.toNatClampNeg) + (h.1 49 a2.toNatClampNeg)) < (h.1 48 a2.toNatClampNeg) → post (some (.int (0 : Int32))) h) ∧ (¬ (((h.1 60 a1.toNatClampNeg) + (h.1 49 a2.toNatClampNeg)) < (h.1 48 a2.toNatClampNeg)) → post (some (.int (1 : Int32))) h))))) ∧ (¬ ¬ (h.1 47 a2.toNatClampNeg) = (h.1 58 a1.toNatClampNeg) → ((1 : Int32) = 0 → post (some (.int (0 : Int32))) h) ∧ (¬ ((1 : Int32) = 0) → ((1 : Int32) = 0 → post (some (.int (0 : Int32))) h) ∧ (¬ ((1 : Int32) = 0) → vp_in a2 12 ∧ vp_in a1 8 ∧ vp_in a2 12 ∧ ((h.1 48 a2.toNatClampNeg) < ((h.1 59 a1.toNatClampNeg) - (h.1 49 a2.toNatClampNeg)) → post (some (.int (0 : Int32))) h) ∧ (¬ ((h.1 48 a2.toNatClampNeg) < ((h.1 59 a1.toNatClampNeg) - (h.1 49 a2.toNatClampNeg))) → vp_in a2 12 ∧ vp_in a1 8 ∧ vp_in a2 12 ∧ (((h.1 60 a1.toNatClampNeg) + (h.1 49 a2.toNatClampNeg)) < (h.1 48 a2.toNatClampNeg) → post (some (.int (0 : Int32))) h) ∧ (¬ (((h.1 60 a1.toNatClampNeg) + (h.1 49 a2.toNatClampNeg)) < (h.1 48 a2.toNatClampNeg)) → post (some (.int (1 : Int32))) h))))))))) : zG M_X8_meets post (M_X8_meets.1) [some (.ref 42), some (.int a1), some (.int a2), none, none] [] h := zsg_sound (cuts := []) 70 t
theorem r_X8_meets (a1 : Int32) (a2 : Int32) (h : zH) (o : Option Value) (h' : zH) (ho : o = some (.int 0) ∨ o = some (.int 1)) (t : zG M_X8_meets (fun r1 h1 => r1 = o ∧ h1 = h') M_X8_meets.1 [some (.ref 42), some (.int a1), some (.int a2), none, none] [] h) : R_X8_meets [.ref 42, .int a1, .int a2] h o h' := ⟨rfl, ho, t⟩
theorem t_X8_layMet_0 (a1 : Int32) (h : zH) (post : Option Value → zH → Prop) (t : zG M_X8_layMet post (zat M_X8_layMet 2) [some (.ref 42), some (.int a1), some (.int (0 : Int32)), none, none] [] h) : zG M_X8_layMet post (M_X8_layMet.1) [some (.ref 42), some (.int a1), none, none, none] [] h := zsg_sound (cuts := [(2, [true, true, true, false, false]), (23, [true, true, true, true, false]), (34, [true, true, true, true, true])]) 4 t
theorem r_X8_layMet (a1 : Int32) (h : zH) (o : Option Value) (h' : zH) (ho : o = none) (t : zG M_X8_layMet (fun r1 h1 => r1 = o ∧ h1 = h') M_X8_layMet.1 [some (.ref 42), some (.int a1), none, none, none] [] h) : R_X8_layMet [.ref 42, .int a1] h o h' := ⟨rfl, ho, t⟩
theorem t_X8_layMet_2 (x1 : Int32) (x2 : Int32) (h : zH) (post : Option Value → zH → Prop) (t : ((16 : Int32) ≤ x2 → post none h) ∧ (¬ ((16 : Int32) ≤ x2) → ∃ h1 : zH, R_X8_layLights [.ref 42, .int x2, .int x1] h none h1 ∧ vp_in x2 16 ∧ zG M_X8_layMet post (zat M_X8_layMet 23) [some (.ref 42), some (.int x1), some (.int x2), some (.int (0 : Int32)), none] [] (zsi h1 61 x2.toNatClampNeg (0 : Int32)))) : zG M_X8_layMet post (zat M_X8_layMet 2) [some (.ref 42), some (.int x1), some (.int x2), none, none] [] h := zsg_sound (cuts := [(2, [true, true, true, false, false]), (23, [true, true, true, true, false]), (34, [true, true, true, true, true])]) 16 t
theorem t_X8_layMet_23 (x1 : Int32) (x2 : Int32) (x3 : Int32) (h : zH) (post : Option Value → zH → Prop) (t : ((h.1 42 8) ≤ x3 → zG M_X8_layMet post (zat M_X8_layMet 2) [some (.ref 42), some (.int x1), some (.int (x2 + (1 : Int32))), none, none] [] h) ∧ (¬ ((h.1 42 8) ≤ x3) → zG M_X8_layMet post (zat M_X8_layMet 34) [some (.ref 42), some (.int x1), some (.int x2), some (.int x3), some (.int (0 : Int32))] [] h)) : zG M_X8_layMet post (zat M_X8_layMet 23) [some (.ref 42), some (.int x1), some (.int x2), some (.int x3), none] [] h := zsg_sound (cuts := [(2, [true, true, true, false, false]), (23, [true, true, true, true, false]), (34, [true, true, true, true, true])]) 8 t
theorem t_X8_layMet_34 (x1 : Int32) (x2 : Int32) (x3 : Int32) (x4 : Int32) (h : zH) (post : Option Value → zH → Prop) (t : ((h.1 42 21) ≤ x4 → zG M_X8_layMet post (zat M_X8_layMet 23) [some (.ref 42), some (.int x1), some (.int x2), some (.int (x3 + (1 : Int32))), none] [] h) ∧ (¬ ((h.1 42 21) ≤ x4) → vp_in x2 16 ∧ ∃ (v1 : Int32) (h1 : zH), R_X8_meets [.ref 42, .int x4, .int x3] h (some (.int v1)) h1 ∧ (v1 = 0 → vp_in x2 16 ∧ zG M_X8_layMet post (zat M_X8_layMet 34) [some (.ref 42), some (.int x1), some (.int x2), some (.int x3), some (.int (x4 + (1 : Int32)))] [] (zsi h1 61 x2.toNatClampNeg ((h.1 61 x2.toNatClampNeg) ||| (0 : Int32)))) ∧ (¬ (v1 = 0) → vp_in x2 16 ∧ zG M_X8_layMet post (zat M_X8_layMet 34) [some (.ref 42), some (.int x1), some (.int x2), some (.int x3), some (.int (x4 + (1 : Int32)))] [] (zsi h1 61 x2.toNatClampNeg ((h.1 61 x2.toNatClampNeg) ||| ((1 : Int32) <<< (x3 &&& 31))))))) : zG M_X8_layMet post (zat M_X8_layMet 34) [some (.ref 42), some (.int x1), some (.int x2), some (.int x3), some (.int x4)] [] h := zsg_sound (cuts := [(2, [true, true, true, false, false]), (23, [true, true, true, true, false]), (34, [true, true, true, true, true])]) 24 t
theorem t_X8_metBy_0 (a1 : Int32) (h : zH) (post : Option Value → zH → Prop) (t : zG M_X8_metBy post (zat M_X8_metBy 4) [some (.ref 42), some (.int a1), some (.int (0 : Int32)), some (.int (0 : Int32))] [] h) : zG M_X8_metBy post (M_X8_metBy.1) [some (.ref 42), some (.int a1), none, none] [] h := zsg_sound (cuts := [(4, [true, true, true, true])]) 6 t
theorem r_X8_metBy (a1 : Int32) (h : zH) (o : Option Value) (h' : zH) (ho : ∃ v, o = some (.int v)) (t : zG M_X8_metBy (fun r1 h1 => r1 = o ∧ h1 = h') M_X8_metBy.1 [some (.ref 42), some (.int a1), none, none] [] h) : R_X8_metBy [.ref 42, .int a1] h o h' := ⟨rfl, ho, t⟩
theorem t_X8_metBy_4 (x1 : Int32) (x2 : Int32) (x3 : Int32) (h : zH) (post : Option Value → zH → Prop) (t : ((16 : Int32) ≤ x3 → post (some (.int x2)) h) ∧ (¬ ((16 : Int32) ≤ x3) → (¬ ((x1 >>> (x3 &&& 31)) &&& (1 : Int32)) = (1 : Int32) → zG M_X8_metBy post (zat M_X8_metBy 4) [some (.ref 42), some (.int x1), some (.int (x2 ||| (0 : Int32))), some (.int (x3 + (1 : Int32)))] [] h) ∧ (¬ ¬ ((x1 >>> (x3 &&& 31)) &&& (1 : Int32)) = (1 : Int32) → vp_in x3 16 ∧ zG M_X8_metBy post (zat M_X8_metBy 4) [some (.ref 42), some (.int x1), some (.int (x2 ||| (h.1 61 x3.toNatClampNeg))), some (.int (x3 + (1 : Int32)))] [] h))) : zG M_X8_metBy post (zat M_X8_metBy 4) [some (.ref 42), some (.int x1), some (.int x2), some (.int x3)] [] h := zsg_sound (cuts := [(4, [true, true, true, true])]) 22 t
theorem t_X8_allMarks_0  (h : zH) (post : Option Value → zH → Prop) (t : post (some (.int (((1 : Int32) <<< ((h.1 42 8) &&& 31)) - (1 : Int32)))) h) : zG M_X8_allMarks post (M_X8_allMarks.1) [some (.ref 42)] [] h := zsg_sound (cuts := []) 8 t
theorem r_X8_allMarks  (h : zH) (o : Option Value) (h' : zH) (ho : ∃ v, o = some (.int v)) (t : zG M_X8_allMarks (fun r1 h1 => r1 = o ∧ h1 = h') M_X8_allMarks.1 [some (.ref 42)] [] h) : R_X8_allMarks [.ref 42] h o h' := ⟨rfl, ho, t⟩
theorem t_X8_isAsked_0 (a1 : Int32) (a2 : Int32) (h : zH) (post : Option Value → zH → Prop) (t : ∃ (v1 : Int32) (h1 : zH), R_X8_in [.int a1, .int (0 : Int32), .int (65535 : Int32)] h (some (.int v1)) h1 ∧ (v1 = 0 → post (some (.int (0 : Int32))) h1) ∧ (¬ (v1 = 0) → ∃ (v2 : Int32) (h2 : zH), R_X8_in [.int a2, .int (0 : Int32), .int (900 : Int32)] h1 (some (.int v2)) h2 ∧ (v2 = 0 → post (some (.int (0 : Int32))) h2) ∧ (¬ (v2 = 0) → post (some (.int (1 : Int32))) h2))) : zG M_X8_isAsked post (M_X8_isAsked.1) [some (.int a1), some (.int a2)] [] h := zsg_sound (cuts := []) 14 t
theorem r_X8_isAsked (a1 : Int32) (a2 : Int32) (h : zH) (o : Option Value) (h' : zH) (ho : o = some (.int 0) ∨ o = some (.int 1)) (t : zG M_X8_isAsked (fun r1 h1 => r1 = o ∧ h1 = h') M_X8_isAsked.1 [some (.int a1), some (.int a2)] [] h) : R_X8_isAsked [.int a1, .int a2] h o h' := ⟨rfl, ho, t⟩
theorem t_X8_explains_0 (a1 : Int32) (a2 : Int32) (h : zH) (post : Option Value → zH → Prop) (t : ∃ (v1 : Int32) (h1 : zH), R_X8_isAsked [.int a1, .int a2] h (some (.int v1)) h1 ∧ (¬ v1 = 0 → ∃ h2 : zH, R_X8_layRings [.ref 42] h1 none h2 ∧ ∃ h3 : zH, R_X8_layMet [.ref 42, .int a2] h2 none h3 ∧ ∃ (v4 : Int32) (h4 : zH), R_X8_metBy [.ref 42, .int a1] h3 (some (.int v4)) h4 ∧ ∃ (v5 : Int32) (h5 : zH), R_X8_allMarks [.ref 42] h4 (some (.int v5)) h5 ∧ (¬ v4 = v5 → post (some (.int (0 : Int32))) h5) ∧ (¬ ¬ v4 = v5 → post (some (.int (1 : Int32))) h5)) ∧ (¬ ¬ v1 = 0 → post (some (.int (-1 : Int32))) h1)) : zG M_X8_explains post (M_X8_explains.1) [some (.ref 42), some (.int a1), some (.int a2)] [] h := zsg_sound (cuts := []) 19 t
theorem r_X8_explains (a1 : Int32) (a2 : Int32) (h : zH) (o : Option Value) (h' : zH) (ho : ∃ v, o = some (.int v)) (t : zG M_X8_explains (fun r1 h1 => r1 = o ∧ h1 = h') M_X8_explains.1 [some (.ref 42), some (.int a1), some (.int a2)] [] h) : R_X8_explains [.ref 42, .int a1, .int a2] h o h' := ⟨rfl, ho, t⟩
theorem t_X8_bits_0 (a1 : Int32) (h : zH) (post : Option Value → zH → Prop) (t : zG M_X8_bits post (zat M_X8_bits 4) [some (.int a1), some (.int (0 : Int32)), some (.int a1)] [] h) : zG M_X8_bits post (M_X8_bits.1) [some (.int a1), none, none] [] h := zsg_sound (cuts := [(4, [true, true, true])]) 6 t
theorem r_X8_bits (a1 : Int32) (h : zH) (o : Option Value) (h' : zH) (ho : ∃ v, o = some (.int v)) (t : zG M_X8_bits (fun r1 h1 => r1 = o ∧ h1 = h') M_X8_bits.1 [some (.int a1), none, none] [] h) : R_X8_bits [.int a1] h o h' := ⟨rfl, ho, t⟩
theorem t_X8_bits_4 (x0 : Int32) (x1 : Int32) (x2 : Int32) (h : zH) (post : Option Value → zH → Prop) (t : (x2 = 0 → post (some (.int x1)) h) ∧ (¬ (x2 = 0) → zG M_X8_bits post (zat M_X8_bits 4) [some (.int x0), some (.int (x1 + (1 : Int32))), some (.int (x2 &&& (x2 - (1 : Int32))))] [] h)) : zG M_X8_bits post (zat M_X8_bits 4) [some (.int x0), some (.int x1), some (.int x2)] [] h := zsg_sound (cuts := [(4, [true, true, true])]) 12 t
theorem t_X8_fewest_0 (a1 : Int32) (h : zH) (post : Option Value → zH → Prop) (t : ∃ (v1 : Int32) (h1 : zH), R_X8_in [.int a1, .int (0 : Int32), .int (900 : Int32)] h (some (.int v1)) h1 ∧ (¬ v1 = 0 → ∃ h2 : zH, R_X8_layRings [.ref 42] h1 none h2 ∧ ∃ h3 : zH, R_X8_layMet [.ref 42, .int a1] h2 none h3 ∧ zG M_X8_fewest post (zat M_X8_fewest 31) [some (.ref 42), some (.int a1), some (.int (-4 : Int32)), some (.int (17 : Int32)), some (.int (0 : Int32)), none] [] h3) ∧ (¬ ¬ v1 = 0 → post (some (.int (-1 : Int32))) h1)) : zG M_X8_fewest post (M_X8_fewest.1) [some (.ref 42), some (.int a1), none, none, none, none] [] h := zsg_sound (cuts := [(31, [true, true, true, true, true, false])]) 18 t
theorem r_X8_fewest (a1 : Int32) (h : zH) (o : Option Value) (h' : zH) (ho : ∃ v, o = some (.int v)) (t : zG M_X8_fewest (fun r1 h1 => r1 = o ∧ h1 = h') M_X8_fewest.1 [some (.ref 42), some (.int a1), none, none, none, none] [] h) : R_X8_fewest [.ref 42, .int a1] h o h' := ⟨rfl, ho, t⟩
theorem t_X8_fewest_31 (x1 : Int32) (x2 : Int32) (x3 : Int32) (x4 : Int32) (h : zH) (post : Option Value → zH → Prop) (t : ((65536 : Int32) ≤ x4 → post (some (.int x2)) h) ∧ (¬ ((65536 : Int32) ≤ x4) → ∃ (v1 : Int32) (h1 : zH), R_X8_bits [.int x4] h (some (.int v1)) h1 ∧ (x3 ≤ v1 → zG M_X8_fewest post (zat M_X8_fewest 31) [some (.ref 42), some (.int x1), some (.int x2), some (.int x3), some (.int (x4 + (1 : Int32))), none] [] h1) ∧ (¬ (x3 ≤ v1) → ∃ (v2 : Int32) (h2 : zH), R_X8_metBy [.ref 42, .int x4] h1 (some (.int v2)) h2 ∧ ∃ (v3 : Int32) (h3 : zH), R_X8_allMarks [.ref 42] h2 (some (.int v3)) h3 ∧ (¬ v2 = v3 → zG M_X8_fewest post (zat M_X8_fewest 31) [some (.ref 42), some (.int x1), some (.int x2), some (.int x3), some (.int (x4 + (1 : Int32))), none] [] h3) ∧ (¬ ¬ v2 = v3 → zG M_X8_fewest post (zat M_X8_fewest 31) [some (.ref 42), some (.int x1), some (.int x4), some (.int v1), some (.int (x4 + (1 : Int32))), none] [] h3)))) : zG M_X8_fewest post (zat M_X8_fewest 31) [some (.ref 42), some (.int x1), some (.int x2), some (.int x3), some (.int x4), none] [] h := zsg_sound (cuts := [(31, [true, true, true, true, true, false])]) 23 t
theorem t_X8_owed_0 (a1 : Int32) (a2 : Int32) (h : zH) (post : Option Value → zH → Prop) (t : ∃ (v1 : Int32) (h1 : zH), R_X8_isAsked [.int a1, .int a2] h (some (.int v1)) h1 ∧ (¬ v1 = 0 → ∃ h2 : zH, R_X8_layRings [.ref 42] h1 none h2 ∧ zG M_X8_owed post (zat M_X8_owed 19) [some (.ref 42), some (.int a1), some (.int a2), some (.int (0 : Int32)), some (.int (0 : Int32)), none, none, none] [] h2) ∧ (¬ ¬ v1 = 0 → post (some (.int (-1 : Int32))) h1)) : zG M_X8_owed post (M_X8_owed.1) [some (.ref 42), some (.int a1), some (.int a2), none, none, none, none, none] [] h := zsg_sound (cuts := [(19, [true, true, true, true, true, false, false, false]), (36, [true, true, true, true, true, true, false, false]), (61, [true, true, true, true, true, true, true, true])]) 12 t
theorem r_X8_owed (a1 : Int32) (a2 : Int32) (h : zH) (o : Option Value) (h' : zH) (ho : ∃ v, o = some (.int v)) (t : zG M_X8_owed (fun r1 h1 => r1 = o ∧ h1 = h') M_X8_owed.1 [some (.ref 42), some (.int a1), some (.int a2), none, none, none, none, none] [] h) : R_X8_owed [.ref 42, .int a1, .int a2] h o h' := ⟨rfl, ho, t⟩
theorem t_X8_owed_19 (x1 : Int32) (x2 : Int32) (x3 : Int32) (x4 : Int32) (h : zH) (post : Option Value → zH → Prop) (t : ((16 : Int32) ≤ x4 → post (some (.int x3)) h) ∧ (¬ ((16 : Int32) ≤ x4) → ∃ h1 : zH, R_X8_layLights [.ref 42, .int x4, .int x2] h none h1 ∧ zG M_X8_owed post (zat M_X8_owed 36) [some (.ref 42), some (.int x1), some (.int x2), some (.int x3), some (.int x4), some (.int (0 : Int32)), none, none] [] h1)) : zG M_X8_owed post (zat M_X8_owed 19) [some (.ref 42), some (.int x1), some (.int x2), some (.int x3), some (.int x4), none, none, none] [] h := zsg_sound (cuts := [(19, [true, true, true, true, true, false, false, false]), (36, [true, true, true, true, true, true, false, false]), (61, [true, true, true, true, true, true, true, true])]) 11 t
theorem t_X8_owed_36 (x1 : Int32) (x2 : Int32) (x3 : Int32) (x4 : Int32) (x5 : Int32) (h : zH) (post : Option Value → zH → Prop) (t : ((h.1 42 21) ≤ x5 → zG M_X8_owed post (zat M_X8_owed 19) [some (.ref 42), some (.int x1), some (.int x2), some (.int x3), some (.int (x4 + (1 : Int32))), none, none, none] [] h) ∧ (¬ ((h.1 42 21) ≤ x5) → (¬ ((x1 >>> (x4 &&& 31)) &&& (1 : Int32)) = (1 : Int32) → zG M_X8_owed post (zat M_X8_owed 19) [some (.ref 42), some (.int x1), some (.int x2), some (.int x3), some (.int (x4 + (1 : Int32))), none, none, none] [] h) ∧ (¬ ¬ ((x1 >>> (x4 &&& 31)) &&& (1 : Int32)) = (1 : Int32) → zG M_X8_owed post (zat M_X8_owed 61) [some (.ref 42), some (.int x1), some (.int x2), some (.int x3), some (.int x4), some (.int x5), some (.int (0 : Int32)), some (.int (0 : Int32))] [] h))) : zG M_X8_owed post (zat M_X8_owed 36) [some (.ref 42), some (.int x1), some (.int x2), some (.int x3), some (.int x4), some (.int x5), none, none] [] h := zsg_sound (cuts := [(19, [true, true, true, true, true, false, false, false]), (36, [true, true, true, true, true, true, false, false]), (61, [true, true, true, true, true, true, true, true])]) 17 t
theorem t_X8_owed_61 (x1 : Int32) (x2 : Int32) (x3 : Int32) (x4 : Int32) (x5 : Int32) (x6 : Int32) (x7 : Int32) (h : zH) (post : Option Value → zH → Prop) (t : ((h.1 42 8) ≤ x7 → (x6 = 0 → zG M_X8_owed post (zat M_X8_owed 36) [some (.ref 42), some (.int x1), some (.int x2), some (.int (x3 + (1 : Int32))), some (.int x4), some (.int (x5 + (1 : Int32))), none, none] [] h) ∧ (¬ (x6 = 0) → zG M_X8_owed post (zat M_X8_owed 36) [some (.ref 42), some (.int x1), some (.int x2), some (.int (x3 + (0 : Int32))), some (.int x4), some (.int (x5 + (1 : Int32))), none, none] [] h)) ∧ (¬ ((h.1 42 8) ≤ x7) → (¬ x6 = 0 → zG M_X8_owed post (zat M_X8_owed 61) [some (.ref 42), some (.int x1), some (.int x2), some (.int x3), some (.int x4), some (.int x5), some (.int (1 : Int32)), some (.int (x7 + (1 : Int32)))] [] h) ∧ (¬ ¬ x6 = 0 → ∃ (v1 : Int32) (h1 : zH), R_X8_meets [.ref 42, .int x5, .int x7] h (some (.int v1)) h1 ∧ (v1 = 0 → zG M_X8_owed post (zat M_X8_owed 61) [some (.ref 42), some (.int x1), some (.int x2), some (.int x3), some (.int x4), some (.int x5), some (.int (0 : Int32)), some (.int (x7 + (1 : Int32)))] [] h1) ∧ (¬ (v1 = 0) → zG M_X8_owed post (zat M_X8_owed 61) [some (.ref 42), some (.int x1), some (.int x2), some (.int x3), some (.int x4), some (.int x5), some (.int (1 : Int32)), some (.int (x7 + (1 : Int32)))] [] h1)))) : zG M_X8_owed post (zat M_X8_owed 61) [some (.ref 42), some (.int x1), some (.int x2), some (.int x3), some (.int x4), some (.int x5), some (.int x6), some (.int x7)] [] h := zsg_sound (cuts := [(19, [true, true, true, true, true, false, false, false]), (36, [true, true, true, true, true, true, false, false]), (61, [true, true, true, true, true, true, true, true])]) 18 t
theorem t_X8_never_0  (h : zH) (post : Option Value → zH → Prop) (t : ∃ h1 : zH, R_X8_layRings [.ref 42] h none h1 ∧ zG M_X8_never post (zat M_X8_never 8) [some (.ref 42), some (.int (0 : Int32)), some (.int (0 : Int32))] [] h1) : zG M_X8_never post (M_X8_never.1) [some (.ref 42), none, none] [] h := zsg_sound (cuts := [(8, [true, true, true])]) 8 t
theorem r_X8_never  (h : zH) (o : Option Value) (h' : zH) (ho : ∃ v, o = some (.int v)) (t : zG M_X8_never (fun r1 h1 => r1 = o ∧ h1 = h') M_X8_never.1 [some (.ref 42), none, none] [] h) : R_X8_never [.ref 42] h o h' := ⟨rfl, ho, t⟩
theorem t_X8_never_8 (x1 : Int32) (x2 : Int32) (h : zH) (post : Option Value → zH → Prop) (t : ((900 : Int32) < x2 → ∃ (v1 : Int32) (h1 : zH), R_X8_allMarks [.ref 42] h (some (.int v1)) h1 ∧ post (some (.int (v1 &&& (x1 ^^^ (-1 : Int32))))) h1) ∧ (¬ ((900 : Int32) < x2) → ∃ h1 : zH, R_X8_layMet [.ref 42, .int x2] h none h1 ∧ ∃ (v2 : Int32) (h2 : zH), R_X8_metBy [.ref 42, .int (65535 : Int32)] h1 (some (.int v2)) h2 ∧ zG M_X8_never post (zat M_X8_never 8) [some (.ref 42), some (.int (x1 ||| v2)), some (.int (x2 + (50 : Int32)))] [] h2)) : zG M_X8_never post (zat M_X8_never 8) [some (.ref 42), some (.int x1), some (.int x2)] [] h := zsg_sound (cuts := [(8, [true, true, true])]) 16 t
theorem t_X8_heights_0 (a1 : Int32) (a2 : Int32) (h : zH) (post : Option Value → zH → Prop) (t : ∃ (v1 : Int32) (h1 : zH), R_X8_in [.int a1, .int (0 : Int32), .int (65535 : Int32)] h (some (.int v1)) h1 ∧ (v1 = 0 → post (some (.int (-1 : Int32))) h1) ∧ (¬ (v1 = 0) → ((-1 : Int32) ≤ a2 → ∃ h2 : zH, R_X8_layRings [.ref 42] h1 none h2 ∧ zG M_X8_heights post (zat M_X8_heights 26) [some (.ref 42), some (.int a1), some (.int a2), some (.int (0 : Int32)), some (.int (0 : Int32))] [] h2) ∧ (¬ ((-1 : Int32) ≤ a2) → post (some (.int (-1 : Int32))) h1))) : zG M_X8_heights post (M_X8_heights.1) [some (.ref 42), some (.int a1), some (.int a2), none, none] [] h := zsg_sound (cuts := [(26, [true, true, true, true, true])]) 16 t
theorem r_X8_heights (a1 : Int32) (a2 : Int32) (h : zH) (o : Option Value) (h' : zH) (ho : ∃ v, o = some (.int v)) (t : zG M_X8_heights (fun r1 h1 => r1 = o ∧ h1 = h') M_X8_heights.1 [some (.ref 42), some (.int a1), some (.int a2), none, none] [] h) : R_X8_heights [.ref 42, .int a1, .int a2] h o h' := ⟨rfl, ho, t⟩
theorem t_X8_heights_26 (x1 : Int32) (x2 : Int32) (x3 : Int32) (x4 : Int32) (h : zH) (post : Option Value → zH → Prop) (t : ((900 : Int32) < x4 → (0 ≤ x2 → post (some (.int (-4 : Int32))) h) ∧ (¬ (0 ≤ x2) → post (some (.int x3)) h)) ∧ (¬ ((900 : Int32) < x4) → ∃ h1 : zH, R_X8_layMet [.ref 42, .int x4] h none h1 ∧ ∃ (v2 : Int32) (h2 : zH), R_X8_metBy [.ref 42, .int x1] h1 (some (.int v2)) h2 ∧ ∃ (v3 : Int32) (h3 : zH), R_X8_allMarks [.ref 42] h2 (some (.int v3)) h3 ∧ (¬ v2 = v3 → zG M_X8_heights post (zat M_X8_heights 26) [some (.ref 42), some (.int x1), some (.int x2), some (.int x3), some (.int (x4 + (50 : Int32)))] [] h3) ∧ (¬ ¬ v2 = v3 → (¬ x3 = x2 → zG M_X8_heights post (zat M_X8_heights 26) [some (.ref 42), some (.int x1), some (.int x2), some (.int (x3 + (1 : Int32))), some (.int (x4 + (50 : Int32)))] [] h3) ∧ (¬ ¬ x3 = x2 → post (some (.int x4)) h3)))) : zG M_X8_heights post (zat M_X8_heights 26) [some (.ref 42), some (.int x1), some (.int x2), some (.int x3), some (.int x4)] [] h := zsg_sound (cuts := [(26, [true, true, true, true, true])]) 20 t
theorem t_X8_cut_0 (a1 : Int32) (a2 : Int32) (h : zH) (post : Option Value → zH → Prop) (t : ∃ (v1 : Int32) (h1 : zH), R_X8_in [.int a1, .int (0 : Int32), .int (11 : Int32)] h (some (.int v1)) h1 ∧ (v1 = 0 → post (some (.int (-100 : Int32))) h1) ∧ (¬ (v1 = 0) → ∃ (v2 : Int32) (h2 : zH), R_X8_in [.int a2, .int (-1 : Int32), .int (1 : Int32)] h1 (some (.int v2)) h2 ∧ (¬ v2 = 0 → vp_in a1 12 ∧ vp_in a1 12 ∧ post (some (.int (h2.1 50 a1.toNatClampNeg))) (zsi h2 50 a1.toNatClampNeg a2)) ∧ (¬ ¬ v2 = 0 → post (some (.int (-100 : Int32))) h2))) : zG M_X8_cut post (M_X8_cut.1) [some (.ref 42), some (.int a1), some (.int a2), none] [] h := zsg_sound (cuts := []) 23 t
theorem r_X8_cut (a1 : Int32) (a2 : Int32) (h : zH) (o : Option Value) (h' : zH) (ho : ∃ v, o = some (.int v)) (t : zG M_X8_cut (fun r1 h1 => r1 = o ∧ h1 = h') M_X8_cut.1 [some (.ref 42), some (.int a1), some (.int a2), none] [] h) : R_X8_cut [.ref 42, .int a1, .int a2] h o h' := ⟨rfl, ho, t⟩
theorem t_X8_spots_0 (a1 : Int32) (a2 : Int32) (h : zH) (post : Option Value → zH → Prop) (t : ∃ h1 : zH, R_X8_layLights [.ref 42, .int a1, .int a2] h none h1 ∧ zG M_X8_spots post (zat M_X8_spots 11) [some (.ref 42), some (.int a1), some (.int a2), some (.int (0 : Int32)), some (.int (0 : Int32)), none, none] [] h1) : zG M_X8_spots post (M_X8_spots.1) [some (.ref 42), some (.int a1), some (.int a2), none, none, none, none] [] h := zsg_sound (cuts := [(11, [true, true, true, true, true, false, false]), (23, [true, true, true, true, true, true, false])]) 10 t
theorem r_X8_spots (a1 : Int32) (a2 : Int32) (h : zH) (o : Option Value) (h' : zH) (ho : ∃ v, o = some (.int v)) (t : zG M_X8_spots (fun r1 h1 => r1 = o ∧ h1 = h') M_X8_spots.1 [some (.ref 42), some (.int a1), some (.int a2), none, none, none, none] [] h) : R_X8_spots [.ref 42, .int a1, .int a2] h o h' := ⟨rfl, ho, t⟩
theorem t_X8_spots_11 (x1 : Int32) (x2 : Int32) (x3 : Int32) (x4 : Int32) (h : zH) (post : Option Value → zH → Prop) (t : ((h.1 42 21) ≤ x4 → post (some (.int x3)) h) ∧ (¬ ((h.1 42 21) ≤ x4) → zG M_X8_spots post (zat M_X8_spots 23) [some (.ref 42), some (.int x1), some (.int x2), some (.int x3), some (.int x4), some (.int (0 : Int32)), none] [] h)) : zG M_X8_spots post (zat M_X8_spots 11) [some (.ref 42), some (.int x1), some (.int x2), some (.int x3), some (.int x4), none, none] [] h := zsg_sound (cuts := [(11, [true, true, true, true, true, false, false]), (23, [true, true, true, true, true, true, false])]) 8 t
theorem t_X8_spots_23 (x1 : Int32) (x2 : Int32) (x3 : Int32) (x4 : Int32) (x5 : Int32) (h : zH) (post : Option Value → zH → Prop) (t : ((12 : Int32) ≤ x5 → zG M_X8_spots post (zat M_X8_spots 11) [some (.ref 42), some (.int x1), some (.int x2), some (.int x3), some (.int (x4 + (1 : Int32))), none, none] [] h) ∧ (¬ ((12 : Int32) ≤ x5) → vp_in x4 8 ∧ (¬ (h.1 57 x4.toNatClampNeg) = (2 : Int32) → ((0 : Int32) = 0 → zG M_X8_spots post (zat M_X8_spots 23) [some (.ref 42), some (.int x1), some (.int x2), some (.int (x3 ||| (0 : Int32))), some (.int x4), some (.int (x5 + (1 : Int32))), none] [] h) ∧ (¬ ((0 : Int32) = 0) → zG M_X8_spots post (zat M_X8_spots 23) [some (.ref 42), some (.int x1), some (.int x2), some (.int (x3 ||| ((1 : Int32) <<< (x5 &&& 31)))), some (.int x4), some (.int (x5 + (1 : Int32))), none] [] h)) ∧ (¬ ¬ (h.1 57 x4.toNatClampNeg) = (2 : Int32) → vp_in x4 8 ∧ (¬ (h.1 58 x4.toNatClampNeg) = (1 : Int32) → ((0 : Int32) = 0 → zG M_X8_spots post (zat M_X8_spots 23) [some (.ref 42), some (.int x1), some (.int x2), some (.int (x3 ||| (0 : Int32))), some (.int x4), some (.int (x5 + (1 : Int32))), none] [] h) ∧ (¬ ((0 : Int32) = 0) → zG M_X8_spots post (zat M_X8_spots 23) [some (.ref 42), some (.int x1), some (.int x2), some (.int (x3 ||| ((1 : Int32) <<< (x5 &&& 31)))), some (.int x4), some (.int (x5 + (1 : Int32))), none] [] h)) ∧ (¬ ¬ (h.1 58 x4.toNatClampNeg) = (1 : Int32) → vp_in x4 8 ∧ (((150 : Int32) * x5) < ((h.1 59 x4.toNatClampNeg) - (75 : Int32)) → ((0 : Int32) = 0 → zG M_X8_spots post (zat M_X8_spots 23) [some (.ref 42), some (.int x1), some (.int x2), some (.int (x3 ||| (0 : Int32))), some (.int x4), some (.int (x5 + (1 : Int32))), none] [] h) ∧ (¬ ((0 : Int32) = 0) → zG M_X8_spots post (zat M_X8_spots 23) [some (.ref 42), some (.int x1), some (.int x2), some (.int (x3 ||| ((1 : Int32) <<< (x5 &&& 31)))), some (.int x4), some (.int (x5 + (1 : Int32))), none] [] h)) ∧ (¬ (((150 : Int32) * x5) < ((h.1 59 x4.toNatClampNeg) - (75 : Int32))) → vp_in x4 8 ∧ (((h.1 60 x4.toNatClampNeg) + (75 : Int32)) < ((150 : Int32) * x5) → ((0 : Int32) = 0 → zG M_X8_spots post (zat M_X8_spots 23) [some (.ref 42), some (.int x1), some (.int x2), some (.int (x3 ||| (0 : Int32))), some (.int x4), some (.int (x5 + (1 : Int32))), none] [] h) ∧ (¬ ((0 : Int32) = 0) → zG M_X8_spots post (zat M_X8_spots 23) [some (.ref 42), some (.int x1), some (.int x2), some (.int (x3 ||| ((1 : Int32) <<< (x5 &&& 31)))), some (.int x4), some (.int (x5 + (1 : Int32))), none] [] h)) ∧ (¬ (((h.1 60 x4.toNatClampNeg) + (75 : Int32)) < ((150 : Int32) * x5)) → ((1 : Int32) = 0 → zG M_X8_spots post (zat M_X8_spots 23) [some (.ref 42), some (.int x1), some (.int x2), some (.int (x3 ||| (0 : Int32))), some (.int x4), some (.int (x5 + (1 : Int32))), none] [] h) ∧ (¬ ((1 : Int32) = 0) → zG M_X8_spots post (zat M_X8_spots 23) [some (.ref 42), some (.int x1), some (.int x2), some (.int (x3 ||| ((1 : Int32) <<< (x5 &&& 31)))), some (.int x4), some (.int (x5 + (1 : Int32))), none] [] h))))))) : zG M_X8_spots post (zat M_X8_spots 23) [some (.ref 42), some (.int x1), some (.int x2), some (.int x3), some (.int x4), some (.int x5), none] [] h := zsg_sound (cuts := [(11, [true, true, true, true, true, false, false]), (23, [true, true, true, true, true, true, false])]) 51 t
theorem t_X8_isMade_0 (a1 : Int32) (h : zH) (post : Option Value → zH → Prop) (t : zG M_X8_isMade post (zat M_X8_isMade 4) [some (.ref 42), some (.int a1), some (.int (1 : Int32)), some (.int (0 : Int32))] [] h) : zG M_X8_isMade post (M_X8_isMade.1) [some (.ref 42), some (.int a1), none, none] [] h := zsg_sound (cuts := [(4, [true, true, true, true])]) 6 t
theorem r_X8_isMade (a1 : Int32) (h : zH) (o : Option Value) (h' : zH) (ho : o = some (.int 0) ∨ o = some (.int 1)) (t : zG M_X8_isMade (fun r1 h1 => r1 = o ∧ h1 = h') M_X8_isMade.1 [some (.ref 42), some (.int a1), none, none] [] h) : R_X8_isMade [.ref 42, .int a1] h o h' := ⟨rfl, ho, t⟩
theorem t_X8_isMade_4 (x1 : Int32) (x2 : Int32) (x3 : Int32) (h : zH) (post : Option Value → zH → Prop) (t : ((12 : Int32) ≤ x3 → post (some (.int x2)) h) ∧ (¬ ((12 : Int32) ≤ x3) → (x2 = 0 → zG M_X8_isMade post (zat M_X8_isMade 4) [some (.ref 42), some (.int x1), some (.int (0 : Int32)), some (.int (x3 + (1 : Int32)))] [] h) ∧ (¬ (x2 = 0) → vp_in x3 12 ∧ ((h.1 50 x3.toNatClampNeg) < 0 → zG M_X8_isMade post (zat M_X8_isMade 4) [some (.ref 42), some (.int x1), some (.int (1 : Int32)), some (.int (x3 + (1 : Int32)))] [] h) ∧ (¬ ((h.1 50 x3.toNatClampNeg) < 0) → vp_in x3 12 ∧ (¬ (h.1 50 x3.toNatClampNeg) = ((x1 >>> (x3 &&& 31)) &&& (1 : Int32)) → zG M_X8_isMade post (zat M_X8_isMade 4) [some (.ref 42), some (.int x1), some (.int (0 : Int32)), some (.int (x3 + (1 : Int32)))] [] h) ∧ (¬ ¬ (h.1 50 x3.toNatClampNeg) = ((x1 >>> (x3 &&& 31)) &&& (1 : Int32)) → zG M_X8_isMade post (zat M_X8_isMade 4) [some (.ref 42), some (.int x1), some (.int (1 : Int32)), some (.int (x3 + (1 : Int32)))] [] h))))) : zG M_X8_isMade post (zat M_X8_isMade 4) [some (.ref 42), some (.int x1), some (.int x2), some (.int x3)] [] h := zsg_sound (cuts := [(4, [true, true, true, true])]) 27 t
theorem t_X8_laySpots_0 (a1 : Int32) (h : zH) (post : Option Value → zH → Prop) (t : ∃ h1 : zH, R_X8_layRings [.ref 42] h none h1 ∧ zG M_X8_laySpots post (zat M_X8_laySpots 6) [some (.ref 42), some (.int a1), some (.int (0 : Int32))] [] h1) : zG M_X8_laySpots post (M_X8_laySpots.1) [some (.ref 42), some (.int a1), none] [] h := zsg_sound (cuts := [(6, [true, true, true])]) 6 t
theorem r_X8_laySpots (a1 : Int32) (h : zH) (o : Option Value) (h' : zH) (ho : o = none) (t : zG M_X8_laySpots (fun r1 h1 => r1 = o ∧ h1 = h') M_X8_laySpots.1 [some (.ref 42), some (.int a1), none] [] h) : R_X8_laySpots [.ref 42, .int a1] h o h' := ⟨rfl, ho, t⟩
theorem t_X8_laySpots_6 (x1 : Int32) (x2 : Int32) (h : zH) (post : Option Value → zH → Prop) (t : ((16 : Int32) ≤ x2 → post none h) ∧ (¬ ((16 : Int32) ≤ x2) → ∃ (v1 : Int32) (h1 : zH), R_X8_spots [.ref 42, .int x2, .int x1] h (some (.int v1)) h1 ∧ vp_in x2 16 ∧ zG M_X8_laySpots post (zat M_X8_laySpots 6) [some (.ref 42), some (.int x1), some (.int (x2 + (1 : Int32)))] [] (zsi h1 61 x2.toNatClampNeg v1))) : zG M_X8_laySpots post (zat M_X8_laySpots 6) [some (.ref 42), some (.int x1), some (.int x2)] [] h := zsg_sound (cuts := [(6, [true, true, true])]) 15 t
theorem t_X8_made_0 (a1 : Int32) (a2 : Int32) (h : zH) (post : Option Value → zH → Prop) (t : ∃ (v1 : Int32) (h1 : zH), R_X8_isAsked [.int a1, .int a2] h (some (.int v1)) h1 ∧ (¬ v1 = 0 → ∃ h2 : zH, R_X8_laySpots [.ref 42, .int a2] h1 none h2 ∧ ∃ (v3 : Int32) (h3 : zH), R_X8_metBy [.ref 42, .int a1] h2 (some (.int v3)) h3 ∧ ∃ (v4 : Int32) (h4 : zH), R_X8_isMade [.ref 42, .int v3] h3 (some (.int v4)) h4 ∧ (v4 = 0 → post (some (.int (0 : Int32))) h4) ∧ (¬ (v4 = 0) → post (some (.int (1 : Int32))) h4)) ∧ (¬ ¬ v1 = 0 → post (some (.int (-1 : Int32))) h1)) : zG M_X8_made post (M_X8_made.1) [some (.ref 42), some (.int a1), some (.int a2)] [] h := zsg_sound (cuts := []) 17 t
theorem r_X8_made (a1 : Int32) (a2 : Int32) (h : zH) (o : Option Value) (h' : zH) (ho : ∃ v, o = some (.int v)) (t : zG M_X8_made (fun r1 h1 => r1 = o ∧ h1 = h') M_X8_made.1 [some (.ref 42), some (.int a1), some (.int a2)] [] h) : R_X8_made [.ref 42, .int a1, .int a2] h o h' := ⟨rfl, ho, t⟩
theorem t_X8_maker_0 (a1 : Int32) (h : zH) (post : Option Value → zH → Prop) (t : ∃ (v1 : Int32) (h1 : zH), R_X8_in [.int a1, .int (0 : Int32), .int (900 : Int32)] h (some (.int v1)) h1 ∧ (¬ v1 = 0 → ∃ h2 : zH, R_X8_laySpots [.ref 42, .int a1] h1 none h2 ∧ zG M_X8_maker post (zat M_X8_maker 20) [some (.ref 42), some (.int a1), some (.int (1 : Int32))] [] h2) ∧ (¬ ¬ v1 = 0 → post (some (.int (-1 : Int32))) h1)) : zG M_X8_maker post (M_X8_maker.1) [some (.ref 42), some (.int a1), none] [] h := zsg_sound (cuts := [(20, [true, true, true])]) 12 t
theorem r_X8_maker (a1 : Int32) (h : zH) (o : Option Value) (h' : zH) (ho : ∃ v, o = some (.int v)) (t : zG M_X8_maker (fun r1 h1 => r1 = o ∧ h1 = h') M_X8_maker.1 [some (.ref 42), some (.int a1), none] [] h) : R_X8_maker [.ref 42, .int a1] h o h' := ⟨rfl, ho, t⟩
theorem t_X8_maker_20 (x1 : Int32) (x2 : Int32) (h : zH) (post : Option Value → zH → Prop) (t : ((65536 : Int32) ≤ x2 → post (some (.int (-4 : Int32))) h) ∧ (¬ ((65536 : Int32) ≤ x2) → ∃ (v1 : Int32) (h1 : zH), R_X8_bits [.int x2] h (some (.int v1)) h1 ∧ ((3 : Int32) ≤ v1 → zG M_X8_maker post (zat M_X8_maker 20) [some (.ref 42), some (.int x1), some (.int (x2 + (1 : Int32)))] [] h1) ∧ (¬ ((3 : Int32) ≤ v1) → ∃ (v2 : Int32) (h2 : zH), R_X8_metBy [.ref 42, .int x2] h1 (some (.int v2)) h2 ∧ ∃ (v3 : Int32) (h3 : zH), R_X8_isMade [.ref 42, .int v2] h2 (some (.int v3)) h3 ∧ (v3 = 0 → zG M_X8_maker post (zat M_X8_maker 20) [some (.ref 42), some (.int x1), some (.int (x2 + (1 : Int32)))] [] h3) ∧ (¬ (v3 = 0) → post (some (.int x2)) h3)))) : zG M_X8_maker post (zat M_X8_maker 20) [some (.ref 42), some (.int x1), some (.int x2)] [] h := zsg_sound (cuts := [(20, [true, true, true])]) 17 t
theorem t_X8_day_0 (a1 : Int32) (a2 : Int32) (a3 : Int32) (h : zH) (post : Option Value → zH → Prop) (t : ∃ (v1 : Int32) (h1 : zH), R_X8_in [.int a1, .int (-60 : Int32), .int (40 : Int32)] h (some (.int v1)) h1 ∧ (v1 = 0 → post (some (.int (-1 : Int32))) h1) ∧ (¬ (v1 = 0) → ∃ (v2 : Int32) (h2 : zH), R_X8_in [.int a2, .int (0 : Int32), .int (3 : Int32)] h1 (some (.int v2)) h2 ∧ (v2 = 0 → post (some (.int (-1 : Int32))) h2) ∧ (¬ (v2 = 0) → ∃ (v3 : Int32) (h3 : zH), R_X8_in [.int a3, .int (0 : Int32), .int (65535 : Int32)] h2 (some (.int v3)) h3 ∧ (¬ v3 = 0 → (¬ (h3.1 42 14) = (60 : Int32) → vp_in (h3.1 42 14) 60 ∧ vp_in ((zsi h3 51 (h3.1 42 14).toNatClampNeg a1).1 42 14) 60 ∧ vp_in ((zsi (zsi h3 51 (h3.1 42 14).toNatClampNeg a1) 52 ((zsi h3 51 (h3.1 42 14).toNatClampNeg a1).1 42 14).toNatClampNeg a2).1 42 14) 60 ∧ post (some (.int ((zsi (zsi (zsi (zsi h3 51 (h3.1 42 14).toNatClampNeg a1) 52 ((zsi h3 51 (h3.1 42 14).toNatClampNeg a1).1 42 14).toNatClampNeg a2) 53 ((zsi (zsi h3 51 (h3.1 42 14).toNatClampNeg a1) 52 ((zsi h3 51 (h3.1 42 14).toNatClampNeg a1).1 42 14).toNatClampNeg a2).1 42 14).toNatClampNeg a3) 42 14 (((zsi (zsi (zsi h3 51 (h3.1 42 14).toNatClampNeg a1) 52 ((zsi h3 51 (h3.1 42 14).toNatClampNeg a1).1 42 14).toNatClampNeg a2) 53 ((zsi (zsi h3 51 (h3.1 42 14).toNatClampNeg a1) 52 ((zsi h3 51 (h3.1 42 14).toNatClampNeg a1).1 42 14).toNatClampNeg a2).1 42 14).toNatClampNeg a3).1 42 14) + (1 : Int32))).1 42 14))) (zsi (zsi (zsi (zsi h3 51 (h3.1 42 14).toNatClampNeg a1) 52 ((zsi h3 51 (h3.1 42 14).toNatClampNeg a1).1 42 14).toNatClampNeg a2) 53 ((zsi (zsi h3 51 (h3.1 42 14).toNatClampNeg a1) 52 ((zsi h3 51 (h3.1 42 14).toNatClampNeg a1).1 42 14).toNatClampNeg a2).1 42 14).toNatClampNeg a3) 42 14 (((zsi (zsi (zsi h3 51 (h3.1 42 14).toNatClampNeg a1) 52 ((zsi h3 51 (h3.1 42 14).toNatClampNeg a1).1 42 14).toNatClampNeg a2) 53 ((zsi (zsi h3 51 (h3.1 42 14).toNatClampNeg a1) 52 ((zsi h3 51 (h3.1 42 14).toNatClampNeg a1).1 42 14).toNatClampNeg a2).1 42 14).toNatClampNeg a3).1 42 14) + (1 : Int32)))) ∧ (¬ ¬ (h3.1 42 14) = (60 : Int32) → post (some (.int (-3 : Int32))) h3)) ∧ (¬ ¬ v3 = 0 → post (some (.int (-1 : Int32))) h3)))) : zG M_X8_day post (M_X8_day.1) [some (.ref 42), some (.int a1), some (.int a2), some (.int a3)] [] h := zsg_sound (cuts := []) 47 t
theorem r_X8_day (a1 : Int32) (a2 : Int32) (a3 : Int32) (h : zH) (o : Option Value) (h' : zH) (ho : ∃ v, o = some (.int v)) (t : zG M_X8_day (fun r1 h1 => r1 = o ∧ h1 = h') M_X8_day.1 [some (.ref 42), some (.int a1), some (.int a2), some (.int a3)] [] h) : R_X8_day [.ref 42, .int a1, .int a2, .int a3] h o h' := ⟨rfl, ho, t⟩
theorem t_X8_odds_0 (a1 : Int32) (a2 : Int32) (a3 : Int32) (a4 : Int32) (a5 : Int32) (h : zH) (post : Option Value → zH → Prop) (t : ∃ (v1 : Int32) (h1 : zH), R_X8_in [.int a1, .int (0 : Int32), .int (15 : Int32)] h (some (.int v1)) h1 ∧ (v1 = 0 → post (some (.int (-1 : Int32))) h1) ∧ (¬ (v1 = 0) → ∃ (v2 : Int32) (h2 : zH), R_X8_in [.int a2, .int (-60 : Int32), .int (40 : Int32)] h1 (some (.int v2)) h2 ∧ (v2 = 0 → post (some (.int (-1 : Int32))) h2) ∧ (¬ (v2 = 0) → ∃ (v3 : Int32) (h3 : zH), R_X8_in [.int a3, .int a2, .int (40 : Int32)] h2 (some (.int v3)) h3 ∧ (v3 = 0 → post (some (.int (-1 : Int32))) h3) ∧ (¬ (v3 = 0) → ∃ (v4 : Int32) (h4 : zH), R_X8_in [.int a4, .int (-1 : Int32), .int (3 : Int32)] h3 (some (.int v4)) h4 ∧ (v4 = 0 → post (some (.int (-1 : Int32))) h4) ∧ (¬ (v4 = 0) → ∃ (v5 : Int32) (h5 : zH), R_X8_in [.int a5, .int (0 : Int32), .int (1 : Int32)] h4 (some (.int v5)) h5 ∧ (¬ v5 = 0 → zG M_X8_odds post (zat M_X8_odds 62) [some (.ref 42), some (.int a1), some (.int a2), some (.int a3), some (.int a4), some (.int a5), some (.int (0 : Int32)), some (.int (0 : Int32)), some (.int (0 : Int32)), none, none] [] h5) ∧ (¬ ¬ v5 = 0 → post (some (.int (-1 : Int32))) h5)))))) : zG M_X8_odds post (M_X8_odds.1) [some (.ref 42), some (.int a1), some (.int a2), some (.int a3), some (.int a4), some (.int a5), none, none, none, none, none] [] h := zsg_sound (cuts := [(62, [true, true, true, true, true, true, true, true, true, false, false]), (144, [true, true, true, true, true, true, true, true, true, true, false])]) 33 t
theorem r_X8_odds (a1 : Int32) (a2 : Int32) (a3 : Int32) (a4 : Int32) (a5 : Int32) (h : zH) (o : Option Value) (h' : zH) (ho : ∃ v, o = some (.int v)) (t : zG M_X8_odds (fun r1 h1 => r1 = o ∧ h1 = h') M_X8_odds.1 [some (.ref 42), some (.int a1), some (.int a2), some (.int a3), some (.int a4), some (.int a5), none, none, none, none, none] [] h) : R_X8_odds [.ref 42, .int a1, .int a2, .int a3, .int a4, .int a5] h o h' := ⟨rfl, ho, t⟩
theorem t_X8_odds_62 (x1 : Int32) (x2 : Int32) (x3 : Int32) (x4 : Int32) (x5 : Int32) (x6 : Int32) (x7 : Int32) (x8 : Int32) (h : zH) (post : Option Value → zH → Prop) (t : ((h.1 42 14) ≤ x8 → (¬ x7 = 0 → zG M_X8_odds post (zat M_X8_odds 144) [some (.ref 42), some (.int x1), some (.int x2), some (.int x3), some (.int x4), some (.int x5), some (.int x6), some (.int x7), some (.int x6), some (.int x7), none] [] h) ∧ (¬ ¬ x7 = 0 → post (some (.int (-4 : Int32))) h)) ∧ (¬ ((h.1 42 14) ≤ x8) → vp_in x8 60 ∧ ∃ (v1 : Int32) (h1 : zH), R_X8_in [.int (h.1 51 x8.toNatClampNeg), .int x2, .int x3] h (some (.int v1)) h1 ∧ (v1 = 0 → zG M_X8_odds post (zat M_X8_odds 62) [some (.ref 42), some (.int x1), some (.int x2), some (.int x3), some (.int x4), some (.int x5), some (.int x6), some (.int x7), some (.int (x8 + (1 : Int32))), none, none] [] h1) ∧ (¬ (v1 = 0) → (x4 < 0 → vp_in x8 60 ∧ zG M_X8_odds post (zat M_X8_odds 62) [some (.ref 42), some (.int x1), some (.int x2), some (.int x3), some (.int x4), some (.int x5), some (.int (x6 + (((h1.1 53 x8.toNatClampNeg) >>> (x1 &&& 31)) &&& (1 : Int32)))), some (.int (x7 + (1 : Int32))), some (.int (x8 + (1 : Int32))), none, none] [] h1) ∧ (¬ (x4 < 0) → vp_in x8 60 ∧ (¬ (h1.1 52 x8.toNatClampNeg) = x4 → zG M_X8_odds post (zat M_X8_odds 62) [some (.ref 42), some (.int x1), some (.int x2), some (.int x3), some (.int x4), some (.int x5), some (.int x6), some (.int x7), some (.int (x8 + (1 : Int32))), none, none] [] h1) ∧ (¬ ¬ (h1.1 52 x8.toNatClampNeg) = x4 → vp_in x8 60 ∧ zG M_X8_odds post (zat M_X8_odds 62) [some (.ref 42), some (.int x1), some (.int x2), some (.int x3), some (.int x4), some (.int x5), some (.int (x6 + (((h1.1 53 x8.toNatClampNeg) >>> (x1 &&& 31)) &&& (1 : Int32)))), some (.int (x7 + (1 : Int32))), some (.int (x8 + (1 : Int32))), none, none] [] h1))))) : zG M_X8_odds post (zat M_X8_odds 62) [some (.ref 42), some (.int x1), some (.int x2), some (.int x3), some (.int x4), some (.int x5), some (.int x6), some (.int x7), some (.int x8), none, none] [] h := zsg_sound (cuts := [(62, [true, true, true, true, true, true, true, true, true, false, false]), (144, [true, true, true, true, true, true, true, true, true, true, false])]) 36 t
theorem t_X8_odds_144 (x1 : Int32) (x2 : Int32) (x3 : Int32) (x4 : Int32) (x5 : Int32) (x6 : Int32) (x7 : Int32) (x8 : Int32) (x9 : Int32) (h : zH) (post : Option Value → zH → Prop) (t : (x9 = 0 → (¬ x5 = 0 → ¬ x8 = 0 ∧ post (some (.int (x7 / x8))) h) ∧ (¬ ¬ x5 = 0 → ¬ x8 = 0 ∧ post (some (.int (x6 / x8))) h)) ∧ (¬ (x9 = 0) → ¬ x9 = 0 ∧ zG M_X8_odds post (zat M_X8_odds 144) [some (.ref 42), some (.int x1), some (.int x2), some (.int x3), some (.int x4), some (.int x5), some (.int x6), some (.int x7), some (.int x9), some (.int (x8 - x8 / x9 * x9)), none] [] h)) : zG M_X8_odds post (zat M_X8_odds 144) [some (.ref 42), some (.int x1), some (.int x2), some (.int x3), some (.int x4), some (.int x5), some (.int x6), some (.int x7), some (.int x8), some (.int x9), none] [] h := zsg_sound (cuts := [(62, [true, true, true, true, true, true, true, true, true, false, false]), (144, [true, true, true, true, true, true, true, true, true, true, false])]) 13 t
theorem t_X8_together_0 (a1 : Int32) (a2 : Int32) (h : zH) (post : Option Value → zH → Prop) (t : ∃ (v1 : Int32) (h1 : zH), R_X8_in [.int a1, .int (0 : Int32), .int (15 : Int32)] h (some (.int v1)) h1 ∧ (v1 = 0 → post (some (.int (-1 : Int32))) h1) ∧ (¬ (v1 = 0) → ∃ (v2 : Int32) (h2 : zH), R_X8_in [.int a2, .int (0 : Int32), .int (15 : Int32)] h1 (some (.int v2)) h2 ∧ (v2 = 0 → post (some (.int (-1 : Int32))) h2) ∧ (¬ (v2 = 0) → (¬ a1 = a2 → zG M_X8_together post (zat M_X8_together 32) [some (.ref 42), some (.int a1), some (.int a2), some (.int (0 : Int32)), some (.int (0 : Int32))] [] h2) ∧ (¬ ¬ a1 = a2 → post (some (.int (-1 : Int32))) h2)))) : zG M_X8_together post (M_X8_together.1) [some (.ref 42), some (.int a1), some (.int a2), none, none] [] h := zsg_sound (cuts := [(32, [true, true, true, true, true])]) 19 t
theorem r_X8_together (a1 : Int32) (a2 : Int32) (h : zH) (o : Option Value) (h' : zH) (ho : ∃ v, o = some (.int v)) (t : zG M_X8_together (fun r1 h1 => r1 = o ∧ h1 = h') M_X8_together.1 [some (.ref 42), some (.int a1), some (.int a2), none, none] [] h) : R_X8_together [.ref 42, .int a1, .int a2] h o h' := ⟨rfl, ho, t⟩
theorem t_X8_together_32 (x1 : Int32) (x2 : Int32) (x3 : Int32) (x4 : Int32) (h : zH) (post : Option Value → zH → Prop) (t : ((h.1 42 14) ≤ x4 → post (some (.int x3)) h) ∧ (¬ ((h.1 42 14) ≤ x4) → vp_in x4 60 ∧ vp_in x4 60 ∧ (¬ ((((h.1 53 x4.toNatClampNeg) >>> (x1 &&& 31)) &&& (1 : Int32)) + (((h.1 53 x4.toNatClampNeg) >>> (x2 &&& 31)) &&& (1 : Int32))) = (2 : Int32) → zG M_X8_together post (zat M_X8_together 32) [some (.ref 42), some (.int x1), some (.int x2), some (.int (x3 + (0 : Int32))), some (.int (x4 + (1 : Int32)))] [] h) ∧ (¬ ¬ ((((h.1 53 x4.toNatClampNeg) >>> (x1 &&& 31)) &&& (1 : Int32)) + (((h.1 53 x4.toNatClampNeg) >>> (x2 &&& 31)) &&& (1 : Int32))) = (2 : Int32) → zG M_X8_together post (zat M_X8_together 32) [some (.ref 42), some (.int x1), some (.int x2), some (.int (x3 + (1 : Int32))), some (.int (x4 + (1 : Int32)))] [] h))) : zG M_X8_together post (zat M_X8_together 32) [some (.ref 42), some (.int x1), some (.int x2), some (.int x3), some (.int x4)] [] h := zsg_sound (cuts := [(32, [true, true, true, true, true])]) 32 t
theorem t_X8_keep_0  (h : zH) (post : Option Value → zH → Prop) (t : (¬ (h.1 42 28) = (3 : Int32) → zG M_X8_keep post (zat M_X8_keep 21) [some (.ref 42), some (.int ((51 : Int32) * (h.1 42 28))), some (.int (0 : Int32))] [] h) ∧ (¬ ¬ (h.1 42 28) = (3 : Int32) → post (some (.int (-3 : Int32))) h)) : zG M_X8_keep post (M_X8_keep.1) [some (.ref 42), none, none] [] h := zsg_sound (cuts := [(21, [true, true, true]), (49, [true, true, true]), (80, [true, true, true])]) 13 t
theorem r_X8_keep  (h : zH) (o : Option Value) (h' : zH) (ho : ∃ v, o = some (.int v)) (t : zG M_X8_keep (fun r1 h1 => r1 = o ∧ h1 = h') M_X8_keep.1 [some (.ref 42), none, none] [] h) : R_X8_keep [.ref 42] h o h' := ⟨rfl, ho, t⟩
theorem t_X8_keep_21 (x1 : Int32) (x2 : Int32) (h : zH) (post : Option Value → zH → Prop) (t : ((30 : Int32) ≤ x2 → zG M_X8_keep post (zat M_X8_keep 49) [some (.ref 42), some (.int x1), some (.int (0 : Int32))] [] h) ∧ (¬ ((30 : Int32) ≤ x2) → vp_in x2 30 ∧ vp_in (x1 + x2) 153 ∧ zG M_X8_keep post (zat M_X8_keep 21) [some (.ref 42), some (.int x1), some (.int (x2 + (1 : Int32)))] [] (zsi h 62 (x1 + x2).toNatClampNeg (h.1 43 x2.toNatClampNeg)))) : zG M_X8_keep post (zat M_X8_keep 21) [some (.ref 42), some (.int x1), some (.int x2)] [] h := zsg_sound (cuts := [(21, [true, true, true]), (49, [true, true, true]), (80, [true, true, true])]) 17 t
theorem t_X8_keep_49 (x1 : Int32) (x2 : Int32) (h : zH) (post : Option Value → zH → Prop) (t : ((12 : Int32) ≤ x2 → zG M_X8_keep post (zat M_X8_keep 80) [some (.ref 42), some (.int x1), some (.int (0 : Int32))] [] h) ∧ (¬ ((12 : Int32) ≤ x2) → vp_in x2 12 ∧ vp_in ((x1 + (30 : Int32)) + x2) 153 ∧ zG M_X8_keep post (zat M_X8_keep 49) [some (.ref 42), some (.int x1), some (.int (x2 + (1 : Int32)))] [] (zsi h 62 ((x1 + (30 : Int32)) + x2).toNatClampNeg (h.1 45 x2.toNatClampNeg)))) : zG M_X8_keep post (zat M_X8_keep 49) [some (.ref 42), some (.int x1), some (.int x2)] [] h := zsg_sound (cuts := [(21, [true, true, true]), (49, [true, true, true]), (80, [true, true, true])]) 19 t
theorem t_X8_keep_80 (x1 : Int32) (x2 : Int32) (h : zH) (post : Option Value → zH → Prop) (t : ((4 : Int32) ≤ x2 → vp_in (x1 + (46 : Int32)) 153 ∧ vp_in (x1 + (47 : Int32)) 153 ∧ vp_in (x1 + (48 : Int32)) 153 ∧ vp_in (x1 + (49 : Int32)) 153 ∧ vp_in (x1 + (50 : Int32)) 153 ∧ post (some (.int ((zsi (zsi (zsi (zsi (zsi (zsi h 62 (x1 + (46 : Int32)).toNatClampNeg (h.1 42 1)) 62 (x1 + (47 : Int32)).toNatClampNeg ((zsi h 62 (x1 + (46 : Int32)).toNatClampNeg (h.1 42 1)).1 42 2)) 62 (x1 + (48 : Int32)).toNatClampNeg ((zsi (zsi h 62 (x1 + (46 : Int32)).toNatClampNeg (h.1 42 1)) 62 (x1 + (47 : Int32)).toNatClampNeg ((zsi h 62 (x1 + (46 : Int32)).toNatClampNeg (h.1 42 1)).1 42 2)).1 42 3)) 62 (x1 + (49 : Int32)).toNatClampNeg ((zsi (zsi (zsi h 62 (x1 + (46 : Int32)).toNatClampNeg (h.1 42 1)) 62 (x1 + (47 : Int32)).toNatClampNeg ((zsi h 62 (x1 + (46 : Int32)).toNatClampNeg (h.1 42 1)).1 42 2)) 62 (x1 + (48 : Int32)).toNatClampNeg ((zsi (zsi h 62 (x1 + (46 : Int32)).toNatClampNeg (h.1 42 1)) 62 (x1 + (47 : Int32)).toNatClampNeg ((zsi h 62 (x1 + (46 : Int32)).toNatClampNeg (h.1 42 1)).1 42 2)).1 42 3)).1 42 4)) 62 (x1 + (50 : Int32)).toNatClampNeg ((zsi (zsi (zsi (zsi h 62 (x1 + (46 : Int32)).toNatClampNeg (h.1 42 1)) 62 (x1 + (47 : Int32)).toNatClampNeg ((zsi h 62 (x1 + (46 : Int32)).toNatClampNeg (h.1 42 1)).1 42 2)) 62 (x1 + (48 : Int32)).toNatClampNeg ((zsi (zsi h 62 (x1 + (46 : Int32)).toNatClampNeg (h.1 42 1)) 62 (x1 + (47 : Int32)).toNatClampNeg ((zsi h 62 (x1 + (46 : Int32)).toNatClampNeg (h.1 42 1)).1 42 2)).1 42 3)) 62 (x1 + (49 : Int32)).toNatClampNeg ((zsi (zsi (zsi h 62 (x1 + (46 : Int32)).toNatClampNeg (h.1 42 1)) 62 (x1 + (47 : Int32)).toNatClampNeg ((zsi h 62 (x1 + (46 : Int32)).toNatClampNeg (h.1 42 1)).1 42 2)) 62 (x1 + (48 : Int32)).toNatClampNeg ((zsi (zsi h 62 (x1 + (46 : Int32)).toNatClampNeg (h.1 42 1)) 62 (x1 + (47 : Int32)).toNatClampNeg ((zsi h 62 (x1 + (46 : Int32)).toNatClampNeg (h.1 42 1)).1 42 2)).1 42 3)).1 42 4)).1 42 5)) 42 28 (((zsi (zsi (zsi (zsi (zsi h 62 (x1 + (46 : Int32)).toNatClampNeg (h.1 42 1)) 62 (x1 + (47 : Int32)).toNatClampNeg ((zsi h 62 (x1 + (46 : Int32)).toNatClampNeg (h.1 42 1)).1 42 2)) 62 (x1 + (48 : Int32)).toNatClampNeg ((zsi (zsi h 62 (x1 + (46 : Int32)).toNatClampNeg (h.1 42 1)) 62 (x1 + (47 : Int32)).toNatClampNeg ((zsi h 62 (x1 + (46 : Int32)).toNatClampNeg (h.1 42 1)).1 42 2)).1 42 3)) 62 (x1 + (49 : Int32)).toNatClampNeg ((zsi (zsi (zsi h 62 (x1 + (46 : Int32)).toNatClampNeg (h.1 42 1)) 62 (x1 + (47 : Int32)).toNatClampNeg ((zsi h 62 (x1 + (46 : Int32)).toNatClampNeg (h.1 42 1)).1 42 2)) 62 (x1 + (48 : Int32)).toNatClampNeg ((zsi (zsi h 62 (x1 + (46 : Int32)).toNatClampNeg (h.1 42 1)) 62 (x1 + (47 : Int32)).toNatClampNeg ((zsi h 62 (x1 + (46 : Int32)).toNatClampNeg (h.1 42 1)).1 42 2)).1 42 3)).1 42 4)) 62 (x1 + (50 : Int32)).toNatClampNeg ((zsi (zsi (zsi (zsi h 62 (x1 + (46 : Int32)).toNatClampNeg (h.1 42 1)) 62 (x1 + (47 : Int32)).toNatClampNeg ((zsi h 62 (x1 + (46 : Int32)).toNatClampNeg (h.1 42 1)).1 42 2)) 62 (x1 + (48 : Int32)).toNatClampNeg ((zsi (zsi h 62 (x1 + (46 : Int32)).toNatClampNeg (h.1 42 1)) 62 (x1 + (47 : Int32)).toNatClampNeg ((zsi h 62 (x1 + (46 : Int32)).toNatClampNeg (h.1 42 1)).1 42 2)).1 42 3)) 62 (x1 + (49 : Int32)).toNatClampNeg ((zsi (zsi (zsi h 62 (x1 + (46 : Int32)).toNatClampNeg (h.1 42 1)) 62 (x1 + (47 : Int32)).toNatClampNeg ((zsi h 62 (x1 + (46 : Int32)).toNatClampNeg (h.1 42 1)).1 42 2)) 62 (x1 + (48 : Int32)).toNatClampNeg ((zsi (zsi h 62 (x1 + (46 : Int32)).toNatClampNeg (h.1 42 1)) 62 (x1 + (47 : Int32)).toNatClampNeg ((zsi h 62 (x1 + (46 : Int32)).toNatClampNeg (h.1 42 1)).1 42 2)).1 42 3)).1 42 4)).1 42 5)).1 42 28) + (1 : Int32))).1 42 28))) (zsi (zsi (zsi (zsi (zsi (zsi h 62 (x1 + (46 : Int32)).toNatClampNeg (h.1 42 1)) 62 (x1 + (47 : Int32)).toNatClampNeg ((zsi h 62 (x1 + (46 : Int32)).toNatClampNeg (h.1 42 1)).1 42 2)) 62 (x1 + (48 : Int32)).toNatClampNeg ((zsi (zsi h 62 (x1 + (46 : Int32)).toNatClampNeg (h.1 42 1)) 62 (x1 + (47 : Int32)).toNatClampNeg ((zsi h 62 (x1 + (46 : Int32)).toNatClampNeg (h.1 42 1)).1 42 2)).1 42 3)) 62 (x1 + (49 : Int32)).toNatClampNeg ((zsi (zsi (zsi h 62 (x1 + (46 : Int32)).toNatClampNeg (h.1 42 1)) 62 (x1 + (47 : Int32)).toNatClampNeg ((zsi h 62 (x1 + (46 : Int32)).toNatClampNeg (h.1 42 1)).1 42 2)) 62 (x1 + (48 : Int32)).toNatClampNeg ((zsi (zsi h 62 (x1 + (46 : Int32)).toNatClampNeg (h.1 42 1)) 62 (x1 + (47 : Int32)).toNatClampNeg ((zsi h 62 (x1 + (46 : Int32)).toNatClampNeg (h.1 42 1)).1 42 2)).1 42 3)).1 42 4)) 62 (x1 + (50 : Int32)).toNatClampNeg ((zsi (zsi (zsi (zsi h 62 (x1 + (46 : Int32)).toNatClampNeg (h.1 42 1)) 62 (x1 + (47 : Int32)).toNatClampNeg ((zsi h 62 (x1 + (46 : Int32)).toNatClampNeg (h.1 42 1)).1 42 2)) 62 (x1 + (48 : Int32)).toNatClampNeg ((zsi (zsi h 62 (x1 + (46 : Int32)).toNatClampNeg (h.1 42 1)) 62 (x1 + (47 : Int32)).toNatClampNeg ((zsi h 62 (x1 + (46 : Int32)).toNatClampNeg (h.1 42 1)).1 42 2)).1 42 3)) 62 (x1 + (49 : Int32)).toNatClampNeg ((zsi (zsi (zsi h 62 (x1 + (46 : Int32)).toNatClampNeg (h.1 42 1)) 62 (x1 + (47 : Int32)).toNatClampNeg ((zsi h 62 (x1 + (46 : Int32)).toNatClampNeg (h.1 42 1)).1 42 2)) 62 (x1 + (48 : Int32)).toNatClampNeg ((zsi (zsi h 62 (x1 + (46 : Int32)).toNatClampNeg (h.1 42 1)) 62 (x1 + (47 : Int32)).toNatClampNeg ((zsi h 62 (x1 + (46 : Int32)).toNatClampNeg (h.1 42 1)).1 42 2)).1 42 3)).1 42 4)).1 42 5)) 42 28 (((zsi (zsi (zsi (zsi (zsi h 62 (x1 + (46 : Int32)).toNatClampNeg (h.1 42 1)) 62 (x1 + (47 : Int32)).toNatClampNeg ((zsi h 62 (x1 + (46 : Int32)).toNatClampNeg (h.1 42 1)).1 42 2)) 62 (x1 + (48 : Int32)).toNatClampNeg ((zsi (zsi h 62 (x1 + (46 : Int32)).toNatClampNeg (h.1 42 1)) 62 (x1 + (47 : Int32)).toNatClampNeg ((zsi h 62 (x1 + (46 : Int32)).toNatClampNeg (h.1 42 1)).1 42 2)).1 42 3)) 62 (x1 + (49 : Int32)).toNatClampNeg ((zsi (zsi (zsi h 62 (x1 + (46 : Int32)).toNatClampNeg (h.1 42 1)) 62 (x1 + (47 : Int32)).toNatClampNeg ((zsi h 62 (x1 + (46 : Int32)).toNatClampNeg (h.1 42 1)).1 42 2)) 62 (x1 + (48 : Int32)).toNatClampNeg ((zsi (zsi h 62 (x1 + (46 : Int32)).toNatClampNeg (h.1 42 1)) 62 (x1 + (47 : Int32)).toNatClampNeg ((zsi h 62 (x1 + (46 : Int32)).toNatClampNeg (h.1 42 1)).1 42 2)).1 42 3)).1 42 4)) 62 (x1 + (50 : Int32)).toNatClampNeg ((zsi (zsi (zsi (zsi h 62 (x1 + (46 : Int32)).toNatClampNeg (h.1 42 1)) 62 (x1 + (47 : Int32)).toNatClampNeg ((zsi h 62 (x1 + (46 : Int32)).toNatClampNeg (h.1 42 1)).1 42 2)) 62 (x1 + (48 : Int32)).toNatClampNeg ((zsi (zsi h 62 (x1 + (46 : Int32)).toNatClampNeg (h.1 42 1)) 62 (x1 + (47 : Int32)).toNatClampNeg ((zsi h 62 (x1 + (46 : Int32)).toNatClampNeg (h.1 42 1)).1 42 2)).1 42 3)) 62 (x1 + (49 : Int32)).toNatClampNeg ((zsi (zsi (zsi h 62 (x1 + (46 : Int32)).toNatClampNeg (h.1 42 1)) 62 (x1 + (47 : Int32)).toNatClampNeg ((zsi h 62 (x1 + (46 : Int32)).toNatClampNeg (h.1 42 1)).1 42 2)) 62 (x1 + (48 : Int32)).toNatClampNeg ((zsi (zsi h 62 (x1 + (46 : Int32)).toNatClampNeg (h.1 42 1)) 62 (x1 + (47 : Int32)).toNatClampNeg ((zsi h 62 (x1 + (46 : Int32)).toNatClampNeg (h.1 42 1)).1 42 2)).1 42 3)).1 42 4)).1 42 5)).1 42 28) + (1 : Int32)))) ∧ (¬ ((4 : Int32) ≤ x2) → vp_in x2 4 ∧ vp_in ((x1 + (42 : Int32)) + x2) 153 ∧ zG M_X8_keep post (zat M_X8_keep 80) [some (.ref 42), some (.int x1), some (.int (x2 + (1 : Int32)))] [] (zsi h 62 ((x1 + (42 : Int32)) + x2).toNatClampNeg (h.1 44 x2.toNatClampNeg)))) : zG M_X8_keep post (zat M_X8_keep 80) [some (.ref 42), some (.int x1), some (.int x2)] [] h := zsg_sound (cuts := [(21, [true, true, true]), (49, [true, true, true]), (80, [true, true, true])]) 53 t
theorem t_X8_back_0  (h : zH) (post : Option Value → zH → Prop) (t : (¬ (h.1 42 28) = 0 → zG M_X8_back post (zat M_X8_back 30) [some (.ref 42), some (.int ((51 : Int32) * ((zsi h 42 28 ((h.1 42 28) - (1 : Int32))).1 42 28))), some (.int (0 : Int32))] [] (zsi h 42 28 ((h.1 42 28) - (1 : Int32)))) ∧ (¬ ¬ (h.1 42 28) = 0 → post (some (.int (-2 : Int32))) h)) : zG M_X8_back post (M_X8_back.1) [some (.ref 42), none, none] [] h := zsg_sound (cuts := [(30, [true, true, true]), (58, [true, true, true]), (89, [true, true, true])]) 18 t
theorem r_X8_back  (h : zH) (o : Option Value) (h' : zH) (ho : ∃ v, o = some (.int v)) (t : zG M_X8_back (fun r1 h1 => r1 = o ∧ h1 = h') M_X8_back.1 [some (.ref 42), none, none] [] h) : R_X8_back [.ref 42] h o h' := ⟨rfl, ho, t⟩
theorem t_X8_back_30 (x1 : Int32) (x2 : Int32) (h : zH) (post : Option Value → zH → Prop) (t : ((30 : Int32) ≤ x2 → zG M_X8_back post (zat M_X8_back 58) [some (.ref 42), some (.int x1), some (.int (0 : Int32))] [] h) ∧ (¬ ((30 : Int32) ≤ x2) → vp_in (x1 + x2) 153 ∧ vp_in x2 30 ∧ zG M_X8_back post (zat M_X8_back 30) [some (.ref 42), some (.int x1), some (.int (x2 + (1 : Int32)))] [] (zsi h 43 x2.toNatClampNeg (h.1 62 (x1 + x2).toNatClampNeg)))) : zG M_X8_back post (zat M_X8_back 30) [some (.ref 42), some (.int x1), some (.int x2)] [] h := zsg_sound (cuts := [(30, [true, true, true]), (58, [true, true, true]), (89, [true, true, true])]) 17 t
theorem t_X8_back_58 (x1 : Int32) (x2 : Int32) (h : zH) (post : Option Value → zH → Prop) (t : ((12 : Int32) ≤ x2 → zG M_X8_back post (zat M_X8_back 89) [some (.ref 42), some (.int x1), some (.int (0 : Int32))] [] h) ∧ (¬ ((12 : Int32) ≤ x2) → vp_in ((x1 + (30 : Int32)) + x2) 153 ∧ vp_in x2 12 ∧ zG M_X8_back post (zat M_X8_back 58) [some (.ref 42), some (.int x1), some (.int (x2 + (1 : Int32)))] [] (zsi h 45 x2.toNatClampNeg (h.1 62 ((x1 + (30 : Int32)) + x2).toNatClampNeg)))) : zG M_X8_back post (zat M_X8_back 58) [some (.ref 42), some (.int x1), some (.int x2)] [] h := zsg_sound (cuts := [(30, [true, true, true]), (58, [true, true, true]), (89, [true, true, true])]) 19 t
theorem t_X8_back_89 (x1 : Int32) (x2 : Int32) (h : zH) (post : Option Value → zH → Prop) (t : ((4 : Int32) ≤ x2 → vp_in (x1 + (46 : Int32)) 153 ∧ vp_in (x1 + (47 : Int32)) 153 ∧ vp_in (x1 + (48 : Int32)) 153 ∧ vp_in (x1 + (49 : Int32)) 153 ∧ vp_in (x1 + (50 : Int32)) 153 ∧ post (some (.int ((zsi (zsi (zsi (zsi (zsi h 42 1 (h.1 62 (x1 + (46 : Int32)).toNatClampNeg)) 42 2 ((zsi h 42 1 (h.1 62 (x1 + (46 : Int32)).toNatClampNeg)).1 62 (x1 + (47 : Int32)).toNatClampNeg)) 42 3 ((zsi (zsi h 42 1 (h.1 62 (x1 + (46 : Int32)).toNatClampNeg)) 42 2 ((zsi h 42 1 (h.1 62 (x1 + (46 : Int32)).toNatClampNeg)).1 62 (x1 + (47 : Int32)).toNatClampNeg)).1 62 (x1 + (48 : Int32)).toNatClampNeg)) 42 4 ((zsi (zsi (zsi h 42 1 (h.1 62 (x1 + (46 : Int32)).toNatClampNeg)) 42 2 ((zsi h 42 1 (h.1 62 (x1 + (46 : Int32)).toNatClampNeg)).1 62 (x1 + (47 : Int32)).toNatClampNeg)) 42 3 ((zsi (zsi h 42 1 (h.1 62 (x1 + (46 : Int32)).toNatClampNeg)) 42 2 ((zsi h 42 1 (h.1 62 (x1 + (46 : Int32)).toNatClampNeg)).1 62 (x1 + (47 : Int32)).toNatClampNeg)).1 62 (x1 + (48 : Int32)).toNatClampNeg)).1 62 (x1 + (49 : Int32)).toNatClampNeg)) 42 5 ((zsi (zsi (zsi (zsi h 42 1 (h.1 62 (x1 + (46 : Int32)).toNatClampNeg)) 42 2 ((zsi h 42 1 (h.1 62 (x1 + (46 : Int32)).toNatClampNeg)).1 62 (x1 + (47 : Int32)).toNatClampNeg)) 42 3 ((zsi (zsi h 42 1 (h.1 62 (x1 + (46 : Int32)).toNatClampNeg)) 42 2 ((zsi h 42 1 (h.1 62 (x1 + (46 : Int32)).toNatClampNeg)).1 62 (x1 + (47 : Int32)).toNatClampNeg)).1 62 (x1 + (48 : Int32)).toNatClampNeg)) 42 4 ((zsi (zsi (zsi h 42 1 (h.1 62 (x1 + (46 : Int32)).toNatClampNeg)) 42 2 ((zsi h 42 1 (h.1 62 (x1 + (46 : Int32)).toNatClampNeg)).1 62 (x1 + (47 : Int32)).toNatClampNeg)) 42 3 ((zsi (zsi h 42 1 (h.1 62 (x1 + (46 : Int32)).toNatClampNeg)) 42 2 ((zsi h 42 1 (h.1 62 (x1 + (46 : Int32)).toNatClampNeg)).1 62 (x1 + (47 : Int32)).toNatClampNeg)).1 62 (x1 + (48 : Int32)).toNatClampNeg)).1 62 (x1 + (49 : Int32)).toNatClampNeg)).1 62 (x1 + (50 : Int32)).toNatClampNeg)).1 42 28))) (zsi (zsi (zsi (zsi (zsi h 42 1 (h.1 62 (x1 + (46 : Int32)).toNatClampNeg)) 42 2 ((zsi h 42 1 (h.1 62 (x1 + (46 : Int32)).toNatClampNeg)).1 62 (x1 + (47 : Int32)).toNatClampNeg)) 42 3 ((zsi (zsi h 42 1 (h.1 62 (x1 + (46 : Int32)).toNatClampNeg)) 42 2 ((zsi h 42 1 (h.1 62 (x1 + (46 : Int32)).toNatClampNeg)).1 62 (x1 + (47 : Int32)).toNatClampNeg)).1 62 (x1 + (48 : Int32)).toNatClampNeg)) 42 4 ((zsi (zsi (zsi h 42 1 (h.1 62 (x1 + (46 : Int32)).toNatClampNeg)) 42 2 ((zsi h 42 1 (h.1 62 (x1 + (46 : Int32)).toNatClampNeg)).1 62 (x1 + (47 : Int32)).toNatClampNeg)) 42 3 ((zsi (zsi h 42 1 (h.1 62 (x1 + (46 : Int32)).toNatClampNeg)) 42 2 ((zsi h 42 1 (h.1 62 (x1 + (46 : Int32)).toNatClampNeg)).1 62 (x1 + (47 : Int32)).toNatClampNeg)).1 62 (x1 + (48 : Int32)).toNatClampNeg)).1 62 (x1 + (49 : Int32)).toNatClampNeg)) 42 5 ((zsi (zsi (zsi (zsi h 42 1 (h.1 62 (x1 + (46 : Int32)).toNatClampNeg)) 42 2 ((zsi h 42 1 (h.1 62 (x1 + (46 : Int32)).toNatClampNeg)).1 62 (x1 + (47 : Int32)).toNatClampNeg)) 42 3 ((zsi (zsi h 42 1 (h.1 62 (x1 + (46 : Int32)).toNatClampNeg)) 42 2 ((zsi h 42 1 (h.1 62 (x1 + (46 : Int32)).toNatClampNeg)).1 62 (x1 + (47 : Int32)).toNatClampNeg)).1 62 (x1 + (48 : Int32)).toNatClampNeg)) 42 4 ((zsi (zsi (zsi h 42 1 (h.1 62 (x1 + (46 : Int32)).toNatClampNeg)) 42 2 ((zsi h 42 1 (h.1 62 (x1 + (46 : Int32)).toNatClampNeg)).1 62 (x1 + (47 : Int32)).toNatClampNeg)) 42 3 ((zsi (zsi h 42 1 (h.1 62 (x1 + (46 : Int32)).toNatClampNeg)) 42 2 ((zsi h 42 1 (h.1 62 (x1 + (46 : Int32)).toNatClampNeg)).1 62 (x1 + (47 : Int32)).toNatClampNeg)).1 62 (x1 + (48 : Int32)).toNatClampNeg)).1 62 (x1 + (49 : Int32)).toNatClampNeg)).1 62 (x1 + (50 : Int32)).toNatClampNeg))) ∧ (¬ ((4 : Int32) ≤ x2) → vp_in ((x1 + (42 : Int32)) + x2) 153 ∧ vp_in x2 4 ∧ zG M_X8_back post (zat M_X8_back 89) [some (.ref 42), some (.int x1), some (.int (x2 + (1 : Int32)))] [] (zsi h 44 x2.toNatClampNeg (h.1 62 ((x1 + (42 : Int32)) + x2).toNatClampNeg)))) : zG M_X8_back post (zat M_X8_back 89) [some (.ref 42), some (.int x1), some (.int x2)] [] h := zsg_sound (cuts := [(30, [true, true, true]), (58, [true, true, true]), (89, [true, true, true])]) 47 t
theorem t_X8_count_0 (a1 : Int32) (h : zH) (post : Option Value → zH → Prop) (t : (a1.toInt < 0 ∨ 5 < a1.toInt → post (some (.int (-1 : Int32))) h) ∧ (a1.toInt = 0 → vp_in (0 : Int32) 4 ∧ vp_in (1 : Int32) 4 ∧ vp_in (2 : Int32) 4 ∧ vp_in (3 : Int32) 4 ∧ post (some (.int ((((h.1 44 (0 : Int32).toNatClampNeg) + (h.1 44 (1 : Int32).toNatClampNeg)) + (h.1 44 (2 : Int32).toNatClampNeg)) + (h.1 44 (3 : Int32).toNatClampNeg)))) h) ∧ (a1.toInt = 1 → post (some (.int (h.1 42 8))) h) ∧ (a1.toInt = 2 → post (some (.int (h.1 42 14))) h) ∧ (a1.toInt = 3 → post (some (.int (h.1 42 28))) h) ∧ (a1.toInt = 4 → zG M_X8_count post (zat M_X8_count 85) [some (.ref 42), some (.int a1), some (.int (0 : Int32)), some (.int (0 : Int32))] [] h) ∧ (a1.toInt = 5 → zG M_X8_count post (zat M_X8_count 118) [some (.ref 42), some (.int a1), some (.int (0 : Int32)), some (.int (0 : Int32))] [] h) ∧ True) : zG M_X8_count post (M_X8_count.1) [some (.ref 42), some (.int a1), none, none] [] h := zsg_sound (cuts := [(85, [true, true, true, true]), (118, [true, true, true, true])]) 25 t
theorem r_X8_count (a1 : Int32) (h : zH) (o : Option Value) (h' : zH) (ho : ∃ v, o = some (.int v)) (t : zG M_X8_count (fun r1 h1 => r1 = o ∧ h1 = h') M_X8_count.1 [some (.ref 42), some (.int a1), none, none] [] h) : R_X8_count [.ref 42, .int a1] h o h' := ⟨rfl, ho, t⟩
theorem t_X8_count_85 (x1 : Int32) (x2 : Int32) (x3 : Int32) (h : zH) (post : Option Value → zH → Prop) (t : ((12 : Int32) ≤ x3 → post (some (.int x2)) h) ∧ (¬ ((12 : Int32) ≤ x3) → vp_in x3 12 ∧ (0 ≤ (h.1 50 x3.toNatClampNeg) → zG M_X8_count post (zat M_X8_count 85) [some (.ref 42), some (.int x1), some (.int (x2 + (1 : Int32))), some (.int (x3 + (1 : Int32)))] [] h) ∧ (¬ (0 ≤ (h.1 50 x3.toNatClampNeg)) → zG M_X8_count post (zat M_X8_count 85) [some (.ref 42), some (.int x1), some (.int (x2 + (0 : Int32))), some (.int (x3 + (1 : Int32)))] [] h))) : zG M_X8_count post (zat M_X8_count 85) [some (.ref 42), some (.int x1), some (.int x2), some (.int x3)] [] h := zsg_sound (cuts := [(85, [true, true, true, true]), (118, [true, true, true, true])]) 17 t
theorem t_X8_count_118 (x1 : Int32) (x2 : Int32) (x3 : Int32) (h : zH) (post : Option Value → zH → Prop) (t : ((h.1 42 14) ≤ x3 → ∃ (v1 : Int32) (h1 : zH), R_X8_bits [.int x2] h (some (.int v1)) h1 ∧ post (some (.int v1)) h1) ∧ (¬ ((h.1 42 14) ≤ x3) → vp_in x3 60 ∧ zG M_X8_count post (zat M_X8_count 118) [some (.ref 42), some (.int x1), some (.int (x2 ||| (h.1 53 x3.toNatClampNeg))), some (.int (x3 + (1 : Int32)))] [] h)) : zG M_X8_count post (zat M_X8_count 118) [some (.ref 42), some (.int x1), some (.int x2), some (.int x3)] [] h := zsg_sound (cuts := [(85, [true, true, true, true]), (118, [true, true, true, true])]) 15 t
end
section
/-! ===== numbers ===== -/
theorem q0 : (0 : Int32) = nI 0 := rfl
theorem q1 : (1 : Int32) = nI 1 := rfl
theorem q2 : (2 : Int32) = nI 2 := rfl
theorem q3 : (3 : Int32) = nI 3 := rfl
theorem q4 : (4 : Int32) = nI 4 := rfl
theorem q5 : (5 : Int32) = nI 5 := rfl
theorem q6 : (6 : Int32) = nI 6 := rfl
theorem q9 : (9 : Int32) = nI 9 := rfl
theorem q10 : (10 : Int32) = nI 10 := rfl
theorem q11 : (11 : Int32) = nI 11 := rfl
theorem q12 : (12 : Int32) = nI 12 := rfl
theorem q15 : (15 : Int32) = nI 15 := rfl
theorem q16 : (16 : Int32) = nI 16 := rfl
theorem q17 : (17 : Int32) = nI 17 := rfl
theorem q20 : (20 : Int32) = nI 20 := rfl
theorem q30 : (30 : Int32) = nI 30 := rfl
theorem q31 : (31 : Int32) = nI 31 := rfl
theorem q42 : (42 : Int32) = nI 42 := rfl
theorem q46 : (46 : Int32) = nI 46 := rfl
theorem q47 : (47 : Int32) = nI 47 := rfl
theorem q48 : (48 : Int32) = nI 48 := rfl
theorem q49 : (49 : Int32) = nI 49 := rfl
theorem q50 : (50 : Int32) = nI 50 := rfl
theorem q51 : (51 : Int32) = nI 51 := rfl
theorem q60 : (60 : Int32) = nI 60 := rfl
theorem q75 : (75 : Int32) = nI 75 := rfl
theorem q99 : (99 : Int32) = nI 99 := rfl
theorem q100 : (100 : Int32) = nI 100 := rfl
theorem q150 : (150 : Int32) = nI 150 := rfl
theorem q180 : (180 : Int32) = nI 180 := rfl
theorem q181 : (181 : Int32) = nI 181 := rfl
theorem q200 : (200 : Int32) = nI 200 := rfl
theorem q300 : (300 : Int32) = nI 300 := rfl
theorem q500 : (500 : Int32) = nI 500 := rfl
theorem q512 : (512 : Int32) = nI 512 := rfl
theorem q600 : (600 : Int32) = nI 600 := rfl
theorem q900 : (900 : Int32) = nI 900 := rfl
theorem q901 : (901 : Int32) = nI 901 := rfl
theorem q1000 : (1000 : Int32) = nI 1000 := rfl
theorem q1200 : (1200 : Int32) = nI 1200 := rfl
theorem q1800 : (1800 : Int32) = nI 1800 := rfl
theorem q3000 : (3000 : Int32) = nI 3000 := rfl
theorem q3600 : (3600 : Int32) = nI 3600 := rfl
theorem q9000 : (9000 : Int32) = nI 9000 := rfl
theorem q65535 : (65535 : Int32) = nI 65535 := rfl
theorem q65536 : (65536 : Int32) = nI 65536 := rfl
theorem vp0 {n : Nat} (h : 0 < n) (hn : n < 2 ^ 31) : vp_in 0 n := vp_in_nI (n := 0) h hn
theorem q_rem {a d : Nat} (ha : a < 2 ^ 31) (h0 : 0 < d) (hd : d < 2 ^ 31) : nI a - nI a / nI d * nI d = nI (a % d) := pk_rem ha h0 hd
theorem q_of {x : Int32} {n : Nat} (h0 : 0 ≤ x) (h : x ≤ nI n) (hn : n < 2 ^ 31) : ∃ j : Nat, j ≤ n ∧ x = nI j := nI_of2 (nI_toInt hn) (Int32.not_lt.mpr h0) h
/-- INSIDE, by numbers -/
def bn (t : Nat → Nat) (f s c i : Nat) : Nat := (t (10 * s + i / 100) + (t (10 * s + i / 100 + 1) - t (10 * s + i / 100)) * (i % 100) / 100) - (t (10 * s + i / 100) + (t (10 * s + i / 100 + 1) - t (10 * s + i / 100)) * (i % 100) / 100) * f * c / 1000
/-- a TABLE as it must be -/
def TV (t : Nat → Nat) : Prop := ∀ s, s < 3 → t (10 * s) = 0 ∧ (∀ k, k < 9 → t (10 * s + k) ≤ t (10 * s + (k + 1))) ∧ ∀ k, k < 10 → t (10 * s + k) ≤ 100 * k
/-- what stands before the fan -/
def bp (t : Nat → Nat) (s i : Nat) : Nat := t (10 * s + i / 100) + (t (10 * s + i / 100 + 1) - t (10 * s + i / 100)) * (i % 100) / 100
theorem bn_eq (t : Nat → Nat) (f s c i : Nat) : bn t f s c i = bp t s i - bp t s i * f * c / 1000 := rfl
theorem mul_div_le' (a b : Nat) (hb : b ≤ 100) : a * b / 100 ≤ a := by
  have : a * b ≤ a * 100 := Nat.mul_le_mul_left a hb
  omega
theorem bp_hi {t : Nat → Nat} (hv : TV t) {s i : Nat} (hs : s < 3) (hi : i < 900) : bp t s i ≤ t (10 * s + i / 100 + 1) := by
  obtain ⟨-, h2, -⟩ := hv s hs
  have h3 := h2 (i / 100) (by omega)
  have h4 := mul_div_le' (t (10 * s + i / 100 + 1) - t (10 * s + i / 100)) (i % 100) (by omega)
  rw [← Nat.add_assoc] at h3
  unfold bp
  omega
theorem bp_le {t : Nat → Nat} (hv : TV t) {s i : Nat} (hs : s < 3) (hi : i ≤ 900) : bp t s i ≤ i := by
  obtain ⟨-, h2, h3⟩ := hv s hs
  by_cases h9 : i < 900
  · have a1 := h2 (i / 100) (by omega)
    have a2 := h3 (i / 100) (by omega)
    have a3 := h3 (i / 100 + 1) (by omega)
    rw [← Nat.add_assoc] at a1 a3
    unfold bp
    generalize t (10 * s + i / 100) = u at *
    generalize t (10 * s + i / 100 + 1) = w at *
    have e : (w - u) * (i % 100) ≤ (100 * (i / 100 + 1) - u) * (i % 100) := Nat.mul_le_mul_right _ (by omega)
    have e2 : (100 * (i / 100 + 1) - u) * (i % 100) = (100 * (i / 100) - u) * (i % 100) + 100 * (i % 100) := by
      rw [← Nat.add_mul]; congr 1; omega
    have e3 : (100 * (i / 100) - u) * (i % 100) ≤ (100 * (i / 100) - u) * 100 := Nat.mul_le_mul_left _ (by omega)
    omega
  · have e9 : i = 900 := by omega
    subst e9
    have a2 := h3 9 (by omega)
    unfold bp
    simp only [show 900 / 100 = 9 from rfl, show 900 % 100 = 0 from rfl, Nat.mul_zero, Nat.zero_div, Nat.add_zero]
    omega
theorem t_mono {t : Nat → Nat} (hv : TV t) {s : Nat} (hs : s < 3) : ∀ {a b : Nat}, a ≤ b → b ≤ 9 → t (10 * s + a) ≤ t (10 * s + b) := by
  intro a b hab hb
  induction b with
  | zero => have : a = 0 := by omega
            subst this; exact Nat.le_refl _
  | succ b ih =>
    by_cases h : a = b + 1
    · subst h; exact Nat.le_refl _
    · exact Nat.le_trans (ih (by omega) (by omega)) ((hv s hs).2.1 b (by omega))
theorem bp_mono {t : Nat → Nat} (hv : TV t) {s i j : Nat} (hs : s < 3) (hij : i ≤ j) (hj : j ≤ 900) : bp t s i ≤ bp t s j := by
  by_cases hk : i / 100 = j / 100
  · unfold bp
    rw [hk]
    have : (t (10 * s + j / 100 + 1) - t (10 * s + j / 100)) * (i % 100) ≤ (t (10 * s + j / 100 + 1) - t (10 * s + j / 100)) * (j % 100) := Nat.mul_le_mul_left _ (by omega)
    have := Nat.div_le_div_right (c := 100) this
    omega
  · have h1 := bp_hi hv (s := s) (i := i) hs (by omega)
    have h2 := t_mono hv hs (a := i / 100 + 1) (b := j / 100) (by omega) (by omega)
    have h3 : t (10 * s + j / 100) ≤ bp t s j := by unfold bp; omega
    rw [← Nat.add_assoc] at h2
    omega
theorem fan_mono {x y F : Nat} (hxy : x ≤ y) (hF : F ≤ 1000) : x - x * F / 1000 ≤ y - y * F / 1000 := by
  obtain ⟨d, rfl⟩ : ∃ d, y = x + d := ⟨y - x, by omega⟩
  have h1 : (x + d) * F = x * F + d * F := Nat.add_mul _ _ _
  have h2 : d * F ≤ d * 1000 := Nat.mul_le_mul_left d hF
  have h3 : x * F ≤ x * 1000 := Nat.mul_le_mul_left x hF
  rw [h1]
  omega
theorem bn_mono {t : Nat → Nat} (hv : TV t) {f s c i j : Nat} (hs : s < 3) (hf : f ≤ 20) (hc : c ≤ 3) (hij : i ≤ j) (hj : j ≤ 900) : bn t f s c i ≤ bn t f s c j := by
  have hF : f * c ≤ 20 * 3 := Nat.mul_le_mul hf hc
  rw [bn_eq, bn_eq, Nat.mul_assoc, Nat.mul_assoc]
  exact fan_mono (bp_mono hv hs hij hj) (by omega)
theorem bn_le {t : Nat → Nat} (hv : TV t) {f s c i : Nat} (hs : s < 3) (hi : i ≤ 900) : bn t f s c i ≤ i := by
  have := bp_le hv (s := s) (i := i) hs hi
  rw [bn_eq]; omega
theorem bn_0 {t : Nat → Nat} (hv : TV t) {f s c : Nat} (hs : s < 3) : bn t f s c 0 = 0 := by
  have := bn_le hv (f := f) (s := s) (c := c) (i := 0) hs (by omega)
  omega
end
section
/-! ===== bending: INSIDE and OUTSIDE, of both ===== -/
/-- the tables and the fan of both hold t and f -/
def BT (h : zH) (t : Nat → Nat) (f : Nat) : Prop := TV t ∧ f ≤ 20 ∧ (∀ j, j < 30 → h.1 2 j = nI (t j)) ∧ h.1 3 0 = nI f
def BM (h : zH) (t : Nat → Nat) (f : Nat) : Prop := TV t ∧ f ≤ 20 ∧ (∀ j, j < 30 → h.1 43 j = nI (t j)) ∧ h.1 42 1 = nI f
theorem bt_val {t : Nat → Nat} (hv : TV t) {f s c i : Nat} (hs : s ≤ 2) (hc : c ≤ 3) (hf : f ≤ 20) (hi : i ≤ 900) : (nI (t (10 * s + i / 100)) + (nI (t (10 * s + i / 100 + 1)) - nI (t (10 * s + i / 100))) * nI (i % 100) / nI 100) - (nI (t (10 * s + i / 100)) + (nI (t (10 * s + i / 100 + 1)) - nI (t (10 * s + i / 100))) * nI (i % 100) / nI 100) * nI f * nI c / nI 1000 = nI (bn t f s c i) ∨ ¬ i < 900 := by
  by_cases h9 : i < 900
  · left
    obtain ⟨-, h2, h3⟩ := hv s (by omega)
    have a1 := h2 (i / 100) (by omega)
    have a3 := h3 (i / 100 + 1) (by omega)
    have a0 := h3 (i / 100) (by omega)
    rw [← Nat.add_assoc] at a1 a3
    have a4 := bp_le hv (s := s) (i := i) (by omega) hi
    rw [bn_eq]
    unfold bp at a4 ⊢
    generalize t (10 * s + i / 100) = u at *
    generalize t (10 * s + i / 100 + 1) = w at *
    have m1 : (w - u) * (i % 100) ≤ 1000 * 100 := Nat.mul_le_mul (by omega) (by omega)
    have m2 : (u + (w - u) * (i % 100) / 100) * f ≤ 900 * 20 := Nat.mul_le_mul (by omega) (by omega)
    have m3 : (u + (w - u) * (i % 100) / 100) * f * c ≤ 18000 * 3 := Nat.mul_le_mul (by omega) (by omega)
    have m4 : (u + (w - u) * (i % 100) / 100) * f * c / 1000 ≤ u + (w - u) * (i % 100) / 100 := by
      have : (u + (w - u) * (i % 100) / 100) * (f * c) ≤ (u + (w - u) * (i % 100) / 100) * 60 := Nat.mul_le_mul_left _ (by have := Nat.mul_le_mul hf hc; omega)
      rw [Nat.mul_assoc]; omega
    rw [pk_sub a1, pk_mul, pk_div (by omega) (by omega) (by omega), nI_add, pk_mul, pk_mul, pk_div (by omega) (by omega) (by omega), pk_sub m4]
  · exact Or.inr h9
theorem bt_val0 {t : Nat → Nat} (hv : TV t) {f s c i : Nat} (hs : s ≤ 2) (hc : c ≤ 3) (hf : f ≤ 20) (hi : i ≤ 900) (h0 : i % 100 = 0) : nI (t (10 * s + i / 100)) - nI (t (10 * s + i / 100)) * nI f * nI c / nI 1000 = nI (bn t f s c i) := by
  obtain ⟨-, -, h3⟩ := hv s (by omega)
  have a0 := h3 (i / 100) (by omega)
  have e : bn t f s c i = t (10 * s + i / 100) - t (10 * s + i / 100) * f * c / 1000 := by
    rw [bn_eq]; unfold bp; rw [h0]; simp
  rw [e]
  generalize t (10 * s + i / 100) = u at *
  have m2 : u * f ≤ 900 * 20 := Nat.mul_le_mul (by omega) (by omega)
  have m3 : u * f * c ≤ 18000 * 3 := Nat.mul_le_mul (by omega) (by omega)
  have m4 : u * f * c / 1000 ≤ u := by
    have : u * (f * c) ≤ u * 60 := Nat.mul_le_mul_left _ (by have := Nat.mul_le_mul hf hc; omega)
    rw [Nat.mul_assoc]; omega
  rw [pk_mul, pk_mul, pk_div (by omega) (by omega) (by omega), pk_sub m4]
theorem ix_c {s i : Nat} (hi : i ≤ 900) : nI s * 10 + nI i / 100 = nI (10 * s + i / 100) := by
  rw [q10, q100, pk_mul, pk_div (by omega) (by omega) (by omega), nI_add, Nat.mul_comm]
theorem ix_m {s i : Nat} (hi : i ≤ 900) : 10 * nI s + nI i / 100 = nI (10 * s + i / 100) := by
  rw [q10, q100, pk_mul, pk_div (by omega) (by omega) (by omega), nI_add]
theorem ix_r {i : Nat} (hi : i ≤ 900) : nI i - nI i / 100 * 100 = nI (i % 100) := by
  rw [q100, q_rem (by omega) (by omega) (by omega)]
theorem c_bent {h : zH} {t : Nat → Nat} {f s c i : Nat} (hb : BT h t f) (hs : s ≤ 2) (hc : c ≤ 3) (hi : i ≤ 900) : R_X6_bent [.ref 1, .int (nI s), .int (nI c), .int (nI i)] h (some (.int (nI (bn t f s c i)))) h := by
  obtain ⟨hv, hf, ht, hfan⟩ := hb
  refine r_X6_bent _ _ _ _ _ _ ⟨_, rfl⟩ (t_X6_bent_0 _ _ _ _ _ ?_)
  rw [ix_c hi, ix_r hi, show (0 : Int32).toNatClampNeg = 0 from rfl, hfan, nI_clamp (by omega), ht _ (by omega)]
  refine ⟨by decide, vp_in_nI (by omega) (by omega), fun h9 => ⟨vp0 (by omega) (by omega), by decide, ?_⟩, fun h9 => ?_⟩
  · rw [q900, nI_leI (by omega) (by omega)] at h9
    exact ⟨by rw [q1000, bt_val0 hv hs hc hf hi (by omega)], rfl⟩
  · rw [q900, nI_leI (by omega) (by omega)] at h9
    rw [nI_1, nI_clamp (by omega), ht _ (by omega)]
    refine ⟨vp_in_nI (by omega) (by omega), by decide, by decide, vp0 (by omega) (by omega), by decide, ?_, rfl⟩
    rw [q1000, q100]
    rcases bt_val hv hs hc hf hi with e | e
    · rw [e]
    · exact absurd (by omega) e
theorem m_bent {h : zH} {t : Nat → Nat} {f s c i : Nat} (hb : BM h t f) (hs : s ≤ 2) (hc : c ≤ 3) (hi : i ≤ 900) : R_X8_bent [.ref 42, .int (nI s), .int (nI c), .int (nI i)] h (some (.int (nI (bn t f s c i)))) h := by
  obtain ⟨hv, hf, ht, hfan⟩ := hb
  refine r_X8_bent _ _ _ _ _ _ ⟨_, rfl⟩ (t_X8_bent_0 _ _ _ _ _ ?_)
  rw [ix_m hi, ix_r hi, hfan, nI_clamp (by omega), ht _ (by omega)]
  refine ⟨by decide, vp_in_nI (by omega) (by omega), by decide, fun h9 => ⟨by decide, ?_⟩, fun h9 => ?_⟩
  · rw [q0, nI_leI (by omega) (by omega)] at h9
    exact ⟨by rw [q1000, bt_val0 hv hs hc hf hi (by omega)], rfl⟩
  · rw [q0, nI_leI (by omega) (by omega)] at h9
    rw [nI_1, nI_clamp (by omega), ht _ (by omega)]
    refine ⟨vp_in_nI (by omega) (by omega), by decide, by decide, by decide, ?_, rfl⟩
    rw [q1000, q100]
    rcases bt_val hv hs hc hf hi with e | e
    · rw [e]
    · exact absurd (by omega) e
/-! OUTSIDE -/
def IsLo (g : Nat → Nat) (r e : Nat) : Prop := e ≤ 901 ∧ (∀ j, j < e → g j < r) ∧ (e ≤ 900 → r ≤ g e)
theorem lo_ex (g : Nat → Nat) (r : Nat) : ∃ e, IsLo g r e := by
  obtain ⟨k, h1, h2⟩ := pk_least (fun e => e = 901 ∨ (e ≤ 900 ∧ r ≤ g e)) ⟨901, Or.inl rfl⟩
  refine ⟨k, by omega, fun j hj => ?_, fun hk => ?_⟩
  · have := h2 j hj
    have hjk : j ≤ 900 := by omega
    exact Nat.not_le.mp (fun q => this (Or.inr ⟨hjk, q⟩))
  · rcases h1 with h | h
    · omega
    · exact h.2
theorem lo_uniq {g : Nat → Nat} {r a b : Nat} (ha : IsLo g r a) (hb : IsLo g r b) : a = b := by
  rcases Nat.lt_trichotomy a b with h | h | h
  · have h1 := hb.2.1 a h
    have h2 := ha.2.2 (by have := hb.1; omega)
    omega
  · exact h
  · have h1 := ha.2.1 b h
    have h2 := hb.2.2 (by have := ha.1; omega)
    omega
noncomputable def lof (g : Nat → Nat) (r : Nat) : Nat := Classical.choose (lo_ex g r)
theorem lof_is (g : Nat → Nat) (r : Nat) : IsLo g r (lof g r) := Classical.choose_spec (lo_ex g r)
def valE (e : Nat) : Int32 := if e ≤ 900 then nI e else -4
theorem nI_half {a : Nat} (ha : a < 2 ^ 31) : nI a / 2 = nI (a / 2) := by rw [q2, pk_div ha (by omega) (by omega)]
theorem c_unbent_loop {h : zH} {t : Nat → Nat} {f s c r : Nat} (hb : BT h t f) (hs : s ≤ 2) (hc : c ≤ 3) (hr : r < 10000) {post : Option Value → zH → Prop} (hp : post (some (.int (valE (lof (bn t f s c) r)))) h) :
    ∀ (k a : Nat), k ≤ 9 → a ≤ lof (bn t f s c) r → lof (bn t f s c) r < a + 2 * 2 ^ k → zG M_X6_unbent post (zat M_X6_unbent 8) [some (.ref 1), some (.int (nI s)), some (.int (nI c)), some (.int (nI r)), some (.int (nI a)), some (.int (nI (2 ^ k))), none] [] h := by
  have he := lof_is (bn t f s c) r
  generalize lof (bn t f s c) r = e at *
  have fin : ∀ {a : Nat}, a = e → zG M_X6_unbent post (zat M_X6_unbent 8) [some (.ref 1), some (.int (nI s)), some (.int (nI c)), some (.int (nI r)), some (.int (nI a)), some (.int (nI 0)), none] [] h := by
    intro a ha
    subst ha
    have hle := he.1
    refine t_X6_unbent_8 _ _ _ _ _ _ _ ⟨fun _ => ⟨fun h9 => ?_, fun h9 => ?_⟩, fun hn => absurd (by decide) hn⟩
    · rw [q900, nI_ltI (by omega) (by omega)] at h9
      rw [valE, if_neg (by omega)] at hp
      exact hp
    · rw [q900, nI_ltI (by omega) (by omega)] at h9
      rw [valE, if_pos (by omega)] at hp
      exact hp
  intro k
  induction k with
  | zero =>
    intro a hk h1 h2
    have hle := he.1
    refine t_X6_unbent_8 _ _ _ _ _ _ _ ⟨fun hz => absurd hz (by decide), fun _ => ?_⟩
    rw [show nI (2 ^ 0) = nI 1 from rfl, nI_add, q901, nI_ltI (by omega) (by omega), show nI 1 / 2 = nI 0 from rfl]
    refine ⟨fun h9 => ⟨by decide, fin (by omega)⟩, fun h9 => ?_⟩
    rw [q1, show nI (a + 1) - nI 1 = nI a from by rw [pk_sub (by omega)]; rfl]
    refine ⟨_, _, c_bent hb hs hc (by omega), fun hx => ⟨by decide, fin ?_⟩, fun hx => ⟨by decide, fin ?_⟩⟩
    · have hbn := bn_le hb.1 (f := f) (s := s) (c := c) (i := a) (by omega) (by omega)
      rw [nI_leI (by omega) (by omega)] at hx
      rcases Nat.lt_or_ge a e with q | q
      · have := he.2.1 a q; omega
      · omega
    · have hbn := bn_le hb.1 (f := f) (s := s) (c := c) (i := a) (by omega) (by omega)
      rw [nI_leI (by omega) (by omega)] at hx
      rcases Nat.lt_or_ge a e with q | q
      · omega
      · have : e = a := by omega
        subst this
        have := he.2.2 (by omega); omega
  | succ k ih =>
    intro a hk h1 h2
    have hle := he.1
    have hpk : 2 ^ (k + 1) = 2 * 2 ^ k := by rw [Nat.pow_succ]; omega
    have hpos : 0 < 2 ^ k := Nat.pow_pos (by omega)
    have hp9 : 2 ^ k ≤ 2 ^ 8 := Nat.pow_le_pow_right (by omega) (by omega)
    refine t_X6_unbent_8 _ _ _ _ _ _ _ ⟨fun hz => ?_, fun _ => ?_⟩
    · rw [q0, nI_leI (by omega) (by omega)] at hz; omega
    rw [nI_add, q901, nI_ltI (by omega) (by omega), nI_half (by omega), show 2 ^ (k + 1) / 2 = 2 ^ k from by omega]
    refine ⟨fun h9 => ⟨by decide, ih a (by omega) (by omega) (by omega)⟩, fun h9 => ?_⟩
    rw [q1, pk_sub (by omega)]
    have hbn := bn_le hb.1 (f := f) (s := s) (c := c) (i := a + 2 ^ (k + 1) - 1) (by omega) (by omega)
    refine ⟨_, _, c_bent hb hs hc (by omega), fun hx => ⟨by decide, ih a (by omega) (by omega) ?_⟩, fun hx => ⟨by decide, ih (a + 2 ^ (k + 1)) (by omega) ?_ (by omega)⟩⟩
    · rw [nI_leI (by omega) (by omega)] at hx
      rcases Nat.lt_or_ge (a + 2 ^ (k + 1) - 1) e with q | q
      · have := he.2.1 _ q; omega
      · omega
    · rw [nI_leI (by omega) (by omega)] at hx
      rcases Nat.lt_or_ge (a + 2 ^ (k + 1) - 1) e with q | q
      · omega
      · have h3 := he.2.2 (by omega)
        have h4 := bn_mono hb.1 (f := f) (s := s) (c := c) (i := e) (j := a + 2 ^ (k + 1) - 1) (by omega) hb.2.1 hc q (by omega)
        omega
theorem c_unbent {h : zH} {t : Nat → Nat} {f s c r : Nat} (hb : BT h t f) (hs : s ≤ 2) (hc : c ≤ 3) (hr : r < 10000) : R_X6_unbent [.ref 1, .int (nI s), .int (nI c), .int (nI r)] h (some (.int (valE (lof (bn t f s c) r)))) h := by
  refine r_X6_unbent _ _ _ _ _ _ ⟨_, rfl⟩ (t_X6_unbent_0 _ _ _ _ _ ?_)
  exact c_unbent_loop hb hs hc hr ⟨rfl, rfl⟩ 9 0 (by omega) (by omega) (by have := (lof_is (bn t f s c) r).1; omega)
theorem m_least_loop {h : zH} {t : Nat → Nat} {f s c r : Nat} (hb : BM h t f) (hs : s ≤ 2) (hc : c ≤ 3) (hr : r < 10000) {post : Option Value → zH → Prop} (he9 : lof (bn t f s c) r ≤ 900) (hp : post (some (.int (nI (lof (bn t f s c) r)))) h) :
    ∀ (n a b : Nat), b - a ≤ n → a ≤ lof (bn t f s c) r → lof (bn t f s c) r ≤ b → b ≤ 900 → zG M_X8_least post (zat M_X8_least 24) [some (.ref 42), some (.int (nI s)), some (.int (nI c)), some (.int (nI r)), some (.int (nI a)), some (.int (nI b)), none] [] h := by
  have he := lof_is (bn t f s c) r
  generalize lof (bn t f s c) r = e at *
  intro n
  induction n with
  | zero =>
    intro a b hn h1 h2 h3
    refine t_X8_least_24 _ _ _ _ _ _ _ ⟨fun _ => ?_, fun hx => absurd (nI_le (by omega) (by omega)) hx⟩
    have : a = e := by omega
    subst this
    exact hp
  | succ n ih =>
    intro a b hn h1 h2 h3
    refine t_X8_least_24 _ _ _ _ _ _ _ ⟨fun hx => ?_, fun hx => ?_⟩
    · rw [nI_leI (by omega) (by omega)] at hx
      have : a = e := by omega
      subst this
      exact hp
    · rw [nI_leI (by omega) (by omega)] at hx
      rw [nI_add, nI_half (by omega), nI_1]
      have hbn := bn_le hb.1 (f := f) (s := s) (c := c) (i := (a + b) / 2) (by omega) (by omega)
      refine ⟨by decide, _, _, m_bent hb hs hc (by omega), fun hy => ih _ _ (by omega) ?_ h2 h3, fun hy => ih _ _ (by omega) h1 ?_ (by omega)⟩
      · rw [nI_ltI (by omega) (by omega)] at hy
        rcases Nat.lt_or_ge ((a + b) / 2) e with q | q
        · omega
        · have h5 := he.2.2 (by omega)
          have h4 := bn_mono hb.1 (f := f) (s := s) (c := c) (i := e) (j := (a + b) / 2) (by omega) hb.2.1 hc q (by omega)
          omega
      · rw [nI_ltI (by omega) (by omega)] at hy
        rcases Nat.lt_or_ge ((a + b) / 2) e with q | q
        · have := he.2.1 _ q; omega
        · exact q
theorem m_least {h : zH} {t : Nat → Nat} {f s c r : Nat} (hb : BM h t f) (hs : s ≤ 2) (hc : c ≤ 3) (hr : r < 10000) : R_X8_least [.ref 42, .int (nI s), .int (nI c), .int (nI r)] h (some (.int (valE (lof (bn t f s c) r)))) h := by
  refine r_X8_least _ _ _ _ _ _ ⟨_, rfl⟩ (t_X8_least_0 _ _ _ _ _ ?_)
  have he := lof_is (bn t f s c) r
  have hbn := bn_le hb.1 (f := f) (s := s) (c := c) (i := 900) (by omega) (by omega)
  refine ⟨_, _, m_bent hb hs hc (i := 900) (by omega), fun hx => ?_, fun hx => ?_⟩
  · rw [nI_leI (by omega) (by omega)] at hx
    have h9 : lof (bn t f s c) r ≤ 900 := by
      rcases Nat.lt_or_ge 900 (lof (bn t f s c) r) with q | q
      · have := he.2.1 _ q; omega
      · exact q
    have e : valE (lof (bn t f s c) r) = nI (lof (bn t f s c) r) := by rw [valE, if_pos h9]
    exact m_least_loop hb hs hc hr h9 ⟨by rw [e], rfl⟩ 900 0 900 (by omega) (by omega) h9 (by omega)
  · rw [nI_leI (by omega) (by omega)] at hx
    have h9 : ¬ lof (bn t f s c) r ≤ 900 := by
      intro q
      have h5 := he.2.2 q
      have h4 := bn_mono hb.1 (f := f) (s := s) (c := c) (i := lof (bn t f s c) r) (j := 900) (by omega) hb.2.1 hc q (by omega)
      omega
    exact ⟨by rw [valE, if_neg h9], rfl⟩
end
section
/-! ===== guards ===== -/
theorem c_in_t {x a b : Int32} {h : zH} (h1 : a ≤ x) (h2 : x ≤ b) : R_X7_within [.int x, .int a, .int b] h (some (.int 1)) h := by
  refine r_X7_within _ _ _ _ _ _ (Or.inr rfl) (t_X7_within_0 _ _ _ _ _ ⟨fun z => absurd h1 (Int32.not_le.mpr z), fun _ => ⟨fun z => absurd h2 (Int32.not_le.mpr z), fun _ => ⟨rfl, rfl⟩⟩⟩)
theorem c_in_f {x a b : Int32} {h : zH} (hn : ¬ (a ≤ x ∧ x ≤ b)) : R_X7_within [.int x, .int a, .int b] h (some (.int 0)) h := by
  refine r_X7_within _ _ _ _ _ _ (Or.inl rfl) (t_X7_within_0 _ _ _ _ _ ⟨fun z => ⟨rfl, rfl⟩, fun z => ⟨fun z2 => ⟨rfl, rfl⟩, fun z2 => absurd ⟨Int32.not_lt.mp z, Int32.not_lt.mp z2⟩ hn⟩⟩)
theorem m_in_t {x a b : Int32} {h : zH} (h1 : a ≤ x) (h2 : x ≤ b) : R_X8_in [.int x, .int a, .int b] h (some (.int 1)) h := by
  refine r_X8_in _ _ _ _ _ _ (Or.inr rfl) (t_X8_in_0 _ _ _ _ _ ⟨fun z => absurd h1 (Int32.not_le.mpr z), fun _ => ⟨fun z => absurd h2 (Int32.not_le.mpr z), fun _ => ⟨rfl, rfl⟩⟩⟩)
theorem m_in_f {x a b : Int32} {h : zH} (hn : ¬ (a ≤ x ∧ x ≤ b)) : R_X8_in [.int x, .int a, .int b] h (some (.int 0)) h := by
  refine r_X8_in _ _ _ _ _ _ (Or.inl rfl) (t_X8_in_0 _ _ _ _ _ ⟨fun z => ⟨rfl, rfl⟩, fun z => ⟨fun z2 => ⟨rfl, rfl⟩, fun z2 => absurd ⟨Int32.not_lt.mp z, Int32.not_lt.mp z2⟩ hn⟩⟩)
theorem c_isRight_t {x : Int32} {h : zH} (h1 : (0) ≤ x) (h2 : x ≤ 900) : R_X7_isRight [.int x] h (some (.int 1)) h := r_X7_isRight _ _ _ _ (Or.inr rfl) (t_X7_isRight_0 _ _ _ ⟨_, _, c_in_t h1 h2, rfl, rfl⟩)
theorem c_isRight_f {x : Int32} {h : zH} (hn : ¬ ((0) ≤ x ∧ x ≤ 900)) : R_X7_isRight [.int x] h (some (.int 0)) h := r_X7_isRight _ _ _ _ (Or.inl rfl) (t_X7_isRight_0 _ _ _ ⟨_, _, c_in_f hn, rfl, rfl⟩)
theorem c_isColour_t {x : Int32} {h : zH} (h1 : (0) ≤ x) (h2 : x ≤ 3) : R_X7_isColour [.int x] h (some (.int 1)) h := r_X7_isColour _ _ _ _ (Or.inr rfl) (t_X7_isColour_0 _ _ _ ⟨_, _, c_in_t h1 h2, rfl, rfl⟩)
theorem c_isColour_f {x : Int32} {h : zH} (hn : ¬ ((0) ≤ x ∧ x ≤ 3)) : R_X7_isColour [.int x] h (some (.int 0)) h := r_X7_isColour _ _ _ _ (Or.inl rfl) (t_X7_isColour_0 _ _ _ ⟨_, _, c_in_f hn, rfl, rfl⟩)
theorem c_isMirrors_t {x : Int32} {h : zH} (h1 : (0) ≤ x) (h2 : x ≤ 5) : R_X7_isMirrors [.int x] h (some (.int 1)) h := r_X7_isMirrors _ _ _ _ (Or.inr rfl) (t_X7_isMirrors_0 _ _ _ ⟨_, _, c_in_t h1 h2, rfl, rfl⟩)
theorem c_isMirrors_f {x : Int32} {h : zH} (hn : ¬ ((0) ≤ x ∧ x ≤ 5)) : R_X7_isMirrors [.int x] h (some (.int 0)) h := r_X7_isMirrors _ _ _ _ (Or.inl rfl) (t_X7_isMirrors_0 _ _ _ ⟨_, _, c_in_f hn, rfl, rfl⟩)
theorem c_isCause_t {x : Int32} {h : zH} (h1 : (0) ≤ x) (h2 : x ≤ 15) : R_X7_isCause [.int x] h (some (.int 1)) h := r_X7_isCause _ _ _ _ (Or.inr rfl) (t_X7_isCause_0 _ _ _ ⟨_, _, c_in_t h1 h2, rfl, rfl⟩)
theorem c_isCause_f {x : Int32} {h : zH} (hn : ¬ ((0) ≤ x ∧ x ≤ 15)) : R_X7_isCause [.int x] h (some (.int 0)) h := r_X7_isCause _ _ _ _ (Or.inl rfl) (t_X7_isCause_0 _ _ _ ⟨_, _, c_in_f hn, rfl, rfl⟩)
theorem c_isSet_t {x : Int32} {h : zH} (h1 : (0) ≤ x) (h2 : x ≤ 65535) : R_X7_isSet [.int x] h (some (.int 1)) h := r_X7_isSet _ _ _ _ (Or.inr rfl) (t_X7_isSet_0 _ _ _ ⟨_, _, c_in_t h1 h2, rfl, rfl⟩)
theorem c_isSet_f {x : Int32} {h : zH} (hn : ¬ ((0) ≤ x ∧ x ≤ 65535)) : R_X7_isSet [.int x] h (some (.int 0)) h := r_X7_isSet _ _ _ _ (Or.inl rfl) (t_X7_isSet_0 _ _ _ ⟨_, _, c_in_f hn, rfl, rfl⟩)
theorem c_isCold_t {x : Int32} {h : zH} (h1 : (-60) ≤ x) (h2 : x ≤ 40) : R_X7_isCold [.int x] h (some (.int 1)) h := r_X7_isCold _ _ _ _ (Or.inr rfl) (t_X7_isCold_0 _ _ _ ⟨_, _, c_in_t h1 h2, rfl, rfl⟩)
theorem c_isCold_f {x : Int32} {h : zH} (hn : ¬ ((-60) ≤ x ∧ x ≤ 40)) : R_X7_isCold [.int x] h (some (.int 0)) h := r_X7_isCold _ _ _ _ (Or.inl rfl) (t_X7_isCold_0 _ _ _ ⟨_, _, c_in_f hn, rfl, rfl⟩)
theorem gd {x a b : Int32} {h : zH} {F T : zH → Prop} (hf : ¬ (a ≤ x ∧ x ≤ b) → F h) (ht : a ≤ x → x ≤ b → T h) : ∃ (v : Int32) (h1 : zH), R_X7_within [.int x, .int a, .int b] h (some (.int v)) h1 ∧ (v = 0 → F h1) ∧ (¬ (v = 0) → T h1) := by
  by_cases hc : a ≤ x ∧ x ≤ b
  · exact ⟨1, h, c_in_t hc.1 hc.2, fun z => absurd z (by decide), fun _ => ht hc.1 hc.2⟩
  · exact ⟨0, h, c_in_f hc, fun _ => hf hc, fun z => absurd rfl z⟩
theorem gd' {x a b : Int32} {h : zH} {F T : zH → Prop} (ht : a ≤ x → x ≤ b → T h) (hf : ¬ (a ≤ x ∧ x ≤ b) → F h) : ∃ (v : Int32) (h1 : zH), R_X7_within [.int x, .int a, .int b] h (some (.int v)) h1 ∧ (¬ v = 0 → T h1) ∧ (¬ ¬ v = 0 → F h1) := by
  by_cases hc : a ≤ x ∧ x ≤ b
  · exact ⟨1, h, c_in_t hc.1 hc.2, fun _ => ht hc.1 hc.2, fun z => absurd (by decide) z⟩
  · exact ⟨0, h, c_in_f hc, fun z => absurd rfl z, fun _ => hf hc⟩
theorem ge {x a b : Int32} {h : zH} {F T : zH → Prop} (hf : ¬ (a ≤ x ∧ x ≤ b) → F h) (ht : a ≤ x → x ≤ b → T h) : ∃ (v : Int32) (h1 : zH), R_X8_in [.int x, .int a, .int b] h (some (.int v)) h1 ∧ (v = 0 → F h1) ∧ (¬ (v = 0) → T h1) := by
  by_cases hc : a ≤ x ∧ x ≤ b
  · exact ⟨1, h, m_in_t hc.1 hc.2, fun z => absurd z (by decide), fun _ => ht hc.1 hc.2⟩
  · exact ⟨0, h, m_in_f hc, fun _ => hf hc, fun z => absurd rfl z⟩
theorem ge' {x a b : Int32} {h : zH} {F T : zH → Prop} (ht : a ≤ x → x ≤ b → T h) (hf : ¬ (a ≤ x ∧ x ≤ b) → F h) : ∃ (v : Int32) (h1 : zH), R_X8_in [.int x, .int a, .int b] h (some (.int v)) h1 ∧ (¬ v = 0 → T h1) ∧ (¬ ¬ v = 0 → F h1) := by
  by_cases hc : a ≤ x ∧ x ≤ b
  · exact ⟨1, h, m_in_t hc.1 hc.2, fun _ => ht hc.1 hc.2, fun z => absurd (by decide) z⟩
  · exact ⟨0, h, m_in_f hc, fun z => absurd rfl z, fun _ => hf hc⟩
theorem gd_isRight {x : Int32} {h : zH} {F T : zH → Prop} (hf : ¬ ((0) ≤ x ∧ x ≤ 900) → F h) (ht : (0) ≤ x → x ≤ 900 → T h) : ∃ (v : Int32) (h1 : zH), R_X7_isRight [.int x] h (some (.int v)) h1 ∧ (v = 0 → F h1) ∧ (¬ (v = 0) → T h1) := by
  by_cases hc : (0) ≤ x ∧ x ≤ 900
  · exact ⟨1, h, c_isRight_t hc.1 hc.2, fun z => absurd z (by decide), fun _ => ht hc.1 hc.2⟩
  · exact ⟨0, h, c_isRight_f hc, fun _ => hf hc, fun z => absurd rfl z⟩
theorem gd_isRight' {x : Int32} {h : zH} {F T : zH → Prop} (ht : (0) ≤ x → x ≤ 900 → T h) (hf : ¬ ((0) ≤ x ∧ x ≤ 900) → F h) : ∃ (v : Int32) (h1 : zH), R_X7_isRight [.int x] h (some (.int v)) h1 ∧ (¬ v = 0 → T h1) ∧ (¬ ¬ v = 0 → F h1) := by
  by_cases hc : (0) ≤ x ∧ x ≤ 900
  · exact ⟨1, h, c_isRight_t hc.1 hc.2, fun _ => ht hc.1 hc.2, fun z => absurd (by decide) z⟩
  · exact ⟨0, h, c_isRight_f hc, fun z => absurd rfl z, fun _ => hf hc⟩
theorem gd_isColour {x : Int32} {h : zH} {F T : zH → Prop} (hf : ¬ ((0) ≤ x ∧ x ≤ 3) → F h) (ht : (0) ≤ x → x ≤ 3 → T h) : ∃ (v : Int32) (h1 : zH), R_X7_isColour [.int x] h (some (.int v)) h1 ∧ (v = 0 → F h1) ∧ (¬ (v = 0) → T h1) := by
  by_cases hc : (0) ≤ x ∧ x ≤ 3
  · exact ⟨1, h, c_isColour_t hc.1 hc.2, fun z => absurd z (by decide), fun _ => ht hc.1 hc.2⟩
  · exact ⟨0, h, c_isColour_f hc, fun _ => hf hc, fun z => absurd rfl z⟩
theorem gd_isColour' {x : Int32} {h : zH} {F T : zH → Prop} (ht : (0) ≤ x → x ≤ 3 → T h) (hf : ¬ ((0) ≤ x ∧ x ≤ 3) → F h) : ∃ (v : Int32) (h1 : zH), R_X7_isColour [.int x] h (some (.int v)) h1 ∧ (¬ v = 0 → T h1) ∧ (¬ ¬ v = 0 → F h1) := by
  by_cases hc : (0) ≤ x ∧ x ≤ 3
  · exact ⟨1, h, c_isColour_t hc.1 hc.2, fun _ => ht hc.1 hc.2, fun z => absurd (by decide) z⟩
  · exact ⟨0, h, c_isColour_f hc, fun z => absurd rfl z, fun _ => hf hc⟩
theorem gd_isMirrors {x : Int32} {h : zH} {F T : zH → Prop} (hf : ¬ ((0) ≤ x ∧ x ≤ 5) → F h) (ht : (0) ≤ x → x ≤ 5 → T h) : ∃ (v : Int32) (h1 : zH), R_X7_isMirrors [.int x] h (some (.int v)) h1 ∧ (v = 0 → F h1) ∧ (¬ (v = 0) → T h1) := by
  by_cases hc : (0) ≤ x ∧ x ≤ 5
  · exact ⟨1, h, c_isMirrors_t hc.1 hc.2, fun z => absurd z (by decide), fun _ => ht hc.1 hc.2⟩
  · exact ⟨0, h, c_isMirrors_f hc, fun _ => hf hc, fun z => absurd rfl z⟩
theorem gd_isMirrors' {x : Int32} {h : zH} {F T : zH → Prop} (ht : (0) ≤ x → x ≤ 5 → T h) (hf : ¬ ((0) ≤ x ∧ x ≤ 5) → F h) : ∃ (v : Int32) (h1 : zH), R_X7_isMirrors [.int x] h (some (.int v)) h1 ∧ (¬ v = 0 → T h1) ∧ (¬ ¬ v = 0 → F h1) := by
  by_cases hc : (0) ≤ x ∧ x ≤ 5
  · exact ⟨1, h, c_isMirrors_t hc.1 hc.2, fun _ => ht hc.1 hc.2, fun z => absurd (by decide) z⟩
  · exact ⟨0, h, c_isMirrors_f hc, fun z => absurd rfl z, fun _ => hf hc⟩
theorem gd_isCause {x : Int32} {h : zH} {F T : zH → Prop} (hf : ¬ ((0) ≤ x ∧ x ≤ 15) → F h) (ht : (0) ≤ x → x ≤ 15 → T h) : ∃ (v : Int32) (h1 : zH), R_X7_isCause [.int x] h (some (.int v)) h1 ∧ (v = 0 → F h1) ∧ (¬ (v = 0) → T h1) := by
  by_cases hc : (0) ≤ x ∧ x ≤ 15
  · exact ⟨1, h, c_isCause_t hc.1 hc.2, fun z => absurd z (by decide), fun _ => ht hc.1 hc.2⟩
  · exact ⟨0, h, c_isCause_f hc, fun _ => hf hc, fun z => absurd rfl z⟩
theorem gd_isCause' {x : Int32} {h : zH} {F T : zH → Prop} (ht : (0) ≤ x → x ≤ 15 → T h) (hf : ¬ ((0) ≤ x ∧ x ≤ 15) → F h) : ∃ (v : Int32) (h1 : zH), R_X7_isCause [.int x] h (some (.int v)) h1 ∧ (¬ v = 0 → T h1) ∧ (¬ ¬ v = 0 → F h1) := by
  by_cases hc : (0) ≤ x ∧ x ≤ 15
  · exact ⟨1, h, c_isCause_t hc.1 hc.2, fun _ => ht hc.1 hc.2, fun z => absurd (by decide) z⟩
  · exact ⟨0, h, c_isCause_f hc, fun z => absurd rfl z, fun _ => hf hc⟩
theorem gd_isSet {x : Int32} {h : zH} {F T : zH → Prop} (hf : ¬ ((0) ≤ x ∧ x ≤ 65535) → F h) (ht : (0) ≤ x → x ≤ 65535 → T h) : ∃ (v : Int32) (h1 : zH), R_X7_isSet [.int x] h (some (.int v)) h1 ∧ (v = 0 → F h1) ∧ (¬ (v = 0) → T h1) := by
  by_cases hc : (0) ≤ x ∧ x ≤ 65535
  · exact ⟨1, h, c_isSet_t hc.1 hc.2, fun z => absurd z (by decide), fun _ => ht hc.1 hc.2⟩
  · exact ⟨0, h, c_isSet_f hc, fun _ => hf hc, fun z => absurd rfl z⟩
theorem gd_isSet' {x : Int32} {h : zH} {F T : zH → Prop} (ht : (0) ≤ x → x ≤ 65535 → T h) (hf : ¬ ((0) ≤ x ∧ x ≤ 65535) → F h) : ∃ (v : Int32) (h1 : zH), R_X7_isSet [.int x] h (some (.int v)) h1 ∧ (¬ v = 0 → T h1) ∧ (¬ ¬ v = 0 → F h1) := by
  by_cases hc : (0) ≤ x ∧ x ≤ 65535
  · exact ⟨1, h, c_isSet_t hc.1 hc.2, fun _ => ht hc.1 hc.2, fun z => absurd (by decide) z⟩
  · exact ⟨0, h, c_isSet_f hc, fun z => absurd rfl z, fun _ => hf hc⟩
theorem gd_isCold {x : Int32} {h : zH} {F T : zH → Prop} (hf : ¬ ((-60) ≤ x ∧ x ≤ 40) → F h) (ht : (-60) ≤ x → x ≤ 40 → T h) : ∃ (v : Int32) (h1 : zH), R_X7_isCold [.int x] h (some (.int v)) h1 ∧ (v = 0 → F h1) ∧ (¬ (v = 0) → T h1) := by
  by_cases hc : (-60) ≤ x ∧ x ≤ 40
  · exact ⟨1, h, c_isCold_t hc.1 hc.2, fun z => absurd z (by decide), fun _ => ht hc.1 hc.2⟩
  · exact ⟨0, h, c_isCold_f hc, fun _ => hf hc, fun z => absurd rfl z⟩
theorem gd_isCold' {x : Int32} {h : zH} {F T : zH → Prop} (ht : (-60) ≤ x → x ≤ 40 → T h) (hf : ¬ ((-60) ≤ x ∧ x ≤ 40) → F h) : ∃ (v : Int32) (h1 : zH), R_X7_isCold [.int x] h (some (.int v)) h1 ∧ (¬ v = 0 → T h1) ∧ (¬ ¬ v = 0 → F h1) := by
  by_cases hc : (-60) ≤ x ∧ x ≤ 40
  · exact ⟨1, h, c_isCold_t hc.1 hc.2, fun _ => ht hc.1 hc.2, fun z => absurd (by decide) z⟩
  · exact ⟨0, h, c_isCold_f hc, fun z => absurd rfl z, fun _ => hf hc⟩
theorem m_isAsked_t {x y : Int32} {h : zH} (h1 : 0 ≤ x ∧ x ≤ 65535) (h2 : 0 ≤ y ∧ y ≤ 900) : R_X8_isAsked [.int x, .int y] h (some (.int 1)) h := by
  refine r_X8_isAsked _ _ _ _ _ (Or.inr rfl) (t_X8_isAsked_0 _ _ _ _ (ge (fun n => absurd h1 n) (fun _ _ => ge (fun n => absurd h2 n) (fun _ _ => ⟨rfl, rfl⟩))))
theorem m_isAsked_f {x y : Int32} {h : zH} (hn : ¬ ((0 ≤ x ∧ x ≤ 65535) ∧ (0 ≤ y ∧ y ≤ 900))) : R_X8_isAsked [.int x, .int y] h (some (.int 0)) h := by
  refine r_X8_isAsked _ _ _ _ _ (Or.inl rfl) (t_X8_isAsked_0 _ _ _ _ (ge (fun _ => ⟨rfl, rfl⟩) (fun a b => ge (fun _ => ⟨rfl, rfl⟩) (fun c d => absurd ⟨⟨a, b⟩, c, d⟩ hn))))
theorem ge_isAsked {x y : Int32} {h : zH} {F T : zH → Prop} (hf : ¬ ((0 ≤ x ∧ x ≤ 65535) ∧ (0 ≤ y ∧ y ≤ 900)) → F h) (ht : (0 ≤ x ∧ x ≤ 65535) → (0 ≤ y ∧ y ≤ 900) → T h) : ∃ (v : Int32) (h1 : zH), R_X8_isAsked [.int x, .int y] h (some (.int v)) h1 ∧ (v = 0 → F h1) ∧ (¬ (v = 0) → T h1) := by
  by_cases hc : (0 ≤ x ∧ x ≤ 65535) ∧ (0 ≤ y ∧ y ≤ 900)
  · exact ⟨1, h, m_isAsked_t hc.1 hc.2, fun z => absurd z (by decide), fun _ => ht hc.1 hc.2⟩
  · exact ⟨0, h, m_isAsked_f hc, fun _ => hf hc, fun z => absurd rfl z⟩
theorem ge_isAsked' {x y : Int32} {h : zH} {F T : zH → Prop} (ht : (0 ≤ x ∧ x ≤ 65535) → (0 ≤ y ∧ y ≤ 900) → T h) (hf : ¬ ((0 ≤ x ∧ x ≤ 65535) ∧ (0 ≤ y ∧ y ≤ 900)) → F h) : ∃ (v : Int32) (h1 : zH), R_X8_isAsked [.int x, .int y] h (some (.int v)) h1 ∧ (¬ v = 0 → T h1) ∧ (¬ ¬ v = 0 → F h1) := by
  by_cases hc : (0 ≤ x ∧ x ≤ 65535) ∧ (0 ≤ y ∧ y ≤ 900)
  · exact ⟨1, h, m_isAsked_t hc.1 hc.2, fun _ => ht hc.1 hc.2, fun z => absurd (by decide) z⟩
  · exact ⟨0, h, m_isAsked_f hc, fun z => absurd rfl z, fun _ => hf hc⟩
end
section
/-! ===== wedges: how a ray is turned, rings; of both ===== -/
def oV (o : Option Nat) : Int32 := match o with
  | none => -10000
  | some d => nI d
noncomputable def turnO (g : Nat → Nat) (w i : Nat) : Option Nat := if g i ≤ w then (if lof g (w - g i) ≤ 900 then some (i + lof g (w - g i) - w) else none) else none
def mnO (a b : Option Nat) : Option Nat := match a, b with
  | a, none => a
  | none, some b => some b
  | some a, some b => some (if a ≤ b then a else b)
noncomputable def rgO (g : Nat → Nat) (w : Nat) : Nat → Option Nat
  | 0 => none
  | n + 1 => mnO (rgO g w n) (turnO g w n)
/-- what bending is like -/
def GV (g : Nat → Nat) : Prop := (∀ i, i ≤ 900 → g i ≤ i) ∧ ∀ i j, i ≤ j → j ≤ 900 → g i ≤ g j
theorem gv_bn {t : Nat → Nat} (hv : TV t) {f s c : Nat} (hs : s ≤ 2) (hf : f ≤ 20) (hc : c ≤ 3) : GV (bn t f s c) := ⟨fun _ hi => bn_le hv (by omega) hi, fun _ _ hij hj => bn_mono hv (by omega) hf hc hij hj⟩
theorem turnO_ge {g : Nat → Nat} (hg : GV g) {w i : Nat} (hi : i ≤ 900) (h1 : g i ≤ w) (h2 : lof g (w - g i) ≤ 900) : w ≤ i + lof g (w - g i) := by
  have he := lof_is g (w - g i)
  have a := he.2.2 h2
  have b := hg.1 _ h2
  have c := hg.1 _ hi
  omega
theorem turnO_bd {g : Nat → Nat} {w i : Nat} (hi : i ≤ 900) {d : Nat} (h : turnO g w i = some d) : d ≤ 1800 - w := by
  unfold turnO at h
  split at h
  · split at h
    · cases h; omega
    · cases h
  · cases h
theorem rgO_bd {g : Nat → Nat} {w : Nat} : ∀ {n : Nat}, n ≤ 901 → ∀ {d : Nat}, rgO g w n = some d → d ≤ 1800 - w
  | 0, _, d, h => by cases h
  | n + 1, hn, d, h => by
    unfold rgO at h
    cases h1 : rgO g w n with
    | none =>
      rw [h1] at h
      cases h2 : turnO g w n with
      | none => rw [h2] at h; cases h
      | some b => rw [h2] at h; simp only [mnO, Option.some.injEq] at h; subst h; exact turnO_bd (by omega) h2
    | some a =>
      have ha := rgO_bd (n := n) (by omega) h1
      rw [h1] at h
      cases h2 : turnO g w n with
      | none => rw [h2] at h; simp only [mnO, Option.some.injEq] at h; omega
      | some b =>
        have hb := turnO_bd (by omega) h2
        rw [h2] at h
        simp only [mnO, Option.some.injEq] at h
        split at h <;> omega
theorem rgO_stop {g : Nat → Nat} (hg : GV g) {w i : Nat} (h : w < g i) : ∀ n, i ≤ n → n ≤ 901 → rgO g w n = rgO g w i
  | 0, h1, _ => by have : i = 0 := by omega
                   subst this; rfl
  | n + 1, h1, h2 => by
    by_cases hn : i = n + 1
    · subst hn; rfl
    · have ih := rgO_stop hg h n (by omega) (by omega)
      have := hg.2 i n (by omega) (by omega)
      have e : turnO g w n = none := by unfold turnO; rw [if_neg (by omega)]
      show mnO (rgO g w n) (turnO g w n) = _
      rw [e, ih]
      cases rgO g w i <;> rfl
theorem oV_none {o : Option Nat} {B : Nat} (hB : B ≤ 2000) (h : ∀ d, o = some d → d ≤ B) : oV o = -10000 ↔ o = none := by
  cases o with
  | none => simp [oV]
  | some d =>
    have := h d rfl
    refine ⟨fun z => ?_, fun z => by cases z⟩
    have z2 := congrArg Int32.toInt z
    simp only [oV] at z2
    rw [nI_toInt (by omega)] at z2
    have : (-10000 : Int32).toInt = -10000 := rfl
    omega
theorem lof_anti {g : Nat → Nat} {r r' : Nat} (h : r' ≤ r) : lof g r' ≤ lof g r := by
  have a := lof_is g r
  have b := lof_is g r'
  rcases Nat.lt_or_ge (lof g r) (lof g r') with q | q
  · have h1 := b.2.1 _ q
    have h2 := a.2.2 (by have := b.1; omega)
    omega
  · exact q
/-! turned -/
theorem c_turnOf {h : zH} {t : Nat → Nat} {f w c i : Nat} (hb : BT h t f) (hw : w ≤ 1200) (hc : c ≤ 3) (hi : i ≤ 900) : R_X4_turnOf [.ref 29, .int (nI w), .int (nI c), .int (nI i)] h (some (.int (oV (turnO (bn t f 1 c) w i)))) h := by
  refine r_X4_turnOf _ _ _ _ _ _ ⟨_, rfl⟩ (t_X4_turnOf_0 _ _ _ _ _ ?_)
  have hg := gv_bn hb.1 (f := f) (s := 1) (c := c) (by omega) hb.2.1 hc
  have hgi := hg.1 i hi
  refine ⟨_, _, c_bent hb (s := 1) (by omega) hc hi, fun h0 => ?_, fun h0 => ?_⟩
  · have hle : bn t f 1 c i ≤ w := by
      rcases Nat.lt_or_ge w (bn t f 1 c i) with q | q
      · exact absurd h0 (Int32.not_le.mpr (pk_sneg (by omega) q))
      · exact q
    rw [pk_sub hle]
    refine ⟨_, _, c_unbent hb (s := 1) (by omega) hc (by omega), fun hv => ⟨?_, rfl⟩, fun hv => ⟨?_, rfl⟩⟩
    · have h9 : lof (bn t f 1 c) (w - bn t f 1 c i) ≤ 900 := by
        rcases Nat.lt_or_ge 900 (lof (bn t f 1 c) (w - bn t f 1 c i)) with q | q
        · exact absurd (by rw [valE, if_neg (by omega)]) hv
        · exact q
      rw [valE, if_pos h9, nI_add, pk_sub (turnO_ge hg hi hle h9)]
      simp only [turnO, if_pos hle, if_pos h9, oV]
    · have h9 : ¬ lof (bn t f 1 c) (w - bn t f 1 c i) ≤ 900 := by
        intro q
        refine hv (fun z => ?_)
        rw [valE, if_pos q] at z
        have z2 := congrArg Int32.toInt z
        rw [nI_toInt (by omega)] at z2
        have : (-4 : Int32).toInt = -4 := rfl
        omega
      simp only [turnO, if_pos hle, if_neg h9, oV]
  · have hle : ¬ bn t f 1 c i ≤ w := by
      intro q
      rw [pk_sub q] at h0
      exact h0 (nI_pos' (by omega))
    exact ⟨by simp only [turnO, if_neg hle, oV], rfl⟩
theorem m_turnedBy {h : zH} {t : Nat → Nat} {f w c i : Nat} (hb : BM h t f) (hw : w ≤ 1200) (hc : c ≤ 3) (hi : i ≤ 900) : R_X8_turnedBy [.ref 42, .int (nI w), .int (nI c), .int (nI i)] h (some (.int (oV (turnO (bn t f 1 c) w i)))) h := by
  refine r_X8_turnedBy _ _ _ _ _ _ ⟨_, rfl⟩ (t_X8_turnedBy_0 _ _ _ _ _ ?_)
  have hg := gv_bn hb.1 (f := f) (s := 1) (c := c) (by omega) hb.2.1 hc
  have hgi := hg.1 i hi
  refine ⟨_, _, m_bent hb (s := 1) (by omega) hc hi, fun h0 => ?_, fun h0 => ?_⟩
  · have hle : bn t f 1 c i ≤ w := by
      rcases Nat.lt_or_ge w (bn t f 1 c i) with q | q
      · exact absurd h0 (Int32.not_le.mpr (pk_sneg (by omega) q))
      · exact q
    rw [pk_sub hle]
    refine ⟨_, _, m_least hb (s := 1) (by omega) hc (by omega), fun hv => ⟨?_, rfl⟩, fun hv => ⟨?_, rfl⟩⟩
    · have h9 : lof (bn t f 1 c) (w - bn t f 1 c i) ≤ 900 := by
        rcases Nat.lt_or_ge 900 (lof (bn t f 1 c) (w - bn t f 1 c i)) with q | q
        · exact absurd (by rw [valE, if_neg (by omega)]) hv
        · exact q
      rw [valE, if_pos h9, nI_add, pk_sub (turnO_ge hg hi hle h9)]
      simp only [turnO, if_pos hle, if_pos h9, oV]
    · have h9 : ¬ lof (bn t f 1 c) (w - bn t f 1 c i) ≤ 900 := by
        intro q
        refine hv (fun z => ?_)
        rw [valE, if_pos q] at z
        have z2 := congrArg Int32.toInt z
        rw [nI_toInt (by omega)] at z2
        have : (-4 : Int32).toInt = -4 := rfl
        omega
      simp only [turnO, if_pos hle, if_neg h9, oV]
  · have hle : ¬ bn t f 1 c i ≤ w := by
      intro q
      rw [pk_sub q] at h0
      exact h0 (nI_pos' (by omega))
    exact ⟨fun z => absurd rfl z, fun _ => ⟨by simp only [turnO, if_neg hle, oV], rfl⟩⟩
/-! rings -/
theorem m_ringOf {h : zH} {t : Nat → Nat} {f w c : Nat} (hb : BM h t f) (hw : w ≤ 1200) (hc : c ≤ 3) : R_X8_ringOf [.ref 42, .int (nI w), .int (nI c)] h (some (.int (oV (rgO (bn t f 1 c) w 901)))) h := by
  refine r_X8_ringOf _ _ _ _ _ ⟨_, rfl⟩ (t_X8_ringOf_0 _ _ _ _ ?_)
  have key : ∀ (n i : Nat), i + n = 901 → zG M_X8_ringOf (fun r1 h1 => r1 = some (.int (oV (rgO (bn t f 1 c) w 901))) ∧ h1 = h) (zat M_X8_ringOf 7) [some (.ref 42), some (.int (nI w)), some (.int (nI c)), some (.int (oV (rgO (bn t f 1 c) w i))), some (.int (nI i)), none] [] h := by
    intro n
    induction n with
    | zero =>
      intro i hi
      have : i = 901 := by omega
      subst this
      exact t_X8_ringOf_7 _ _ _ _ _ _ ⟨fun _ => ⟨rfl, rfl⟩, fun z => absurd (by decide) z⟩
    | succ n ih =>
      intro i hi
      refine t_X8_ringOf_7 _ _ _ _ _ _ ⟨fun z => ?_, fun _ => ?_⟩
      · rw [q900, nI_ltI (by omega) (by omega)] at z; omega
      have ih2 := ih (i + 1) (by omega)
      rw [nI_1]
      refine ⟨_, _, m_turnedBy hb hw hc (by omega), ?_⟩
      have e : rgO (bn t f 1 c) w (i + 1) = mnO (rgO (bn t f 1 c) w i) (turnO (bn t f 1 c) w i) := rfl
      have ba : ∀ d, rgO (bn t f 1 c) w i = some d → d ≤ 1800 := fun d h => by have := rgO_bd (by omega) h; omega
      have bb : ∀ d, turnO (bn t f 1 c) w i = some d → d ≤ 1800 := fun d h => by have := turnO_bd (by omega) h; omega
      rw [oV_none (by omega) ba, oV_none (by omega) bb]
      rw [e] at ih2
      cases h1 : rgO (bn t f 1 c) w i with
      | none =>
        rw [h1] at ih2
        cases h2 : turnO (bn t f 1 c) w i with
        | none => rw [h2] at ih2; exact ⟨fun _ => ih2, fun z => absurd rfl z⟩
        | some b => rw [h2] at ih2; exact ⟨fun z => (by cases z), fun _ => ⟨fun _ => ih2, fun z => absurd rfl z⟩⟩
      | some a =>
        rw [h1] at ih2
        have ha := ba a h1
        cases h2 : turnO (bn t f 1 c) w i with
        | none => rw [h2] at ih2; exact ⟨fun _ => ih2, fun z => absurd rfl z⟩
        | some b =>
          have hb2 := bb b h2
          rw [h2] at ih2
          simp only [mnO] at ih2
          refine ⟨fun z => (by cases z), fun _ => ⟨fun z => (by cases z), fun _ => ⟨fun z => ?_, fun z => ?_⟩⟩⟩
          · simp only [oV] at z
            rw [nI_leI (by omega) (by omega)] at z
            rw [if_pos z] at ih2; exact ih2
          · simp only [oV] at z
            rw [nI_leI (by omega) (by omega)] at z
            rw [if_neg z] at ih2; exact ih2
  exact key 901 0 (by omega)
theorem c_leastTurn {h : zH} {t : Nat → Nat} {f w c : Nat} (hb : BT h t f) (hw : w ≤ 1200) (hc : c ≤ 3) : R_X4_leastTurn [.ref 29, .int (nI w), .int (nI c)] h (some (.int (oV (rgO (bn t f 1 c) w 901)))) h := by
  refine r_X4_leastTurn _ _ _ _ _ ⟨_, rfl⟩ (t_X4_leastTurn_0 _ _ _ _ ?_)
  have hg := gv_bn hb.1 (f := f) (s := 1) (c := c) (by omega) hb.2.1 hc
  have ba : ∀ {i : Nat}, i ≤ 901 → ∀ d, rgO (bn t f 1 c) w i = some d → d ≤ 1800 := fun hi d h => by have := rgO_bd hi h; omega
  have key : ∀ (n i ep : Nat), i + n = 901 → ep ≤ 901 → (i ≤ 900 → lof (bn t f 1 c) (w - bn t f 1 c i) ≤ ep) → zG M_X4_leastTurn (fun r1 h1 => r1 = some (.int (oV (rgO (bn t f 1 c) w 901))) ∧ h1 = h) (zat M_X4_leastTurn 12) [some (.ref 29), some (.int (nI w)), some (.int (nI c)), some (.int (oV (rgO (bn t f 1 c) w i))), some (.int (nI ep)), some (.int (nI i)), none] [] h := by
    intro n
    induction n with
    | zero =>
      intro i ep hi hep hlo
      have : i = 901 := by omega
      subst this
      exact t_X4_leastTurn_12 _ _ _ _ _ _ _ ⟨fun _ => ⟨rfl, rfl⟩, fun z => absurd (by decide) z⟩
    | succ n ih =>
      intro i ep hi hep hlo
      have hgi := hg.1 i (by omega)
      refine t_X4_leastTurn_12 _ _ _ _ _ _ _ ⟨fun z => ?_, fun _ => ?_⟩
      · rw [q900, nI_ltI (by omega) (by omega)] at z; omega
      refine ⟨_, _, c_bent hb (s := 1) (by omega) hc (i := i) (by omega), fun h0 => ?_, fun h0 => ?_⟩
      · have hle : bn t f 1 c i ≤ w := by
          rcases Nat.lt_or_ge w (bn t f 1 c i) with q | q
          · exact absurd h0 (Int32.not_le.mpr (pk_sneg (by omega) q))
          · exact q
        rw [pk_sub hle]
        -- behind the inner loop
        have fin : ep ≤ 901 → ∀ e, e = lof (bn t f 1 c) (w - bn t f 1 c i) → (900 < nI e → zG M_X4_leastTurn (fun r1 h1 => r1 = some (.int (oV (rgO (bn t f 1 c) w 901))) ∧ h1 = h) (zat M_X4_leastTurn 12) [some (.ref 29), some (.int (nI w)), some (.int (nI c)), some (.int (oV (rgO (bn t f 1 c) w i))), some (.int (nI e)), some (.int (nI i + 1)), none] [] h) ∧
            (¬ (900 < nI e) → (oV (rgO (bn t f 1 c) w i) = -10000 → zG M_X4_leastTurn (fun r1 h1 => r1 = some (.int (oV (rgO (bn t f 1 c) w 901))) ∧ h1 = h) (zat M_X4_leastTurn 12) [some (.ref 29), some (.int (nI w)), some (.int (nI c)), some (.int ((nI i + nI e) - nI w)), some (.int (nI e)), some (.int (nI i + 1)), none] [] h) ∧
              (¬ (oV (rgO (bn t f 1 c) w i) = -10000) → (oV (rgO (bn t f 1 c) w i) ≤ ((nI i + nI e) - nI w) → zG M_X4_leastTurn (fun r1 h1 => r1 = some (.int (oV (rgO (bn t f 1 c) w 901))) ∧ h1 = h) (zat M_X4_leastTurn 12) [some (.ref 29), some (.int (nI w)), some (.int (nI c)), some (.int (oV (rgO (bn t f 1 c) w i))), some (.int (nI e)), some (.int (nI i + 1)), none] [] h) ∧
                (¬ (oV (rgO (bn t f 1 c) w i) ≤ ((nI i + nI e) - nI w)) → zG M_X4_leastTurn (fun r1 h1 => r1 = some (.int (oV (rgO (bn t f 1 c) w 901))) ∧ h1 = h) (zat M_X4_leastTurn 12) [some (.ref 29), some (.int (nI w)), some (.int (nI c)), some (.int ((nI i + nI e) - nI w)), some (.int (nI e)), some (.int (nI i + 1)), none] [] h))) := by
          intro _ e he
          have hle2 := (lof_is (bn t f 1 c) (w - bn t f 1 c i)).1
          have ih2 := ih (i + 1) e (by omega) (by omega) (fun h9 => by
            rw [he]
            have := hg.2 i (i + 1) (by omega) h9
            exact lof_anti (by omega))
          have er : rgO (bn t f 1 c) w (i + 1) = mnO (rgO (bn t f 1 c) w i) (turnO (bn t f 1 c) w i) := rfl
          rw [er] at ih2
          rw [nI_1, q900, nI_ltI (by omega) (by omega), oV_none (by omega) (ba (by omega))]
          by_cases h9 : e ≤ 900
          · have et : turnO (bn t f 1 c) w i = some (i + e - w) := by
              unfold turnO; rw [if_pos hle, ← he, if_pos h9]
            have hge : w ≤ i + e := by rw [he]; exact turnO_ge hg (by omega) hle (by omega)
            rw [et] at ih2
            rw [nI_add, pk_sub hge]
            refine ⟨fun z => (by omega), fun _ => ?_⟩
            cases h1 : rgO (bn t f 1 c) w i with
            | none => rw [h1] at ih2; exact ⟨fun _ => ih2, fun z => absurd rfl z⟩
            | some a =>
              have ha := ba (by omega) a h1
              rw [h1] at ih2
              simp only [mnO] at ih2
              refine ⟨fun z => (by cases z), fun _ => ⟨fun z => ?_, fun z => ?_⟩⟩
              · simp only [oV] at z
                rw [nI_leI (by omega) (by omega)] at z
                rw [if_pos z] at ih2; exact ih2
              · simp only [oV] at z
                rw [nI_leI (by omega) (by omega)] at z
                rw [if_neg z] at ih2; exact ih2
          · have et : turnO (bn t f 1 c) w i = none := by
              unfold turnO; rw [if_pos hle, ← he, if_neg h9]
            rw [et] at ih2
            refine ⟨fun _ => ?_, fun z => absurd (by omega) z⟩
            cases h1 : rgO (bn t f 1 c) w i with
            | none => rw [h1] at ih2; exact ih2
            | some a => rw [h1] at ih2; exact ih2
        have hlo2 := hlo (by omega)
        have inner : ∀ ep, ep ≤ 901 → lof (bn t f 1 c) (w - bn t f 1 c i) ≤ ep → zG M_X4_leastTurn (fun r1 h1 => r1 = some (.int (oV (rgO (bn t f 1 c) w 901))) ∧ h1 = h) (zat M_X4_leastTurn 43) [some (.ref 29), some (.int (nI w)), some (.int (nI c)), some (.int (oV (rgO (bn t f 1 c) w i))), some (.int (nI ep)), some (.int (nI i)), some (.int (nI (w - bn t f 1 c i)))] [] h := by
          intro ep
          induction ep with
          | zero =>
            intro h1 h2
            refine t_X4_leastTurn_43 _ _ _ _ _ _ _ _ ⟨fun _ => fin hep 0 (by omega), fun z => absurd (by decide) z⟩
          | succ ep ih3 =>
            intro h1 h2
            have hge := hg.1 ep (by omega)
            refine t_X4_leastTurn_43 _ _ _ _ _ _ _ _ ⟨fun z => ?_, fun _ => ?_⟩
            · rw [q0, nI_leI (by omega) (by omega)] at z; omega
            rw [nI_pred, pk_m1]
            have hl := lof_is (bn t f 1 c) (w - bn t f 1 c i)
            refine ⟨_, _, c_bent hb (s := 1) (by omega) hc (i := ep) (by omega), fun z => fin hep (ep + 1) ?_, fun z => ih3 (by omega) ?_⟩
            · rw [nI_ltI (by omega) (by omega)] at z
              rcases Nat.lt_or_ge ep (lof (bn t f 1 c) (w - bn t f 1 c i)) with q | q
              · omega
              · have a1 := hl.2.2 (by omega)
                have a2 := hg.2 _ _ q (by omega)
                omega
            · rw [nI_ltI (by omega) (by omega)] at z
              rcases Nat.lt_or_ge ep (lof (bn t f 1 c) (w - bn t f 1 c i)) with q | q
              · have := hl.2.1 _ q; omega
              · exact q
        exact inner ep hep hlo2
      · have hle : w < bn t f 1 c i := by
          rcases Nat.lt_or_ge w (bn t f 1 c i) with q | q
          · exact q
          · rw [pk_sub q] at h0
            exact absurd (nI_pos' (by omega)) h0
        exact ⟨by rw [rgO_stop hg hle 901 (by omega) (by omega)], rfl⟩
  exact key 901 0 901 (by omega) (by omega) (fun _ => (lof_is _ _).1)
end
section
/-! ===== lights ===== -/
theorem zr_ne {h : zH} {k j a b : Nat} {x : Int32} (hn : a ≠ k) : (zsi h k j x).1 a b = h.1 a b := by simp [zsi, hn]
theorem zr_nj {h : zH} {k j a b : Nat} {x : Int32} (hn : b ≠ j) : (zsi h k j x).1 a b = h.1 a b := by simp [zsi, hn]
theorem zr_eq {h : zH} {k j : Nat} {x : Int32} : (zsi h k j x).1 k j = x := by simp [zsi]
/-- nothing changed but where P says -/
def Fr (P : Nat → Nat → Bool) (h h' : zH) : Prop := ∀ a b, P a b = false → h'.1 a b = h.1 a b
theorem Fr.rf {P : Nat → Nat → Bool} {h : zH} : Fr P h h := fun _ _ _ => rfl
theorem Fr.tr {P : Nat → Nat → Bool} {h h1 h2 : zH} (a : Fr P h h1) (b : Fr P h1 h2) : Fr P h h2 := fun x y hp => (b x y hp).trans (a x y hp)
theorem Fr.wk {P Q : Nat → Nat → Bool} {h h' : zH} (a : Fr P h h') (hq : ∀ x y, Q x y = false → P x y = false) : Fr Q h h' := fun x y hp => a x y (hq x y hp)
theorem Fr.si {P : Nat → Nat → Bool} {h h' : zH} {k j : Nat} {x : Int32} (a : Fr P h h') (hp : P k j = true) : Fr P h (zsi h' k j x) := by
  intro u v hq
  by_cases hk : u = k ∧ v = j
  · obtain ⟨rfl, rfl⟩ := hk
    rw [hp] at hq; cases hq
  · have : (zsi h' k j x).1 u v = h'.1 u v := by simp [zsi, hk]
    rw [this]; exact a u v hq
def sL (a _b : Nat) : Bool := a == 30 || a == 31
def sI (a b : Nat) : Bool := a == 6 || sL a b
def sM (a b : Nat) : Bool := (a == 42 && b == 21) || (a == 57 || (a == 58 || (a == 59 || a == 60)))
theorem sL_I : ∀ x y, sI x y = false → sL x y = false := by intro x y h; simp [sI] at h; exact h.2
abbrev LT : Type := Int32 × Int32 × Int32 × Int32
def HasC (h : zH) (L : List LT) : Prop := h.1 30 1 = nI L.length ∧ ∀ (j : Nat) (q : LT), L[j]? = some q → h.1 31 (4 * j) = q.1 ∧ h.1 31 (4 * j + 1) = q.2.1 ∧ h.1 31 (4 * j + 2) = q.2.2.1 ∧ h.1 31 (4 * j + 3) = q.2.2.2
def HasM (h : zH) (L : List LT) : Prop := h.1 42 21 = nI L.length ∧ ∀ (j : Nat) (q : LT), L[j]? = some q → h.1 57 j = q.1 ∧ h.1 58 j = q.2.1 ∧ h.1 59 j = q.2.2.1 ∧ h.1 60 j = q.2.2.2
theorem ix_4 {n k : Nat} (q : Int32) (hq : q = nI k) : nI n * 4 + q = nI (4 * n + k) := by rw [hq, q4, pk_mul, nI_add, Nat.mul_comm]
theorem c_add {h : zH} {L : List LT} (hL : HasC h L) (hn : L.length < 7) (a b c d : Int32) : ∃ h', R_X5_add [.ref 30, .int a, .int b, .int c, .int d] h none h' ∧ HasC h' (L ++ [(a, b, c, d)]) ∧ Fr sL h h' := by
  obtain ⟨h0, h1⟩ := hL
  refine ⟨zsi (zsi (zsi (zsi (zsi h 31 (4 * L.length + 0) a) 31 (4 * L.length + 1) b) 31 (4 * L.length + 2) c) 31 (4 * L.length + 3) d) 30 1 (nI (L.length + 1)), r_X5_add _ _ _ _ _ _ _ rfl (t_X5_add_0 _ _ _ _ _ _ ⟨fun _ => ?_, fun z => absurd ?_ z⟩), ?_, ?_⟩
  · simp (disch := omega) only [zr_ne, h0]
    rw [ix_4 0 q0, ix_4 1 q1, ix_4 2 q2, ix_4 3 q3, nI_clamp (by omega), nI_clamp (by omega), nI_clamp (by omega), nI_clamp (by omega), nI_1]
    exact ⟨vp_in_nI (by omega) (by omega), vp_in_nI (by omega) (by omega), vp_in_nI (by omega) (by omega), vp_in_nI (by omega) (by omega), trivial, rfl⟩
  · rw [h0, show (7 : Int32) = nI 7 from rfl, nI_ltI (by omega) (by omega)]; exact hn
  · refine ⟨by rw [zr_eq]; simp, fun j q hq => ?_⟩
    by_cases hj : j < L.length
    · rw [List.getElem?_append_left hj] at hq
      simp (disch := omega) only [zr_ne, zr_nj]
      exact h1 j q hq
    · rw [List.getElem?_append_right (by omega)] at hq
      have hj2 : j = L.length := by
        have := (List.getElem?_eq_some_iff.mp hq).1
        simp only [List.length_singleton] at this
        omega
      subst hj2
      rw [Nat.sub_self] at hq
      cases hq
      simp (disch := omega) only [zr_ne, zr_nj, zr_eq, Nat.add_zero, and_self]
  · exact ((((Fr.rf.si rfl).si rfl).si rfl).si rfl).si rfl
theorem m_put {h : zH} {L : List LT} (hL : HasM h L) (hn : L.length < 8) (a b c d : Int32) : ∃ h', R_X8_put [.ref 42, .int a, .int b, .int c, .int d] h none h' ∧ HasM h' (L ++ [(a, b, c, d)]) ∧ Fr sM h h' := by
  obtain ⟨h0, h1⟩ := hL
  refine ⟨zsi (zsi (zsi (zsi (zsi h 57 L.length a) 58 L.length b) 59 L.length c) 60 L.length d) 42 21 (nI (L.length + 1)), r_X8_put _ _ _ _ _ _ _ rfl (t_X8_put_0 _ _ _ _ _ _ ?_), ?_, ?_⟩
  · simp (disch := omega) only [zr_ne, h0]
    rw [nI_clamp (by omega), nI_1]
    exact ⟨vp_in_nI (by omega) (by omega), vp_in_nI (by omega) (by omega), vp_in_nI (by omega) (by omega), vp_in_nI (by omega) (by omega), trivial, rfl⟩
  · refine ⟨by rw [zr_eq]; simp, fun j q hq => ?_⟩
    by_cases hj : j < L.length
    · rw [List.getElem?_append_left hj] at hq
      simp (disch := omega) only [zr_ne, zr_nj]
      exact h1 j q hq
    · rw [List.getElem?_append_right (by omega)] at hq
      have hj2 : j = L.length := by
        have := (List.getElem?_eq_some_iff.mp hq).1
        simp only [List.length_singleton] at this
        omega
      subst hj2
      rw [Nat.sub_self] at hq
      cases hq
      simp (disch := omega) only [zr_ne, zr_nj, zr_eq, and_self]
  · exact ((((Fr.rf.si rfl).si rfl).si rfl).si rfl).si rfl
/-! the lights of a wedge, and those behind them -/
def farV (d hh sk : Int32) : Int32 := d + d * hh / sk
def lgW (lean : Nat) (d hh sk sw : Int32) : List LT := match lean with
  | 0 => [(0, 0, d, d)]
  | 1 => if 600 < hh then [] else if farV d hh sk ≤ 1800 then [(2, 1, farV d hh sk, farV d hh sk)] else []
  | 2 => (if 900 < hh + d then [] else [(1, 2, d, d)]) ++ (if hh < d then [] else [(1, 3, d, d)])
  | _ => if 600 < hh then [] else if farV d hh sk ≤ 1800 then [(2, 1, d, farV d hh sk + sw)] else []
def lgB (lean : Nat) (s n : Bool) : List LT := match lean with
  | 0 => []
  | 1 => if s then [(2, 1, 1200, 1200)] else []
  | 2 => if n then [(2, 1, 1800, 1800)] else []
  | _ => [(3, 1, 0, 1800)]
theorem lgW_len (lean : Nat) (d hh sk sw : Int32) : (lgW lean d hh sk sw).length ≤ 2 := by
  unfold lgW
  split <;> (repeat' split) <;> simp
theorem c_addArcs {h : zH} {L : List LT} (hL : HasC h L) (hn : L.length ≤ 5) (d hh sk sw : Int32) : ∃ h', R_X4_addArcs [.ref 29, .int d, .int hh] h none h' ∧ HasC h' (L ++ lgW 2 d hh sk sw) ∧ Fr sL h h' := by
  simp only [lgW]
  by_cases h1 : 900 < hh + d
  · by_cases h2 : hh < d
    · refine ⟨h, r_X4_addArcs _ _ _ _ _ rfl (t_X4_addArcs_0 _ _ _ _ ⟨fun _ => ⟨fun _ => ⟨rfl, rfl⟩, fun z => absurd h2 z⟩, fun z => absurd h1 z⟩), ?_, Fr.rf⟩
      simpa [h1, h2] using hL
    · obtain ⟨h', r1, r2, r3⟩ := c_add hL (by omega) 1 3 d d
      refine ⟨h', r_X4_addArcs _ _ _ _ _ rfl (t_X4_addArcs_0 _ _ _ _ ⟨fun _ => ⟨fun z => absurd z h2, fun _ => ⟨_, r1, rfl, rfl⟩⟩, fun z => absurd h1 z⟩), ?_, r3⟩
      simpa [h1, h2] using r2
  · obtain ⟨h1', r1, r2, r3⟩ := c_add hL (by omega) 1 2 d d
    by_cases h2 : hh < d
    · refine ⟨h1', r_X4_addArcs _ _ _ _ _ rfl (t_X4_addArcs_0 _ _ _ _ ⟨fun z => absurd z h1, fun _ => ⟨_, r1, fun _ => ⟨rfl, rfl⟩, fun z => absurd h2 z⟩⟩), ?_, r3⟩
      simpa [h1, h2] using r2
    · obtain ⟨h2', u1, u2, u3⟩ := c_add r2 (by simp; omega) 1 3 d d
      refine ⟨h2', r_X4_addArcs _ _ _ _ _ rfl (t_X4_addArcs_0 _ _ _ _ ⟨fun z => absurd z h1, fun _ => ⟨_, r1, fun z => absurd z h2, fun _ => ⟨_, u1, rfl, rfl⟩⟩⟩), ?_, r3.tr u3⟩
      simpa [h1, h2] using u2
theorem c_max {h : zH} (a b : Int32) : R_J9_max_7cf53 [.int a, .int b] h (some (.int (if a < b then b else a))) h := by
  refine r_J9_max_7cf53 _ _ _ _ _ ⟨_, rfl⟩ (t_J9_max_7cf53_0 _ _ _ _ ⟨fun z => ?_, fun z => ?_⟩)
  · exact ⟨by rw [if_pos z], rfl⟩
  · exact ⟨by rw [if_neg z], rfl⟩
theorem c_addSpot {h : zH} {L : List LT} (hL : HasC h L) (hn : L.length ≤ 5) {lean sk : Nat} (hl : lean = 1 ∨ lean = 3) (hs : 500 ≤ sk ∧ sk ≤ 9000) (hsk : h.1 3 3 = nI sk) (d hh : Int32) : ∃ h', R_X4_addSpot [.ref 29, .int (nI lean), .int d, .int hh] h none h' ∧ HasC h' (L ++ lgW lean d hh (nI sk) (h.1 3 4)) ∧ Fr sL h h' := by
  have e3 : (3 : Int32).toNatClampNeg = 3 := rfl
  have e4 : (4 : Int32).toNatClampNeg = 4 := rfl
  have emax : (if zRL 3 < nI sk then nI sk else zRL 3) = nI sk := by
    have : zRL 3 = nI 500 := rfl
    rw [this]
    split
    · rfl
    · next z =>
      rw [nI_ltI (by omega) (by omega)] at z
      have : sk = 500 := by omega
      rw [this]
  have hne : ¬ nI sk = 0 := by rw [q0, nI_eq (by omega) (by omega)]; omega
  have cm := c_max (h := h) (zRL 3) (nI sk)
  rw [emax] at cm
  have v3 : vp_in 3 5 := vp_in_nI (n := 3) (by omega) (by omega)
  have v4 : vp_in 4 5 := vp_in_nI (n := 4) (by omega) (by omega)
  by_cases h1 : 600 < hh
  · refine ⟨h, r_X4_addSpot _ _ _ _ _ _ rfl (t_X4_addSpot_0 _ _ _ _ _ ?_), ?_, Fr.rf⟩
    · rw [e3, e4, hsk]
      exact ⟨v3, v3, _, _, cm, hne, fun _ => ⟨rfl, rfl⟩, fun z => absurd h1 z⟩
    · rcases hl with rfl | rfl <;> simpa [lgW, h1] using hL
  · by_cases h2 : farV d hh (nI sk) ≤ 1800
    · rcases hl with rfl | rfl
      · obtain ⟨h', r1, r2, r3⟩ := c_add hL (by omega) 2 1 (farV d hh (nI sk)) (farV d hh (nI sk))
        refine ⟨h', r_X4_addSpot _ _ _ _ _ _ rfl (t_X4_addSpot_0 _ _ _ _ _ ?_), ?_, r3⟩
        · rw [e3, e4, hsk]
          exact ⟨v3, v3, _, _, cm, hne, fun z => absurd z h1, fun _ => ⟨fun _ => ⟨fun z => absurd rfl z, fun _ => ⟨_, r1, rfl, rfl⟩⟩, fun z => absurd h2 z⟩⟩
        · simpa [lgW, h1, h2] using r2
      · obtain ⟨h', r1, r2, r3⟩ := c_add hL (by omega) 2 1 d (farV d hh (nI sk) + h.1 3 4)
        refine ⟨h', r_X4_addSpot _ _ _ _ _ _ rfl (t_X4_addSpot_0 _ _ _ _ _ ?_), ?_, r3⟩
        · rw [e3, e4, hsk]
          exact ⟨v3, v3, _, _, cm, hne, fun z => absurd z h1, fun _ => ⟨fun _ => ⟨fun _ => ⟨v4, _, r1, rfl, rfl⟩, fun z => absurd (by decide) z⟩, fun z => absurd h2 z⟩⟩
        · simpa [lgW, h1, h2] using r2
    · refine ⟨h, r_X4_addSpot _ _ _ _ _ _ rfl (t_X4_addSpot_0 _ _ _ _ _ ?_), ?_, Fr.rf⟩
      · rw [e3, e4, hsk]
        exact ⟨v3, v3, _, _, cm, hne, fun z => absurd z h1, fun _ => ⟨fun z => absurd z h2, fun _ => ⟨rfl, rfl⟩⟩⟩
      · rcases hl with rfl | rfl <;> simpa [lgW, h1, h2] using hL
end
section
/-! ===== the wedges of a kind; the lights of a cause ===== -/
def CW (h : zH) (lc lw : Nat) (n w : Nat → Nat) : Prop := (∀ k, k < 4 → n k ≤ 3 ∧ h.1 lc k = nI (n k)) ∧ ∀ j, j < 12 → w j ≤ 1200 ∧ h.1 lw j = nI (w j)
def hasP (n w : Nat → Nat) (k v i : Nat) : Bool := (List.range i).any (fun j => w (3 * k + j) == v)
def bI (b : Bool) : Int32 := if b then 1 else 0
theorem hasP_s (n w : Nat → Nat) (k v i : Nat) : hasP n w k v (i + 1) = (hasP n w k v i || w (3 * k + i) == v) := by
  unfold hasP
  rw [List.range_succ, List.any_append]
  simp
theorem hasP_grow {n w : Nat → Nat} {k v i : Nat} (h : hasP n w k v i = true) : ∀ m, hasP n w k v (i + m) = true
  | 0 => h
  | m + 1 => by rw [← Nat.add_assoc, hasP_s, hasP_grow h m]; rfl
theorem ix_3c {k i : Nat} : nI k * 3 + nI i = nI (3 * k + i) := by rw [q3, pk_mul, nI_add, Nat.mul_comm]
theorem ix_3m {k i : Nat} : 3 * nI k + nI i = nI (3 * k + i) := by rw [q3, pk_mul, nI_add]
theorem c_hasWedge {h : zH} {n w : Nat → Nat} (hw : CW h 5 4 n w) {k v : Nat} (hk : k < 4) (hv : v ≤ 2000) : R_X6_hasWedge [.ref 1, .int (nI k), .int (nI v)] h (some (.int (bI (hasP n w k v (n k))))) h := by
  refine r_X6_hasWedge _ _ _ _ _ (by cases hasP n w k v (n k) <;> simp [bI]) (t_X6_hasWedge_0 _ _ _ _ ?_)
  obtain ⟨hn, hc⟩ := hw.1 k hk
  have key : ∀ (m i : Nat), i + m = n k → hasP n w k v i = false → zG M_X6_hasWedge (fun r1 h1 => r1 = some (.int (bI (hasP n w k v (n k)))) ∧ h1 = h) (zat M_X6_hasWedge 2) [some (.ref 1), some (.int (nI k)), some (.int (nI v)), some (.int (nI i))] [] h := by
    intro m
    induction m with
    | zero =>
      intro i hi hf
      have : i = n k := by omega
      subst this
      refine t_X6_hasWedge_2 _ _ _ _ _ ⟨vp_in_nI hk (by omega), fun _ => ⟨by rw [hf]; rfl, rfl⟩, fun z => absurd ?_ z⟩
      rw [nI_clamp (by omega), hc]; exact nI_le (Nat.le_refl _) (by omega)
    | succ m ih =>
      intro i hi hf
      have hwi := hw.2 (3 * k + i) (by omega)
      refine t_X6_hasWedge_2 _ _ _ _ _ ⟨vp_in_nI hk (by omega), fun z => ?_, fun _ => ?_⟩
      · rw [nI_clamp (by omega), hc, nI_leI (by omega) (by omega)] at z; omega
      rw [ix_3c, nI_clamp (by omega), hwi.2, nI_1, nI_eq (by omega) (by omega)]
      refine ⟨vp_in_nI (by omega) (by omega), fun z => ih (i + 1) (by omega) ?_, fun z => ?_⟩
      · rw [hasP_s, hf]; simpa using z
      · have hz : w (3 * k + i) = v := Classical.not_not.mp z
        have h1 : hasP n w k v (i + 1) = true := by rw [hasP_s]; simp [hz]
        have h2 := hasP_grow h1 m
        rw [show i + 1 + m = n k by omega] at h2
        exact ⟨by rw [h2]; rfl, rfl⟩
  exact key (n k) 0 (by omega) rfl
theorem m_hasWedge {h : zH} {n w : Nat → Nat} (hw : CW h 44 45 n w) {k v : Nat} (hk : k < 4) (hv : v ≤ 2000) : R_X8_hasWedge [.ref 42, .int (nI k), .int (nI v)] h (some (.int (bI (hasP n w k v (n k))))) h := by
  refine r_X8_hasWedge _ _ _ _ _ (by cases hasP n w k v (n k) <;> simp [bI]) (t_X8_hasWedge_0 _ _ _ _ ?_)
  obtain ⟨hn, hc⟩ := hw.1 k hk
  have key : ∀ (m i : Nat), i + m = n k → zG M_X8_hasWedge (fun r1 h1 => r1 = some (.int (bI (hasP n w k v (n k)))) ∧ h1 = h) (zat M_X8_hasWedge 5) [some (.ref 42), some (.int (nI k)), some (.int (nI v)), some (.int (bI (hasP n w k v i))), some (.int (nI i))] [] h := by
    intro m
    induction m with
    | zero =>
      intro i hi
      have : i = n k := by omega
      subst this
      refine t_X8_hasWedge_5 _ _ _ _ _ _ ⟨vp_in_nI hk (by omega), fun _ => ⟨rfl, rfl⟩, fun z => absurd ?_ z⟩
      rw [nI_clamp (by omega), hc]; exact nI_le (Nat.le_refl _) (by omega)
    | succ m ih =>
      intro i hi
      have hwi := hw.2 (3 * k + i) (by omega)
      have ih2 := ih (i + 1) (by omega)
      refine t_X8_hasWedge_5 _ _ _ _ _ _ ⟨vp_in_nI hk (by omega), fun z => ?_, fun _ => ?_⟩
      · rw [nI_clamp (by omega), hc, nI_leI (by omega) (by omega)] at z; omega
      rw [ix_3m, nI_clamp (by omega), hwi.2, nI_1, nI_eq (by omega) (by omega)]
      rw [hasP_s] at ih2
      refine ⟨fun z => ?_, fun z => ⟨vp_in_nI (by omega) (by omega), fun z2 => ?_, fun z2 => ?_⟩⟩
      · cases hp : hasP n w k v i with
        | false => rw [hp] at z; exact absurd rfl z
        | true => rw [hp] at ih2; exact ih2
      · cases hp : hasP n w k v i with
        | false =>
          rw [hp] at ih2
          have : (w (3 * k + i) == v) = false := by simpa using z2
          rw [this] at ih2; exact ih2
        | true => rw [hp] at z; exact absurd (by decide) z
      · cases hp : hasP n w k v i with
        | false =>
          rw [hp] at ih2
          have : (w (3 * k + i) == v) = true := by simpa using Classical.not_not.mp z2
          rw [this] at ih2; exact ih2
        | true => rw [hp] at z; exact absurd (by decide) z
  exact key (n k) 0 (by omega)
theorem c_behind {h : zH} {n w : Nat → Nat} {L : List LT} (hw : CW h 5 4 n w) (hL : HasC h L) (hn : L.length ≤ 6) {k lean : Nat} (hk : k < 4) (hl : lean < 4) : ∃ h', R_X4_addLightsBehind [.ref 29, .int (nI k), .int (nI lean)] h none h' ∧ HasC h' (L ++ lgB lean (hasP n w k 600 (n k)) (hasP n w k 900 (n k))) ∧ Fr sL h h' := by
  have c6 := c_hasWedge hw (k := k) (v := 600) hk (by omega)
  have c9 := c_hasWedge hw (k := k) (v := 900) hk (by omega)
  rcases (by omega : lean = 0 ∨ lean = 1 ∨ lean = 2 ∨ lean = 3) with rfl | rfl | rfl | rfl
  · refine ⟨h, r_X4_addLightsBehind _ _ _ _ _ rfl (t_X4_addLightsBehind_0 _ _ _ _ ⟨fun _ => ⟨fun _ => ⟨fun _ => ⟨rfl, rfl⟩, fun z => absurd (by decide) z⟩, fun z => absurd (by decide) z⟩, fun z => absurd (by decide) z⟩), by simpa [lgB] using hL, Fr.rf⟩
  · cases hp : hasP n w k 600 (n k) with
    | false =>
      rw [hp] at c6
      refine ⟨h, r_X4_addLightsBehind _ _ _ _ _ rfl (t_X4_addLightsBehind_0 _ _ _ _ ⟨fun z => absurd rfl z, fun _ => ⟨_, _, c6, fun _ => ⟨fun _ => ⟨fun _ => ⟨rfl, rfl⟩, fun z => absurd (by decide) z⟩, fun z => absurd (by decide) z⟩, fun z => absurd rfl z⟩⟩), by simpa [lgB] using hL, Fr.rf⟩
    | true =>
      rw [hp] at c6
      obtain ⟨h', r1, r2, r3⟩ := c_add hL (by omega) 2 1 1200 1200
      exact ⟨h', r_X4_addLightsBehind _ _ _ _ _ rfl (t_X4_addLightsBehind_0 _ _ _ _ ⟨fun z => absurd rfl z, fun _ => ⟨_, _, c6, fun z => absurd z (by decide), fun _ => ⟨_, r1, rfl, rfl⟩⟩⟩), r2, r3⟩
  · cases hp : hasP n w k 900 (n k) with
    | false =>
      rw [hp] at c9
      refine ⟨h, r_X4_addLightsBehind _ _ _ _ _ rfl (t_X4_addLightsBehind_0 _ _ _ _ ⟨fun _ => ⟨fun z => absurd rfl z, fun _ => ⟨_, _, c9, fun _ => ⟨fun _ => ⟨rfl, rfl⟩, fun z => absurd (by decide) z⟩, fun z => absurd rfl z⟩⟩, fun z => absurd (by decide) z⟩), by simpa [lgB] using hL, Fr.rf⟩
    | true =>
      rw [hp] at c9
      obtain ⟨h', r1, r2, r3⟩ := c_add hL (by omega) 2 1 1800 1800
      exact ⟨h', r_X4_addLightsBehind _ _ _ _ _ rfl (t_X4_addLightsBehind_0 _ _ _ _ ⟨fun _ => ⟨fun z => absurd rfl z, fun _ => ⟨_, _, c9, fun z => absurd z (by decide), fun _ => ⟨_, r1, rfl, rfl⟩⟩⟩, fun z => absurd (by decide) z⟩), r2, r3⟩
  · obtain ⟨h', r1, r2, r3⟩ := c_add hL (by omega) 3 1 0 1800
    exact ⟨h', r_X4_addLightsBehind _ _ _ _ _ rfl (t_X4_addLightsBehind_0 _ _ _ _ ⟨fun _ => ⟨fun _ => ⟨fun z => absurd rfl z, fun _ => ⟨_, r1, rfl, rfl⟩⟩, fun z => absurd (by decide) z⟩, fun z => absurd (by decide) z⟩), r2, r3⟩
/-! the lights of a cause -/
noncomputable def rg (t : Nat → Nat) (w : Nat) : Option Nat := rgO (bn t 0 1 0) w 901
theorem bn_c0 (t : Nat → Nat) (f s : Nat) : bn t f s 0 = bn t 0 s 0 := by
  funext i; simp [bn_eq]
noncomputable def lgO (o : Option Nat) (lean : Nat) (hh sk sw : Int32) : List LT := match o with
  | none => []
  | some d => lgW lean (nI d) hh sk sw
noncomputable def LTp (t w : Nat → Nat) (k lean : Nat) (hh sk sw : Int32) (i : Nat) : List LT := (List.range i).flatMap (fun j => lgO (rg t (w (3 * k + j))) lean hh sk sw)
noncomputable def LTS (t n w : Nat → Nat) (sk : Nat) (sw : Int32) (cause hh : Nat) : List LT := LTp t w (cause / 4) (cause % 4) (nI hh) (nI sk) sw (n (cause / 4)) ++ lgB (cause % 4) (hasP n w (cause / 4) 600 (n (cause / 4))) (hasP n w (cause / 4) 900 (n (cause / 4)))
theorem LTp_s (t w : Nat → Nat) (k lean : Nat) (hh sk sw : Int32) (i : Nat) : LTp t w k lean hh sk sw (i + 1) = LTp t w k lean hh sk sw i ++ lgO (rg t (w (3 * k + i))) lean hh sk sw := by
  unfold LTp
  rw [List.range_succ, List.flatMap_append]
  simp
theorem lgO_len (o : Option Nat) (lean : Nat) (hh sk sw : Int32) : (lgO o lean hh sk sw).length ≤ 2 := by
  cases o with
  | none => simp [lgO]
  | some d => exact lgW_len _ _ _ _ _
theorem LTp_len (t w : Nat → Nat) (k lean : Nat) (hh sk sw : Int32) : ∀ i, (LTp t w k lean hh sk sw i).length ≤ 2 * i
  | 0 => by simp [LTp]
  | i + 1 => by
    have h1 := LTp_len t w k lean hh sk sw i
    have h2 := lgO_len (rg t (w (3 * k + i))) lean hh sk sw
    rw [LTp_s, List.length_append]; omega
theorem lgB_len (lean : Nat) (s n : Bool) : (lgB lean s n).length ≤ 1 := by
  unfold lgB
  split <;> (repeat' split) <;> simp
theorem LTS_len {t n w : Nat → Nat} {sk : Nat} {sw : Int32} {cause hh : Nat} (hn : n (cause / 4) ≤ 3) : (LTS t n w sk sw cause hh).length ≤ 7 := by
  unfold LTS
  have h1 := LTp_len t w (cause / 4) (cause % 4) (nI hh) (nI sk) sw (n (cause / 4))
  have h2 := lgB_len (cause % 4) (hasP n w (cause / 4) 600 (n (cause / 4))) (hasP n w (cause / 4) 900 (n (cause / 4)))
  rw [List.length_append]; omega
theorem rg_bd {t : Nat → Nat} {w d : Nat} (h : rg t w = some d) : d ≤ 1800 := by
  have := rgO_bd (g := bn t 0 1 0) (w := w) (n := 901) (by omega) h
  omega
/-- the class's setup, as far as light needs it; its rings are right, or unknown -/
def RK (h : zH) (t n w : Nat → Nat) : Prop := ∀ k, k < 4 → ∀ i, i < n k → h.1 6 (3 * k + i) = -1 ∨ h.1 6 (3 * k + i) = oV (rg t (w (3 * k + i)))
def CS (h : zH) (t : Nat → Nat) (f : Nat) (n w : Nat → Nat) (sk : Nat) (sw : Int32) : Prop := BT h t f ∧ CW h 5 4 n w ∧ (500 ≤ sk ∧ sk ≤ 9000 ∧ h.1 3 3 = nI sk) ∧ h.1 3 4 = sw
theorem BT.fr {P : Nat → Nat → Bool} {h h' : zH} {t : Nat → Nat} {f : Nat} (hb : BT h t f) (hf : Fr P h h') (h2 : ∀ j, P 2 j = false) (h3 : ∀ j, P 3 j = false) : BT h' t f := ⟨hb.1, hb.2.1, fun j hj => by rw [hf 2 j (h2 j)]; exact hb.2.2.1 j hj, by rw [hf 3 0 (h3 0)]; exact hb.2.2.2⟩
theorem CW.fr {P : Nat → Nat → Bool} {h h' : zH} {lc lw : Nat} {n w : Nat → Nat} (hb : CW h lc lw n w) (hf : Fr P h h') (h2 : ∀ j, P lc j = false) (h3 : ∀ j, P lw j = false) : CW h' lc lw n w := ⟨fun k hk => ⟨(hb.1 k hk).1, by rw [hf lc k (h2 k)]; exact (hb.1 k hk).2⟩, fun j hj => ⟨(hb.2 j hj).1, by rw [hf lw j (h3 j)]; exact (hb.2 j hj).2⟩⟩
theorem CS.fr {P : Nat → Nat → Bool} {h h' : zH} {t : Nat → Nat} {f : Nat} {n w : Nat → Nat} {sk : Nat} {sw : Int32} (hb : CS h t f n w sk sw) (hf : Fr P h h') (hP : ∀ a j, a = 2 ∨ a = 3 ∨ a = 4 ∨ a = 5 → P a j = false) : CS h' t f n w sk sw := by
  obtain ⟨b1, b2, b3, b4⟩ := hb
  exact ⟨b1.fr hf (fun j => hP 2 j (Or.inl rfl)) (fun j => hP 3 j (Or.inr (Or.inl rfl))), b2.fr hf (fun j => hP 5 j (Or.inr (Or.inr (Or.inr rfl)))) (fun j => hP 4 j (Or.inr (Or.inr (Or.inl rfl)))), ⟨b3.1, b3.2.1, by rw [hf 3 3 (hP 3 3 (Or.inr (Or.inl rfl)))]; exact b3.2.2⟩, by rw [hf 3 4 (hP 3 4 (Or.inr (Or.inl rfl)))]; exact b4⟩
theorem sI_cs : ∀ a j, a = 2 ∨ a = 3 ∨ a = 4 ∨ a = 5 → sI a j = false := by
  rintro a j (rfl | rfl | rfl | rfl) <;> rfl
theorem RK.fr {P : Nat → Nat → Bool} {h h' : zH} {t n w : Nat → Nat} (hb : RK h t n w) (hf : Fr P h h') (h6 : ∀ j, P 6 j = false) : RK h' t n w := fun k hk i hi => by rw [hf 6 _ (h6 _)]; exact hb k hk i hi
theorem oV_ne1 {o : Option Nat} (h : ∀ d, o = some d → d ≤ 1800) : ¬ oV o = -1 := by
  intro z
  have z2 := congrArg Int32.toInt z
  cases o with
  | none => have e : (oV none).toInt = -10000 := rfl
            have : (-1 : Int32).toInt = -1 := rfl
            omega
  | some d =>
    have := h d rfl
    simp only [oV] at z2
    rw [nI_toInt (by omega)] at z2
    have : (-1 : Int32).toInt = -1 := rfl
    omega
set_option maxHeartbeats 4000000 in
set_option maxRecDepth 100000 in
theorem c_lightUp {h : zH} {t : Nat → Nat} {f : Nat} {n w : Nat → Nat} {sk : Nat} {sw : Int32} (hb : CS h t f n w sk sw) (hr : RK h t n w) {cause hh : Nat} (hc : cause < 16) (hh9 : hh ≤ 900) :
    ∃ h', R_X4_lightUp [.ref 29, .int (nI cause), .int (nI hh)] h none h' ∧ HasC h' (LTS t n w sk sw cause hh) ∧ Fr sI h h' ∧ RK h' t n w := by
  have hk : cause / 4 < 4 := by omega
  have hl : cause % 4 < 4 := by omega
  have e1 : nI cause / 4 = nI (cause / 4) := by rw [q4, pk_div (by omega) (by omega) (by omega)]
  have e2 : nI cause - nI cause / 4 * 4 = nI (cause % 4) := by rw [q4, q_rem (by omega) (by omega) (by omega)]
  obtain ⟨hn, hcn⟩ := hb.2.1.1 _ hk
  -- the loop
  have key : ∀ (m i : Nat) (h1 : zH), i + m = n (cause / 4) → Fr sI h h1 → RK h1 t n w → HasC h1 (LTp t w (cause / 4) (cause % 4) (nI hh) (nI sk) sw i) → ∃ h', zG M_X4_lightUp (fun r1 h2 => r1 = none ∧ h2 = h') (zat M_X4_lightUp 20) [some (.ref 29), some (.int (nI cause)), some (.int (nI hh)), some (.int (nI (cause / 4))), some (.int (nI (cause % 4))), some (.int (nI i)), none, none] [] h1 ∧ HasC h' (LTS t n w sk sw cause hh) ∧ Fr sI h h' ∧ RK h' t n w := by
    intro m
    induction m with
    | zero =>
      intro i h1 hi hf hr1 hL
      have : i = n (cause / 4) := by omega
      subst this
      have hb1 := hb.fr hf sI_cs
      have hlen := LTp_len t w (cause / 4) (cause % 4) (nI hh) (nI sk) sw (n (cause / 4))
      obtain ⟨h', r1, r2, r3⟩ := c_behind hb1.2.1 hL (by omega) hk hl
      refine ⟨h', t_X4_lightUp_20 _ _ _ _ _ _ _ ⟨vp_in_nI hk (by omega), fun _ => ⟨_, r1, rfl, rfl⟩, fun z => absurd ?_ z⟩, r2, hf.tr (r3.wk sL_I), hr1.fr r3 (fun _ => rfl)⟩
      rw [nI_clamp (by omega), (hb1.2.1.1 _ hk).2]; exact nI_le (Nat.le_refl _) (by omega)
    | succ m ih =>
      intro i h1 hi hf hr1 hL
      have hb1 := hb.fr hf sI_cs
      have hlen := LTp_len t w (cause / 4) (cause % 4) (nI hh) (nI sk) sw i
      have hwi := hb1.2.1.2 (3 * (cause / 4) + i) (by omega)
      have bd : ∀ d, rg t (w (3 * (cause / 4) + i)) = some d → d ≤ 1800 := fun d h => rg_bd h
      -- once the ring is known
      have go : ∀ h2 : zH, Fr sI h h2 → RK h2 t n w → HasC h2 (LTp t w (cause / 4) (cause % 4) (nI hh) (nI sk) sw i) → ∃ h', ((¬ oV (rg t (w (3 * (cause / 4) + i))) = -10000 →
          (¬ nI (cause % 4) = 0 → (¬ nI (cause % 4) = 2 → ∃ h3 : zH, R_X4_addSpot [.ref 29, .int (nI (cause % 4)), .int (oV (rg t (w (3 * (cause / 4) + i)))), .int (nI hh)] h2 none h3 ∧ zG M_X4_lightUp (fun r1 h2 => r1 = none ∧ h2 = h') (zat M_X4_lightUp 20) [some (.ref 29), some (.int (nI cause)), some (.int (nI hh)), some (.int (nI (cause / 4))), some (.int (nI (cause % 4))), some (.int (nI (i + 1))), none, none] [] h3) ∧
            (¬ ¬ nI (cause % 4) = 2 → ∃ h3 : zH, R_X4_addArcs [.ref 29, .int (oV (rg t (w (3 * (cause / 4) + i)))), .int (nI hh)] h2 none h3 ∧ zG M_X4_lightUp (fun r1 h2 => r1 = none ∧ h2 = h') (zat M_X4_lightUp 20) [some (.ref 29), some (.int (nI cause)), some (.int (nI hh)), some (.int (nI (cause / 4))), some (.int (nI (cause % 4))), some (.int (nI (i + 1))), none, none] [] h3)) ∧
          (¬ ¬ nI (cause % 4) = 0 → ∃ h3 : zH, R_X5_add [.ref 30, .int 0, .int 0, .int (oV (rg t (w (3 * (cause / 4) + i)))), .int (oV (rg t (w (3 * (cause / 4) + i))))] h2 none h3 ∧ zG M_X4_lightUp (fun r1 h2 => r1 = none ∧ h2 = h') (zat M_X4_lightUp 20) [some (.ref 29), some (.int (nI cause)), some (.int (nI hh)), some (.int (nI (cause / 4))), some (.int (nI (cause % 4))), some (.int (nI (i + 1))), none, none] [] h3)) ∧
          (¬ ¬ oV (rg t (w (3 * (cause / 4) + i))) = -10000 → zG M_X4_lightUp (fun r1 h2 => r1 = none ∧ h2 = h') (zat M_X4_lightUp 20) [some (.ref 29), some (.int (nI cause)), some (.int (nI hh)), some (.int (nI (cause / 4))), some (.int (nI (cause % 4))), some (.int (nI (i + 1))), none, none] [] h2)) ∧ HasC h' (LTS t n w sk sw cause hh) ∧ Fr sI h h' ∧ RK h' t n w := by
        intro h2 hf2 hr2 hL2
        have hb2 := hb.fr hf2 sI_cs
        rw [oV_none (by omega) bd]
        have estep := LTp_s t w (cause / 4) (cause % 4) (nI hh) (nI sk) sw i
        cases ho : rg t (w (3 * (cause / 4) + i)) with
        | none =>
          rw [ho] at estep
          obtain ⟨h', g1, g2⟩ := ih (i + 1) h2 (by omega) hf2 hr2 (by rw [estep]; simpa [lgO] using hL2)
          exact ⟨h', ⟨fun z => absurd rfl z, fun _ => g1⟩, g2⟩
        | some d =>
          rw [ho] at estep
          have hno : ¬ (some d = none) := fun z => by cases z
          rcases (by omega : cause % 4 = 0 ∨ cause % 4 = 2 ∨ (cause % 4 = 1 ∨ cause % 4 = 3)) with e | e | e
          · obtain ⟨h3, r1, r2, r3⟩ := c_add hL2 (by omega) 0 0 (nI d) (nI d)
            obtain ⟨h', g1, g2⟩ := ih (i + 1) h3 (by omega) (hf2.tr (r3.wk sL_I)) (hr2.fr r3 (fun _ => rfl)) (by rw [estep, e]; rw [e] at r2; exact r2)
            refine ⟨h', ⟨fun _ => ⟨fun z => absurd (by rw [e]; rfl) z, fun _ => ⟨h3, r1, g1⟩⟩, fun z => absurd hno z⟩, g2⟩
          · obtain ⟨h3, r1, r2, r3⟩ := c_addArcs hL2 (by omega) (nI d) (nI hh) (nI sk) sw
            obtain ⟨h', g1, g2⟩ := ih (i + 1) h3 (by omega) (hf2.tr (r3.wk sL_I)) (hr2.fr r3 (fun _ => rfl)) (by rw [estep, e]; rw [e] at r2; exact r2)
            refine ⟨h', ⟨fun _ => ⟨fun _ => ⟨fun z => absurd (by rw [e]; rfl) z, fun _ => ⟨h3, r1, g1⟩⟩, fun z => absurd (by rw [e]; decide) z⟩, fun z => absurd hno z⟩, g2⟩
          · obtain ⟨h3, r1, r2, r3⟩ := c_addSpot hL2 (by omega) e ⟨hb2.2.2.1.1, hb2.2.2.1.2.1⟩ hb2.2.2.1.2.2 (nI d) (nI hh)
            rw [hb2.2.2.2] at r2
            obtain ⟨h', g1, g2⟩ := ih (i + 1) h3 (by omega) (hf2.tr (r3.wk sL_I)) (hr2.fr r3 (fun _ => rfl)) (by rw [estep]; exact r2)
            refine ⟨h', ⟨fun _ => ⟨fun _ => ⟨fun _ => ⟨h3, r1, g1⟩, fun z => absurd (by rcases e with e | e <;> rw [e] <;> decide) z⟩, fun z => absurd (by rcases e with e | e <;> rw [e] <;> decide) z⟩, fun z => absurd hno z⟩, g2⟩
      have hout : ¬ (h1.1 5 (nI (cause / 4)).toNatClampNeg ≤ nI i) := by
        rw [nI_clamp (by omega), (hb1.2.1.1 _ hk).2, nI_leI (by omega) (by omega)]; omega
      have vp : vp_in (nI (3 * (cause / 4) + i)) 12 := vp_in_nI (by omega) (by omega)
      rcases hr1 _ hk i (by omega) with hv | hv
      · -- unknown: it is sought, and kept
        have hlt := c_leastTurn (c := 0) hb1.1 (w := w (3 * (cause / 4) + i)) (by omega) (by omega)
        rw [bn_c0] at hlt
        have e6 : (zsi h1 6 (3 * (cause / 4) + i) (oV (rg t (w (3 * (cause / 4) + i))))).1 6 (3 * (cause / 4) + i) = oV (rg t (w (3 * (cause / 4) + i))) := zr_eq
        have hfz : Fr sI h (zsi h1 6 (3 * (cause / 4) + i) (oV (rg t (w (3 * (cause / 4) + i))))) := hf.si rfl
        obtain ⟨h', g1, g2⟩ := go (zsi h1 6 (3 * (cause / 4) + i) (oV (rg t (w (3 * (cause / 4) + i))))) hfz (by
          intro k2 hk2 i2 hi2
          by_cases hs : 3 * k2 + i2 = 3 * (cause / 4) + i
          · rw [hs, zr_eq]; exact Or.inr rfl
          · rw [zr_nj hs]; exact hr1 k2 hk2 i2 hi2) (by
          obtain ⟨a1, a2⟩ := hL
          exact ⟨by rw [zr_ne (by omega)]; exact a1, fun j q hq => by
            simp (disch := omega) only [zr_ne]
            exact a2 j q hq⟩)
        refine ⟨h', t_X4_lightUp_20 _ _ _ _ _ _ _ ⟨vp_in_nI hk (by omega), fun z => absurd z hout, fun _ => ?_⟩, g2⟩
        rw [ix_3c, nI_clamp (by omega), hv, nI_1, hwi.2]
        refine ⟨vp, fun z => absurd rfl z, fun _ => ⟨vp, _, _, hlt, vp, vp, ?_⟩⟩
        rw [show rgO (bn t 0 1 0) (w (3 * (cause / 4) + i)) 901 = rg t (w (3 * (cause / 4) + i)) from rfl, e6]
        exact g1
      · obtain ⟨h', g1, g2⟩ := go h1 hf hr1 hL
        refine ⟨h', t_X4_lightUp_20 _ _ _ _ _ _ _ ⟨vp_in_nI hk (by omega), fun z => absurd z hout, fun _ => ?_⟩, g2⟩
        rw [ix_3c, nI_clamp (by omega), hv, nI_1]
        exact ⟨vp, fun _ => ⟨vp, g1⟩, fun z => absurd (oV_ne1 bd) z⟩
  have hf0 : Fr sI h (zsi h 30 1 0) := Fr.rf.si rfl
  obtain ⟨h', g1, g2⟩ := key (n (cause / 4)) 0 (zsi h 30 1 0) (by omega) hf0 (fun k hk i hi => by rw [zr_ne (by omega)]; exact hr k hk i hi) ⟨by rw [zr_eq]; rfl, fun j q hq => by simp [LTp] at hq⟩
  refine ⟨h', r_X4_lightUp _ _ _ _ _ rfl (t_X4_lightUp_0 _ _ _ _ ⟨by decide, by decide, ?_⟩), g2⟩
  rw [e2, e1]
  exact g1
end
section
/-! ===== the lights of the model ===== -/
def MS (h : zH) (t : Nat → Nat) (f : Nat) (n w : Nat → Nat) (sk : Nat) (sw : Int32) : Prop := BM h t f ∧ CW h 44 45 n w ∧ (500 ≤ sk ∧ sk ≤ 9000 ∧ h.1 42 4 = nI sk) ∧ h.1 42 5 = sw
/-- the model's rings, laid -/
def RM (h : zH) (t n w : Nat → Nat) : Prop := ∀ k, k < 4 → ∀ i, i < n k → h.1 56 (3 * k + i) = oV (rg t (w (3 * k + i)))
theorem MS.fr {P : Nat → Nat → Bool} {h h' : zH} {t : Nat → Nat} {f : Nat} {n w : Nat → Nat} {sk : Nat} {sw : Int32} (hb : MS h t f n w sk sw) (hf : Fr P h h') (hP : ∀ a j, a = 43 ∨ a = 44 ∨ a = 45 ∨ (a = 42 ∧ j < 6) → P a j = false) : MS h' t f n w sk sw := by
  obtain ⟨b1, b2, b3, b4⟩ := hb
  have e : ∀ j, j < 6 → h'.1 42 j = h.1 42 j := fun j hj => hf 42 j (hP 42 j (Or.inr (Or.inr (Or.inr ⟨rfl, hj⟩))))
  exact ⟨⟨b1.1, b1.2.1, fun j hj => by rw [hf 43 j (hP 43 j (Or.inl rfl))]; exact b1.2.2.1 j hj, by rw [e 1 (by omega)]; exact b1.2.2.2⟩, b2.fr hf (fun j => hP 44 j (Or.inr (Or.inl rfl))) (fun j => hP 45 j (Or.inr (Or.inr (Or.inl rfl)))), ⟨b3.1, b3.2.1, by rw [e 4 (by omega)]; exact b3.2.2⟩, by rw [e 5 (by omega)]; exact b4⟩
theorem sM_ms : ∀ a j, a = 43 ∨ a = 44 ∨ a = 45 ∨ (a = 42 ∧ j < 6) → sM a j = false := by
  rintro a j (rfl | rfl | rfl | ⟨rfl, hj⟩)
  · rfl
  · rfl
  · rfl
  · simp [sM]; omega
theorem RM.fr {P : Nat → Nat → Bool} {h h' : zH} {t n w : Nat → Nat} (hb : RM h t n w) (hf : Fr P h h') (h6 : ∀ j, P 56 j = false) : RM h' t n w := fun k hk i hi => by rw [hf 56 _ (h6 _)]; exact hb k hk i hi
theorem m_putRing {h : zH} {L : List LT} (hL : HasM h L) (hn : L.length ≤ 5) {lean sk : Nat} {sw : Int32} (hl : lean < 4) (hs : 500 ≤ sk ∧ sk ≤ 9000) (hsk : h.1 42 4 = nI sk) (hsw : h.1 42 5 = sw) (d hh : Int32) : ∃ h', R_X8_putRing [.ref 42, .int (nI lean), .int d, .int hh] h none h' ∧ HasM h' (L ++ lgW lean d hh (nI sk) sw) ∧ Fr sM h h' := by
  have hne : ¬ nI sk = 0 := by rw [q0, nI_eq (by omega) (by omega)]; omega
  have fold : d + d * hh / nI sk = farV d hh (nI sk) := rfl
  rcases (by omega : lean = 0 ∨ lean = 1 ∨ lean = 2 ∨ lean = 3) with rfl | rfl | rfl | rfl
  · obtain ⟨h', r1, r2, r3⟩ := m_put hL (by omega) 0 0 d d
    have e0 : (nI 0).toInt = 0 := rfl
    refine ⟨h', r_X8_putRing _ _ _ _ _ _ rfl (t_X8_putRing_0 _ _ _ _ _ ?_), r2, r3⟩
    rw [hsk, e0]
    have X : ∀ {A B C : Prop}, ((0 : Int) < 0 ∨ 2 < (0 : Int) → A) ∧ ((0 : Int) = 0 → ∃ h1 : zH, R_X8_put [.ref 42, .int 0, .int 0, .int d, .int d] h none h1 ∧ ((none : Option Value) = none ∧ h1 = h')) ∧ ((0 : Int) = 1 → B) ∧ ((0 : Int) = 2 → C) ∧ True := ⟨fun z => absurd z (by omega), fun _ => ⟨_, r1, rfl, rfl⟩, fun z => absurd z (by omega), fun z => absurd z (by omega), trivial⟩
    exact ⟨hne, fun _ => X, fun _ => ⟨fun _ => X, fun _ => X⟩⟩
  · have e0 : (nI 1).toInt = 1 := rfl
    by_cases h1 : 600 < hh
    · refine ⟨h, r_X8_putRing _ _ _ _ _ _ rfl (t_X8_putRing_0 _ _ _ _ _ ?_), by simpa [lgW, h1] using hL, Fr.rf⟩
      rw [hsk, e0]
      exact ⟨hne, fun _ => ⟨fun z => absurd z (by omega), fun z => absurd z (by omega), fun _ => ⟨fun _ => ⟨rfl, rfl⟩, fun z => absurd rfl z⟩, fun z => absurd z (by omega), trivial⟩, fun z => absurd h1 z⟩
    · by_cases h2 : farV d hh (nI sk) ≤ 1800
      · obtain ⟨h', r1, r2, r3⟩ := m_put hL (by omega) 2 1 (farV d hh (nI sk)) (farV d hh (nI sk))
        refine ⟨h', r_X8_putRing _ _ _ _ _ _ rfl (t_X8_putRing_0 _ _ _ _ _ ?_), by simpa [lgW, h1, h2] using r2, r3⟩
        rw [hsk, e0]
        exact ⟨hne, fun z => absurd z h1, fun _ => ⟨fun z => absurd h2 (Int32.not_le.mpr z), fun _ => ⟨fun z => absurd z (by omega), fun z => absurd z (by omega), fun _ => ⟨fun z => absurd z (by decide), fun _ => ⟨_, r1, rfl, rfl⟩⟩, fun z => absurd z (by omega), trivial⟩⟩⟩
      · refine ⟨h, r_X8_putRing _ _ _ _ _ _ rfl (t_X8_putRing_0 _ _ _ _ _ ?_), by simpa [lgW, h1, h2] using hL, Fr.rf⟩
        rw [hsk, e0]
        exact ⟨hne, fun z => absurd z h1, fun _ => ⟨fun _ => ⟨fun z => absurd z (by omega), fun z => absurd z (by omega), fun _ => ⟨fun _ => ⟨rfl, rfl⟩, fun z => absurd rfl z⟩, fun z => absurd z (by omega), trivial⟩, fun z => absurd (Int32.not_lt.mp z) h2⟩⟩
  · have e0 : (nI 2).toInt = 2 := rfl
    have body : ∃ h', ((900 < (hh + d) → (hh < d → (none : Option Value) = none ∧ h = h') ∧ (¬ (hh < d) → ∃ h1 : zH, R_X8_put [.ref 42, .int 1, .int 3, .int d, .int d] h none h1 ∧ (none : Option Value) = none ∧ h1 = h')) ∧
        (¬ (900 < (hh + d)) → ∃ h1 : zH, R_X8_put [.ref 42, .int 1, .int 2, .int d, .int d] h none h1 ∧ (hh < d → (none : Option Value) = none ∧ h1 = h') ∧ (¬ (hh < d) → ∃ h2 : zH, R_X8_put [.ref 42, .int 1, .int 3, .int d, .int d] h1 none h2 ∧ (none : Option Value) = none ∧ h2 = h'))) ∧ HasM h' (L ++ lgW 2 d hh (nI sk) sw) ∧ Fr sM h h' := by
      by_cases h1 : 900 < hh + d
      · by_cases h2 : hh < d
        · exact ⟨h, ⟨fun _ => ⟨fun _ => ⟨rfl, rfl⟩, fun z => absurd h2 z⟩, fun z => absurd h1 z⟩, by simpa [lgW, h1, h2] using hL, Fr.rf⟩
        · obtain ⟨h', r1, r2, r3⟩ := m_put hL (by omega) 1 3 d d
          exact ⟨h', ⟨fun _ => ⟨fun z => absurd z h2, fun _ => ⟨_, r1, rfl, rfl⟩⟩, fun z => absurd h1 z⟩, by simpa [lgW, h1, h2] using r2, r3⟩
      · obtain ⟨h1', r1, r2, r3⟩ := m_put hL (by omega) 1 2 d d
        by_cases h2 : hh < d
        · exact ⟨h1', ⟨fun z => absurd z h1, fun _ => ⟨_, r1, fun _ => ⟨rfl, rfl⟩, fun z => absurd h2 z⟩⟩, by simpa [lgW, h1, h2] using r2, r3⟩
        · obtain ⟨h2', u1, u2, u3⟩ := m_put r2 (by simp; omega) 1 3 d d
          exact ⟨h2', ⟨fun z => absurd z h1, fun _ => ⟨_, r1, fun z => absurd z h2, fun _ => ⟨_, u1, rfl, rfl⟩⟩⟩, by simpa [lgW, h1, h2] using u2, r3.tr u3⟩
    obtain ⟨h', b1, b2⟩ := body
    refine ⟨h', r_X8_putRing _ _ _ _ _ _ rfl (t_X8_putRing_0 _ _ _ _ _ ?_), b2⟩
    rw [hsk, e0]
    exact ⟨hne, fun _ => ⟨fun z => absurd z (by omega), fun z => absurd z (by omega), fun z => absurd z (by omega), fun _ => b1, trivial⟩, fun _ => ⟨fun _ => ⟨fun z => absurd z (by omega), fun z => absurd z (by omega), fun z => absurd z (by omega), fun _ => b1, trivial⟩, fun _ => ⟨fun z => absurd z (by omega), fun z => absurd z (by omega), fun z => absurd z (by omega), fun _ => b1, trivial⟩⟩⟩
  · have e0 : (nI 3).toInt = 3 := rfl
    by_cases h1 : 600 < hh
    · refine ⟨h, r_X8_putRing _ _ _ _ _ _ rfl (t_X8_putRing_0 _ _ _ _ _ ?_), by simpa [lgW, h1] using hL, Fr.rf⟩
      rw [hsk, e0]
      exact ⟨hne, fun _ => ⟨fun _ => ⟨fun _ => ⟨rfl, rfl⟩, fun z => absurd rfl z⟩, fun z => absurd z (by omega), fun z => absurd z (by omega), fun z => absurd z (by omega), trivial⟩, fun z => absurd h1 z⟩
    · by_cases h2 : farV d hh (nI sk) ≤ 1800
      · obtain ⟨h', r1, r2, r3⟩ := m_put hL (by omega) 2 1 d (farV d hh (nI sk) + sw)
        refine ⟨h', r_X8_putRing _ _ _ _ _ _ rfl (t_X8_putRing_0 _ _ _ _ _ ?_), by simpa [lgW, h1, h2] using r2, r3⟩
        rw [hsk, hsw, e0]
        exact ⟨hne, fun z => absurd z h1, fun _ => ⟨fun z => absurd h2 (Int32.not_le.mpr z), fun _ => ⟨fun _ => ⟨fun z => absurd z (by decide), fun _ => ⟨_, r1, rfl, rfl⟩⟩, fun z => absurd z (by omega), fun z => absurd z (by omega), fun z => absurd z (by omega), trivial⟩⟩⟩
      · refine ⟨h, r_X8_putRing _ _ _ _ _ _ rfl (t_X8_putRing_0 _ _ _ _ _ ?_), by simpa [lgW, h1, h2] using hL, Fr.rf⟩
        rw [hsk, e0]
        exact ⟨hne, fun z => absurd z h1, fun _ => ⟨fun _ => ⟨fun _ => ⟨fun _ => ⟨rfl, rfl⟩, fun z => absurd rfl z⟩, fun z => absurd z (by omega), fun z => absurd z (by omega), fun z => absurd z (by omega), trivial⟩, fun z => absurd (Int32.not_lt.mp z) h2⟩⟩
set_option maxHeartbeats 4000000 in
set_option maxRecDepth 100000 in
theorem m_layLights {h : zH} {t : Nat → Nat} {f : Nat} {n w : Nat → Nat} {sk : Nat} {sw : Int32} (hb : MS h t f n w sk sw) (hr : RM h t n w) {cause hh : Nat} (hc : cause < 16) (hh9 : hh ≤ 900) :
    ∃ h', R_X8_layLights [.ref 42, .int (nI cause), .int (nI hh)] h none h' ∧ HasM h' (LTS t n w sk sw cause hh) ∧ Fr sM h h' := by
  have hk : cause / 4 < 4 := by omega
  have hl : cause % 4 < 4 := by omega
  have e1 : nI cause / 4 = nI (cause / 4) := by rw [q4, pk_div (by omega) (by omega) (by omega)]
  have e2 : nI cause - nI cause / 4 * 4 = nI (cause % 4) := by rw [q4, q_rem (by omega) (by omega) (by omega)]
  obtain ⟨hn, hcn⟩ := hb.2.1.1 _ hk
  have key : ∀ (m i : Nat) (h1 : zH), i + m = n (cause / 4) → Fr sM h h1 → HasM h1 (LTp t w (cause / 4) (cause % 4) (nI hh) (nI sk) sw i) → ∃ h', zG M_X8_layLights (fun r1 h2 => r1 = none ∧ h2 = h') (zat M_X8_layLights 17) [some (.ref 42), some (.int (nI cause)), some (.int (nI hh)), some (.int (nI (cause / 4))), some (.int (nI (cause % 4))), some (.int (nI i))] [] h1 ∧ HasM h' (LTS t n w sk sw cause hh) ∧ Fr sM h h' := by
    intro m
    induction m with
    | zero =>
      intro i h1 hi hf hL
      have : i = n (cause / 4) := by omega
      subst this
      have hb1 := hb.fr hf sM_ms
      have hlen := LTp_len t w (cause / 4) (cause % 4) (nI hh) (nI sk) sw (n (cause / 4))
      have hin : h1.1 44 (nI (cause / 4)).toNatClampNeg ≤ nI (n (cause / 4)) := by
        rw [nI_clamp (by omega), (hb1.2.1.1 _ hk).2]; exact nI_le (Nat.le_refl _) (by omega)
      have c6 := m_hasWedge hb1.2.1 (k := cause / 4) (v := 600) hk (by omega)
      have c9 := m_hasWedge hb1.2.1 (k := cause / 4) (v := 900) hk (by omega)
      have vp := vp_in_nI hk (show 4 < 2 ^ 31 by omega)
      unfold LTS
      rcases (by omega : cause % 4 = 0 ∨ cause % 4 = 1 ∨ cause % 4 = 2 ∨ cause % 4 = 3) with e | e | e | e <;> rw [e] at hL hlen ⊢
      · refine ⟨h1, t_X8_layLights_17 _ _ _ _ _ _ _ ⟨vp, fun _ => ⟨fun _ => ⟨fun _ => ⟨fun _ => ⟨rfl, rfl⟩, fun z => absurd (by decide) z⟩, fun z => absurd (by decide) z⟩, fun z => absurd (by decide) z⟩, fun z => absurd hin z⟩, by simpa [lgB] using hL, hf⟩
      · cases hp : hasP n w (cause / 4) 600 (n (cause / 4)) with
        | false =>
          rw [hp] at c6
          refine ⟨h1, t_X8_layLights_17 _ _ _ _ _ _ _ ⟨vp, fun _ => ⟨fun z => absurd rfl z, fun _ => ⟨_, _, c6, fun _ => ⟨fun _ => ⟨fun _ => ⟨rfl, rfl⟩, fun z => absurd (by decide) z⟩, fun z => absurd (by decide) z⟩, fun z => absurd rfl z⟩⟩, fun z => absurd hin z⟩, by simpa [lgB] using hL, hf⟩
        | true =>
          rw [hp] at c6
          obtain ⟨h', r1, r2, r3⟩ := m_put hL (by omega) 2 1 1200 1200
          refine ⟨h', t_X8_layLights_17 _ _ _ _ _ _ _ ⟨vp, fun _ => ⟨fun z => absurd rfl z, fun _ => ⟨_, _, c6, fun z => absurd z (by decide), fun _ => ⟨_, r1, fun _ => ⟨fun _ => ⟨rfl, rfl⟩, fun z => absurd (by decide) z⟩, fun z => absurd (by decide) z⟩⟩⟩, fun z => absurd hin z⟩, r2, hf.tr r3⟩
      · cases hp : hasP n w (cause / 4) 900 (n (cause / 4)) with
        | false =>
          rw [hp] at c9
          refine ⟨h1, t_X8_layLights_17 _ _ _ _ _ _ _ ⟨vp, fun _ => ⟨fun _ => ⟨fun z => absurd rfl z, fun _ => ⟨_, _, c9, fun _ => ⟨fun _ => ⟨rfl, rfl⟩, fun z => absurd (by decide) z⟩, fun z => absurd rfl z⟩⟩, fun z => absurd (by decide) z⟩, fun z => absurd hin z⟩, by simpa [lgB] using hL, hf⟩
        | true =>
          rw [hp] at c9
          obtain ⟨h', r1, r2, r3⟩ := m_put hL (by omega) 2 1 1800 1800
          refine ⟨h', t_X8_layLights_17 _ _ _ _ _ _ _ ⟨vp, fun _ => ⟨fun _ => ⟨fun z => absurd rfl z, fun _ => ⟨_, _, c9, fun z => absurd z (by decide), fun _ => ⟨_, r1, fun _ => ⟨rfl, rfl⟩, fun z => absurd (by decide) z⟩⟩⟩, fun z => absurd (by decide) z⟩, fun z => absurd hin z⟩, r2, hf.tr r3⟩
      · obtain ⟨h', r1, r2, r3⟩ := m_put hL (by omega) 3 1 0 1800
        refine ⟨h', t_X8_layLights_17 _ _ _ _ _ _ _ ⟨vp, fun _ => ⟨fun _ => ⟨fun _ => ⟨fun z => absurd rfl z, fun _ => ⟨_, r1, rfl, rfl⟩⟩, fun z => absurd (by decide) z⟩, fun z => absurd (by decide) z⟩, fun z => absurd hin z⟩, r2, hf.tr r3⟩
    | succ m ih =>
      intro i h1 hi hf hL
      have hb1 := hb.fr hf sM_ms
      have hr1 := hr.fr hf (fun _ => rfl)
      have hlen := LTp_len t w (cause / 4) (cause % 4) (nI hh) (nI sk) sw i
      have bd : ∀ d, rg t (w (3 * (cause / 4) + i)) = some d → d ≤ 1800 := fun d h => rg_bd h
      have hout : ¬ (h1.1 44 (nI (cause / 4)).toNatClampNeg ≤ nI i) := by
        rw [nI_clamp (by omega), (hb1.2.1.1 _ hk).2, nI_leI (by omega) (by omega)]; omega
      have vp : vp_in (nI (3 * (cause / 4) + i)) 12 := vp_in_nI (by omega) (by omega)
      have hv := hr1 _ hk i (by omega)
      have estep := LTp_s t w (cause / 4) (cause % 4) (nI hh) (nI sk) sw i
      cases ho : rg t (w (3 * (cause / 4) + i)) with
      | none =>
        rw [ho] at estep hv
        obtain ⟨h', g1, g2⟩ := ih (i + 1) h1 (by omega) hf (by rw [estep]; simpa [lgO] using hL)
        refine ⟨h', t_X8_layLights_17 _ _ _ _ _ _ _ ⟨vp_in_nI hk (by omega), fun z => absurd z hout, fun _ => ?_⟩, g2⟩
        rw [ix_3m, nI_clamp (by omega), hv, nI_1]
        exact ⟨vp, fun _ => g1, fun z => absurd rfl z⟩
      | some d =>
        have hd := bd d ho
        rw [ho] at estep hv
        obtain ⟨h3, r1, r2, r3⟩ := m_putRing hL (by omega) hl ⟨hb1.2.2.1.1, hb1.2.2.1.2.1⟩ hb1.2.2.1.2.2 hb1.2.2.2 (nI d) (nI hh)
        obtain ⟨h', g1, g2⟩ := ih (i + 1) h3 (by omega) (hf.tr r3) (by rw [estep]; exact r2)
        refine ⟨h', t_X8_layLights_17 _ _ _ _ _ _ _ ⟨vp_in_nI hk (by omega), fun z => absurd z hout, fun _ => ?_⟩, g2⟩
        rw [ix_3m, nI_clamp (by omega), hv, nI_1]
        refine ⟨vp, fun z => ?_, fun _ => ⟨vp, _, r1, g1⟩⟩
        have := (oV_none (o := some d) (B := 1800) (by omega) (fun e he => by cases he; exact hd)).mp z
        cases this
  have hf0 : Fr sM h (zsi h 42 21 0) := Fr.rf.si rfl
  obtain ⟨h', g1, g2⟩ := key (n (cause / 4)) 0 (zsi h 42 21 0) (by omega) hf0 ⟨by rw [zr_eq]; rfl, fun j q hq => by simp [LTp] at hq⟩
  refine ⟨h', r_X8_layLights _ _ _ _ _ rfl (t_X8_layLights_0 _ _ _ _ ⟨by decide, by decide, ?_⟩), g2⟩
  rw [e2, e1]
  exact g1
def sG (a _b : Nat) : Bool := a == 56
theorem m_layRings {h : zH} {t : Nat → Nat} {f : Nat} {n w : Nat → Nat} (hb : BM h t f) (hw : CW h 44 45 n w) : ∃ h', R_X8_layRings [.ref 42] h none h' ∧ RM h' t n w ∧ Fr sG h h' := by
  have inv : ∀ {h1 : zH}, Fr sG h h1 → BM h1 t f ∧ CW h1 44 45 n w := fun hf => ⟨⟨hb.1, hb.2.1, fun j hj => by rw [hf 43 j rfl]; exact hb.2.2.1 j hj, by rw [hf 42 1 rfl]; exact hb.2.2.2⟩, hw.fr hf (fun _ => rfl) (fun _ => rfl)⟩
  have key : ∀ (mk k : Nat) (h1 : zH), k + mk = 4 → Fr sG h h1 → (∀ k', k' < k → ∀ i, i < n k' → h1.1 56 (3 * k' + i) = oV (rg t (w (3 * k' + i)))) → ∃ h', zG M_X8_layRings (fun r1 h2 => r1 = none ∧ h2 = h') (zat M_X8_layRings 2) [some (.ref 42), some (.int (nI k)), none] [] h1 ∧ RM h' t n w ∧ Fr sG h h' := by
    intro mk
    induction mk with
    | zero =>
      intro k h1 hk hf hd
      have : k = 4 := by omega
      subst this
      exact ⟨h1, t_X8_layRings_2 _ _ _ ⟨fun _ => ⟨rfl, rfl⟩, fun z => absurd (by decide) z⟩, hd, hf⟩
    | succ mk ih =>
      intro k h1 hk hf hd
      have hk4 : k < 4 := by omega
      have inner : ∀ (m i : Nat) (h2 : zH), i + m = n k → Fr sG h h2 → (∀ k', k' < k → ∀ i, i < n k' → h2.1 56 (3 * k' + i) = oV (rg t (w (3 * k' + i)))) → (∀ j, j < i → h2.1 56 (3 * k + j) = oV (rg t (w (3 * k + j)))) → ∃ h', zG M_X8_layRings (fun r1 h2 => r1 = none ∧ h2 = h') (zat M_X8_layRings 9) [some (.ref 42), some (.int (nI k)), some (.int (nI i))] [] h2 ∧ RM h' t n w ∧ Fr sG h h' := by
        intro m
        induction m with
        | zero =>
          intro i h2 hi hf2 hd2 hj2
          have : i = n k := by omega
          subst this
          obtain ⟨hb2, hw2⟩ := inv hf2
          obtain ⟨hnk, hck⟩ := hw2.1 k hk4
          obtain ⟨h', g1, g2⟩ := ih (k + 1) h2 (by omega) hf2 (fun k' hk' i' hi' => by
            by_cases e : k' = k
            · subst e; exact hj2 i' hi'
            · exact hd2 k' (by omega) i' hi')
          refine ⟨h', t_X8_layRings_9 _ _ _ _ ⟨vp_in_nI hk4 (by omega), fun _ => by rw [nI_1]; exact g1, fun z => absurd ?_ z⟩, g2⟩
          rw [nI_clamp (by omega), hck]; exact nI_le (Nat.le_refl _) (by omega)
        | succ m ih2 =>
          intro i h2 hi hf2 hd2 hj2
          obtain ⟨hb2, hw2⟩ := inv hf2
          obtain ⟨hnk, hck⟩ := hw2.1 k hk4
          have hwi := hw2.2 (3 * k + i) (by omega)
          have hlt := m_ringOf (c := 0) hb2 (w := w (3 * k + i)) hwi.1 (by omega)
          rw [bn_c0] at hlt
          have vp : vp_in (nI (3 * k + i)) 12 := vp_in_nI (by omega) (by omega)
          obtain ⟨h', g1, g2⟩ := ih2 (i + 1) (zsi h2 56 (3 * k + i) (oV (rg t (w (3 * k + i))))) (by omega) (hf2.si rfl) (fun k' hk' i' hi' => by
            have := (hw2.1 k' (by omega)).1
            rw [zr_nj (by omega)]; exact hd2 k' hk' i' hi') (fun j hj => by
            by_cases e : j = i
            · subst e; rw [zr_eq]
            · rw [zr_nj (by omega)]; exact hj2 j (by omega))
          refine ⟨h', t_X8_layRings_9 _ _ _ _ ⟨vp_in_nI hk4 (by omega), fun z => ?_, fun _ => ?_⟩, g2⟩
          · rw [nI_clamp (by omega), hck, nI_leI (by omega) (by omega)] at z; omega
          · rw [ix_3m, nI_clamp (by omega), hwi.2, nI_1]
            exact ⟨vp, _, _, hlt, vp, g1⟩
      obtain ⟨h', g1, g2⟩ := inner (n k) 0 h1 (by omega) hf hd (fun j hj => by omega)
      refine ⟨h', t_X8_layRings_2 _ _ _ ⟨fun z => ?_, fun _ => g1⟩, g2⟩
      rw [q4, nI_leI (by omega) (by omega)] at z; omega
  obtain ⟨h', g1, g2⟩ := key 4 0 h (by omega) Fr.rf (fun k' hk' => by omega)
  exact ⟨h', r_X8_layRings _ _ _ rfl (t_X8_layRings_0 _ _ g1), g2⟩
end
section
/-! ===== bits ===== -/
theorem sb_l : ∀ n, n < 32 → ((nI n &&& 31).toBitVec.smod 32).toNat = n := by decide +kernel
theorem n_and (a b : Nat) : nI a &&& nI b = nI (a &&& b) := by
  apply Int32.toBitVec_inj.1
  show BitVec.ofNat 32 a &&& BitVec.ofNat 32 b = BitVec.ofNat 32 (a &&& b)
  apply BitVec.eq_of_getLsbD_eq
  intro i hi
  simp [hi]
theorem n_or (a b : Nat) : nI a ||| nI b = nI (a ||| b) := by
  apply Int32.toBitVec_inj.1
  show BitVec.ofNat 32 a ||| BitVec.ofNat 32 b = BitVec.ofNat 32 (a ||| b)
  apply BitVec.eq_of_getLsbD_eq
  intro i hi
  simp [hi]
theorem n_xor (a b : Nat) : nI a ^^^ nI b = nI (a ^^^ b) := by
  apply Int32.toBitVec_inj.1
  show BitVec.ofNat 32 a ^^^ BitVec.ofNat 32 b = BitVec.ofNat 32 (a ^^^ b)
  apply BitVec.eq_of_getLsbD_eq
  intro i hi
  simp [hi]
theorem n_andnot (a b : Nat) : nI a &&& (nI b ^^^ (-1)) = nI (a ^^^ (a &&& b)) := by
  apply Int32.toBitVec_inj.1
  show BitVec.ofNat 32 a &&& (BitVec.ofNat 32 b ^^^ (-1#32)) = BitVec.ofNat 32 (a ^^^ (a &&& b))
  apply BitVec.eq_of_getLsbD_eq
  intro i hi
  have : (-1#32).getLsbD i = true := by
    rw [show (-1#32) = BitVec.allOnes 32 from rfl, BitVec.getLsbD_allOnes]
    simpa using hi
  rw [BitVec.getLsbD_and, BitVec.getLsbD_xor, this]
  simp only [BitVec.getLsbD_ofNat, hi, decide_true, Bool.true_and, Nat.testBit_xor, Nat.testBit_and]
  cases a.testBit i <;> cases b.testBit i <;> rfl
theorem n_or0 (x : Int32) : x ||| 0 = x := by
  apply Int32.toBitVec_inj.1
  show x.toBitVec ||| 0#32 = x.toBitVec
  simp
theorem n_bit {S m : Nat} (hS : S < 2 ^ 31) (hm : m < 32) : ((nI S >>> (nI m &&& 31)) &&& 1) = 1 ↔ S.testBit m = true := by
  rw [pk_shrN hS (nI m &&& 31) m (sb_l m hm), q1, n_and, Nat.and_one_is_mod, nI_eq (by omega) (by omega), Nat.testBit_eq_decide_div_mod_eq, decide_eq_true_eq]
theorem n_shl {m : Nat} (hm : m < 31) : (1 : Int32) <<< (nI m &&& 31) = nI (2 ^ m) := by
  have h2 : 2 ^ m < 2 ^ 32 := Nat.pow_lt_pow_right (by omega) (by omega)
  have := pk_shlN (n := 1) (nI m &&& 31) m (sb_l m (by omega)) (by omega)
  rw [Nat.one_mul] at this
  exact this
theorem n_all {n : Nat} (hn : n < 31) : (1 : Int32) <<< (nI n &&& 31) - 1 = nI (2 ^ n - 1) := by
  rw [n_shl hn, q1, pk_sub (Nat.pow_pos (by omega))]
/-- the bits below n that p says -/
def bm (p : Nat → Bool) : Nat → Nat
  | 0 => 0
  | n + 1 => bm p n ||| (if p n then 2 ^ n else 0)
theorem bm_bit (p : Nat → Bool) : ∀ n i, (bm p n).testBit i = (decide (i < n) && p i)
  | 0, i => by simp [bm]
  | n + 1, i => by
    rw [bm, Nat.testBit_or, bm_bit p n i]
    by_cases hi : i = n
    · subst hi
      by_cases hp : p i
      · simp [hp, Nat.testBit_two_pow_self]
      · simp [hp]
    · have : (if p n then 2 ^ n else 0).testBit i = false := by
        by_cases hp : p n
        · rw [if_pos hp]; exact Nat.testBit_two_pow_of_ne (Ne.symm hi)
        · rw [if_neg hp]; simp
      rw [this, Bool.or_false]
      congr 1
      rw [decide_eq_decide]; omega
theorem lt_of_bits {a n : Nat} (h : ∀ i, a.testBit i = true → i < n) : a < 2 ^ n := by
  apply Nat.lt_pow_two_of_testBit
  intro i hi
  cases hb : a.testBit i with
  | false => rfl
  | true => have := h i hb; omega
theorem bm_lt (p : Nat → Bool) (n : Nat) : bm p n < 2 ^ n := lt_of_bits (fun i hi => by rw [bm_bit] at hi; simp at hi; exact hi.1)
theorem bm_congr {p q : Nat → Bool} {n : Nat} (h : ∀ i, i < n → p i = q i) : bm p n = bm q n := by
  apply Nat.eq_of_testBit_eq
  intro i
  rw [bm_bit, bm_bit]
  by_cases hi : i < n
  · rw [h i hi]
  · simp [hi]
theorem all_bit (n i : Nat) : (2 ^ n - 1).testBit i = decide (i < n) := Nat.testBit_two_pow_sub_one n i
theorem p12 {n : Nat} (h : n ≤ 12) : 2 ^ n ≤ 4096 := Nat.pow_le_pow_right (n := 2) (by omega) h
theorem or_lt {a b n : Nat} (ha : a < 2 ^ n) (hb : b < 2 ^ n) : a ||| b < 2 ^ n := Nat.or_lt_two_pow ha hb
theorem an_bit (a b i : Nat) : (a ^^^ (a &&& b)).testBit i = (a.testBit i && !b.testBit i) := by
  rw [Nat.testBit_xor, Nat.testBit_and]
  cases a.testBit i <;> cases b.testBit i <;> rfl
theorem bit_lt {a n i : Nat} (ha : a < 2 ^ n) (h : a.testBit i = true) : i < n := by
  rcases Nat.lt_or_ge i n with q | q
  · exact q
  · rw [Nat.testBit_lt_two_pow (Nat.lt_of_lt_of_le ha (Nat.pow_le_pow_right (by omega) q))] at h
    cases h
theorem an_lt {a b n : Nat} (ha : a < 2 ^ n) : a ^^^ (a &&& b) < 2 ^ n := lt_of_bits (fun i hi => by
  rw [an_bit] at hi
  have : a.testBit i = true := by cases h : a.testBit i <;> simp_all
  exact bit_lt ha this)
end
section
/-! ===== marks of the class ===== -/
def meetsB (l q : LT) : Bool := (decide (q.1 = -1) || decide (q.1 = l.1)) && ((decide (q.2.1 = -1) || decide (q.2.1 = l.2.1)) && (!decide (q.2.2.1 < l.2.2.1 - q.2.2.2) && !decide (l.2.2.2 + q.2.2.2 < q.2.2.1)))
def MC (h : zH) (mk : Nat → LT) (nm : Nat) : Prop := nm ≤ 12 ∧ h.1 32 2 = nI nm ∧ ∀ m, m < 12 → h.1 33 (4 * m) = (mk m).1 ∧ h.1 33 (4 * m + 1) = (mk m).2.1 ∧ h.1 33 (4 * m + 2) = (mk m).2.2.1 ∧ h.1 33 (4 * m + 3) = (mk m).2.2.2
theorem MC.fr {P : Nat → Nat → Bool} {h h' : zH} {mk : Nat → LT} {nm : Nat} (hb : MC h mk nm) (hf : Fr P h h') (h2 : ∀ j, P 32 j = false) (h3 : ∀ j, P 33 j = false) : MC h' mk nm := ⟨hb.1, by rw [hf 32 2 (h2 2)]; exact hb.2.1, fun m hm => by rw [hf 33 _ (h3 _), hf 33 _ (h3 _), hf 33 _ (h3 _), hf 33 _ (h3 _)]; exact hb.2.2 m hm⟩
theorem c_part {h : zH} {L : List LT} (hL : HasC h L) (hn : L.length ≤ 7) {j : Nat} {l : LT} (hj : L[j]? = some l) : R_X5_part [.ref 30, .int (nI j), .int 0] h (some (.int l.1)) h ∧ R_X5_part [.ref 30, .int (nI j), .int 1] h (some (.int l.2.1)) h ∧ R_X5_part [.ref 30, .int (nI j), .int 2] h (some (.int l.2.2.1)) h ∧ R_X5_part [.ref 30, .int (nI j), .int 3] h (some (.int l.2.2.2)) h := by
  have hlt : j < L.length := (List.getElem?_eq_some_iff.mp hj).1
  obtain ⟨a0, a1, a2, a3⟩ := hL.2 j l hj
  refine ⟨r_X5_part _ _ _ _ _ ⟨_, rfl⟩ (t_X5_part_0 _ _ _ _ ?_), r_X5_part _ _ _ _ _ ⟨_, rfl⟩ (t_X5_part_0 _ _ _ _ ?_), r_X5_part _ _ _ _ _ ⟨_, rfl⟩ (t_X5_part_0 _ _ _ _ ?_), r_X5_part _ _ _ _ _ ⟨_, rfl⟩ (t_X5_part_0 _ _ _ _ ?_)⟩
  · rw [ix_4 0 q0, nI_clamp (by omega)]
    exact ⟨vp_in_nI (by omega) (by omega), by rw [← a0]; rfl, rfl⟩
  · rw [ix_4 1 q1, nI_clamp (by omega)]
    exact ⟨vp_in_nI (by omega) (by omega), by rw [← a1], rfl⟩
  · rw [ix_4 2 q2, nI_clamp (by omega)]
    exact ⟨vp_in_nI (by omega) (by omega), by rw [← a2], rfl⟩
  · rw [ix_4 3 q3, nI_clamp (by omega)]
    exact ⟨vp_in_nI (by omega) (by omega), by rw [← a3], rfl⟩
def nearB (l : LT) (a d : Int32) : Bool := !decide (a < l.2.2.1 - d) && !decide (l.2.2.2 + d < a)
theorem c_isNear {h : zH} {L : List LT} (hL : HasC h L) (hn : L.length ≤ 7) {j : Nat} {l : LT} (hj : L[j]? = some l) (a d : Int32) : R_X5_isNear [.ref 30, .int (nI j), .int a, .int d] h (some (.int (bI (nearB l a d)))) h := by
  obtain ⟨-, -, c2, c3⟩ := c_part hL hn hj
  refine r_X5_isNear _ _ _ _ _ _ (by cases nearB l a d <;> simp [bI]) (t_X5_isNear_0 _ _ _ _ _ ⟨_, _, c2, fun z => ⟨?_, rfl⟩, fun z => ⟨_, _, c3, fun z2 => ⟨?_, rfl⟩, fun z2 => ⟨?_, rfl⟩⟩⟩)
  · simp [nearB, z, bI]
  · simp [nearB, z, z2, bI]
  · simp [nearB, z, z2, bI]
theorem bI_0 {b : Bool} : bI b = 0 ↔ b = false := by cases b <;> simp [bI]
theorem c_meets {h : zH} {L : List LT} {mk : Nat → LT} {nm : Nat} (hL : HasC h L) (hn : L.length ≤ 7) (hm : MC h mk nm) {j m : Nat} {l : LT} (hj : L[j]? = some l) (hm12 : m < 12) : R_X2_meets [.ref 32, .int (nI j), .int (nI m)] h (some (.int (bI (meetsB l (mk m))))) h := by
  obtain ⟨c0, c1, -, -⟩ := c_part hL hn hj
  obtain ⟨-, -, hmk⟩ := hm
  obtain ⟨k0, k1, k2, k3⟩ := hmk m hm12
  have cn := c_isNear hL hn hj (mk m).2.2.1 (mk m).2.2.2
  refine r_X2_meets _ _ _ _ _ (by cases meetsB l (mk m) <;> simp [bI]) (t_X2_meets_0 _ _ _ _ ?_)
  rw [ix_4 0 q0, ix_4 1 q1, ix_4 2 q2, ix_4 3 q3, nI_clamp (by omega), nI_clamp (by omega), nI_clamp (by omega), nI_clamp (by omega), Nat.add_zero, k0, k1]
  have v0 : vp_in (nI (4 * m)) 48 := vp_in_nI (by omega) (by omega)
  have v1 : vp_in (nI (4 * m + 1)) 48 := vp_in_nI (by omega) (by omega)
  have v2 : vp_in (nI (4 * m + 2)) 48 := vp_in_nI (by omega) (by omega)
  have v3 : vp_in (nI (4 * m + 3)) 48 := vp_in_nI (by omega) (by omega)
  have e : meetsB l (mk m) = ((decide ((mk m).1 = -1) || decide ((mk m).1 = l.1)) && ((decide ((mk m).2.1 = -1) || decide ((mk m).2.1 = l.2.1)) && nearB l (mk m).2.2.1 (mk m).2.2.2)) := rfl
  rw [e]
  generalize (mk m).1 = F at *
  generalize (mk m).2.1 = S at *
  generalize nearB l (mk m).2.2.1 (mk m).2.2.2 = N at *
  rw [← k2, ← k3] at cn
  have last : ∀ {B : Bool}, B = N → vp_in (nI (4 * m + 2)) 48 ∧ vp_in (nI (4 * m + 3)) 48 ∧ ∃ (v1 : Int32) (h1 : zH), R_X5_isNear [.ref 30, .int (nI j), .int (h.1 33 (4 * m + 2)), .int (h.1 33 (4 * m + 3))] h (some (.int v1)) h1 ∧ (v1 = 0 → some (Value.int 0) = some (Value.int (bI B)) ∧ h1 = h) ∧ (¬ (v1 = 0) → some (Value.int 1) = some (Value.int (bI B)) ∧ h1 = h) := by
    intro B hB
    subst hB
    refine ⟨v2, v3, _, _, cn, fun z => ⟨?_, rfl⟩, fun z => ⟨?_, rfl⟩⟩
    · rw [z]
    · cases B with
      | false => exact absurd rfl z
      | true => rfl
  refine ⟨v0, v1, fun f => ⟨fun s => last (by simp [f, s]), fun s => ⟨_, _, c1, fun z => ⟨by simp [f, s, z, bI], rfl⟩, fun z => last (by simp [f, Classical.not_not.mp z])⟩⟩, fun f => ⟨_, _, c0, fun z => ⟨by simp [f, z, bI], rfl⟩, fun z => ⟨fun s => last (by simp [s, Classical.not_not.mp z]), fun s => ⟨_, _, c1, fun z2 => ⟨by simp [s, z2, bI], rfl⟩, fun z2 => last (by simp [Classical.not_not.mp z, Classical.not_not.mp z2])⟩⟩⟩⟩
def anyM (L : List LT) (q : LT) : Bool := L.any (fun l => meetsB l q)
def anyK (mk : Nat → LT) (nm : Nat) (l : LT) : Bool := (List.range nm).any (fun m => meetsB l (mk m))
theorem anyK_s (mk : Nat → LT) (i : Nat) (l : LT) : anyK mk (i + 1) l = (anyK mk i l || meetsB l (mk i)) := by
  unfold anyK
  rw [List.range_succ, List.any_append]
  simp
theorem anyK_grow {mk : Nat → LT} {i : Nat} {l : LT} (h : anyK mk i l = true) : ∀ m, anyK mk (i + m) l = true
  | 0 => h
  | m + 1 => by rw [← Nat.add_assoc, anyK_s, anyK_grow h m]; rfl
theorem c_meetsAny {h : zH} {L : List LT} {mk : Nat → LT} {nm : Nat} (hL : HasC h L) (hn : L.length ≤ 7) (hm : MC h mk nm) {j : Nat} {l : LT} (hj : L[j]? = some l) : R_X2_meetsAny [.ref 32, .int (nI j)] h (some (.int (bI (anyK mk nm l)))) h := by
  refine r_X2_meetsAny _ _ _ _ (by cases anyK mk nm l <;> simp [bI]) (t_X2_meetsAny_0 _ _ _ ?_)
  have key : ∀ (d i : Nat), i + d = nm → anyK mk i l = false → zG M_X2_meetsAny (fun r1 h1 => r1 = some (.int (bI (anyK mk nm l))) ∧ h1 = h) (zat M_X2_meetsAny 2) [some (.ref 32), some (.int (nI j)), some (.int (nI i))] [] h := by
    intro d
    induction d with
    | zero =>
      intro i hi hf
      have : i = nm := by omega
      subst this
      refine t_X2_meetsAny_2 _ _ _ _ ⟨fun _ => ⟨by rw [hf]; rfl, rfl⟩, fun z => absurd ?_ z⟩
      rw [hm.2.1]; exact nI_le (Nat.le_refl _) (by have := hm.1; omega)
    | succ d ih =>
      intro i hi hf
      have h12 := hm.1
      refine t_X2_meetsAny_2 _ _ _ _ ⟨fun z => ?_, fun _ => ⟨_, _, c_meets hL hn hm hj (m := i) (by omega), fun z => ?_, fun z => ?_⟩⟩
      · rw [hm.2.1, nI_leI (by omega) (by omega)] at z; omega
      · rw [nI_1]
        exact ih (i + 1) (by omega) (by rw [anyK_s, hf, bI_0.mp z]; rfl)
      · have ht : meetsB l (mk i) = true := by
          cases hb : meetsB l (mk i) with
          | false => rw [hb] at z; exact absurd rfl z
          | true => rfl
        have h1 : anyK mk (i + 1) l = true := by rw [anyK_s, ht, Bool.or_true]
        have h2 := anyK_grow h1 d
        rw [show i + 1 + d = nm by omega] at h2
        exact ⟨by rw [h2]; rfl, rfl⟩
  exact key nm 0 (by omega) rfl
theorem c_allMarks {h : zH} {mk : Nat → LT} {nm : Nat} (hm : MC h mk nm) : R_X2_allMarks [.ref 32] h (some (.int (nI (2 ^ nm - 1)))) h := by
  refine r_X2_allMarks _ _ _ ⟨_, rfl⟩ (t_X2_allMarks_0 _ _ ⟨?_, rfl⟩)
  rw [hm.2.1, n_all (by have := hm.1; omega)]
end
section
/-! ===== what a set of causes meets, in the class ===== -/
noncomputable def metN (t n w : Nat → Nat) (sk : Nat) (sw : Int32) (mk : Nat → LT) (nm c hh : Nat) : Nat := bm (fun m => anyM (LTS t n w sk sw c hh) (mk m)) nm
/-- what a set meets, causes below c -/
def unM (S : Nat) (g : Nat → Nat) : Nat → Nat
  | 0 => 0
  | c + 1 => if S.testBit c then unM S g c ||| g c else unM S g c
theorem unM_s (S : Nat) (g : Nat → Nat) (c : Nat) : unM S g (c + 1) = if S.testBit c then unM S g c ||| g c else unM S g c := rfl
theorem nI_z {a : Nat} (h : a < 2 ^ 31) : nI a = 0 ↔ a = 0 := by rw [q0, nI_eq h (by omega)]
theorem unM_grow {S : Nat} {g : Nat → Nat} {i c : Nat} (h : (unM S g c).testBit i = true) : ∀ d, (unM S g (c + d)).testBit i = true
  | 0 => h
  | d + 1 => by
    have ih := unM_grow h d
    rw [← Nat.add_assoc]
    unfold unM
    split
    · rw [Nat.testBit_or, ih]; rfl
    · exact ih
theorem unM_lt {S : Nat} {g : Nat → Nat} {n : Nat} (hg : ∀ c, g c < 2 ^ n) : ∀ c, unM S g c < 2 ^ n
  | 0 => Nat.pow_pos (by omega)
  | c + 1 => by
    have ih := unM_lt (S := S) hg c
    unfold unM
    split
    · exact or_lt ih (hg c)
    · exact ih
def leftM (S : Nat) (g : Nat → Nat) (A c : Nat) : Nat := A ^^^ (A &&& unM S g c)
theorem leftM_bit (S : Nat) (g : Nat → Nat) (A c i : Nat) : (leftM S g A c).testBit i = (A.testBit i && !(unM S g c).testBit i) := an_bit _ _ _
theorem leftM_0 {S : Nat} {g : Nat → Nat} {A c : Nat} (h : leftM S g A c = 0) (d : Nat) : leftM S g A (c + d) = 0 := by
  apply Nat.eq_of_testBit_eq
  intro i
  have h1 : (leftM S g A c).testBit i = false := by rw [h]; simp
  rw [leftM_bit] at h1 ⊢
  rw [Nat.zero_testBit]
  cases ha : A.testBit i with
  | false => rfl
  | true =>
    rw [ha] at h1
    have : (unM S g c).testBit i = true := by cases hb : (unM S g c).testBit i <;> simp_all
    rw [unM_grow this d]; rfl
theorem anyM_take {L : List LT} {j : Nat} {l : LT} (hj : L[j]? = some l) (q : LT) : anyM (L.take (j + 1)) q = (anyM (L.take j) q || meetsB l q) := by
  unfold anyM
  rw [List.take_add_one, hj, List.any_append]
  simp
theorem bm_or {p q : Nat → Bool} {n i : Nat} {b : Bool} (hi : i < n) (ho : ∀ m, m ≠ i → q m = p m) (hq : q i = (p i || b)) : bm q n = bm p n ||| (if b then 2 ^ i else 0) := by
  apply Nat.eq_of_testBit_eq
  intro m
  rw [Nat.testBit_or, bm_bit, bm_bit]
  by_cases hm : m = i
  · subst hm
    rw [hq]
    cases b <;> simp [hi, Nat.testBit_two_pow_self]
  · rw [ho m hm]
    have : (if b then 2 ^ i else 0).testBit m = false := by
      cases b
      · simp
      · exact Nat.testBit_two_pow_of_ne (Ne.symm hm)
    rw [this, Bool.or_false]
section MK
variable {t n w : Nat → Nat} {f sk nm : Nat} {sw : Int32} {mk : Nat → LT}
def CA (t n w : Nat → Nat) (f sk nm : Nat) (sw : Int32) (mk : Nat → LT) (h : zH) : Prop := CS h t f n w sk sw ∧ RK h t n w ∧ MC h mk nm
theorem CA.fr {h h' : zH} (hb : CA t n w f sk nm sw mk h) (hf : Fr sI h h') (hr : RK h' t n w) : CA t n w f sk nm sw mk h' := ⟨hb.1.fr hf sI_cs, hr, hb.2.2.fr hf (fun _ => rfl) (fun _ => rfl)⟩
theorem HasC.len {h : zH} {L : List LT} (hL : HasC h L) : h.1 30 1 = nI L.length := hL.1
set_option maxHeartbeats 4000000 in
set_option maxRecDepth 100000 in
theorem c_marksMet {h : zH} (hb : CA t n w f sk nm sw mk h) {c hh A : Nat} (hc : c < 16) (hh9 : hh ≤ 900) (hA : A < 2 ^ 31) :
    ∃ h', R_X2_marksMet [.ref 32, .int (nI c), .int (nI hh), .int (nI A)] h (some (.int (nI (bm (fun m => A.testBit m && anyM (LTS t n w sk sw c hh) (mk m)) nm)))) h' ∧ Fr sI h h' ∧ RK h' t n w := by
  obtain ⟨h1, r1, hL, hf, hr⟩ := c_lightUp hb.1 hb.2.1 hc hh9
  have hb1 := hb.fr hf hr
  obtain ⟨h12, hsz, -⟩ := hb1.2.2
  have hlen : (LTS t n w sk sw c hh).length ≤ 7 := LTS_len (hb.1.2.1.1 _ (by omega)).1
  refine ⟨h1, r_X2_marksMet _ _ _ _ _ _ ⟨_, rfl⟩ (t_X2_marksMet_0 _ _ _ _ _ ⟨_, r1, ?_⟩), hf, hr⟩
  generalize LTS t n w sk sw c hh = L at *
  have outer : ∀ (d j : Nat), j + d = L.length → zG M_X2_marksMet (fun r1 h2 => r1 = some (.int (nI (bm (fun m => A.testBit m && anyM L (mk m)) nm))) ∧ h2 = h1) (zat M_X2_marksMet 15) [some (.ref 32), some (.int (nI c)), some (.int (nI hh)), some (.int (nI A)), some (.int (nI (bm (fun m => A.testBit m && anyM (L.take j) (mk m)) nm))), some (.int (nI j)), none] [] h1 := by
    intro d
    induction d with
    | zero =>
      intro j hj
      have : j = L.length := by omega
      subst this
      refine t_X2_marksMet_15 _ _ _ _ _ _ _ ⟨fun _ => ⟨by rw [List.take_length], rfl⟩, fun z => absurd ?_ z⟩
      rw [hL.1]; exact nI_le (Nat.le_refl _) (by omega)
    | succ d ih =>
      intro j hj
      obtain ⟨l, hl⟩ : ∃ l, L[j]? = some l := ⟨L[j], List.getElem?_eq_getElem (by omega)⟩
      refine t_X2_marksMet_15 _ _ _ _ _ _ _ ⟨fun z => ?_, fun _ => ?_⟩
      · rw [hL.1, nI_leI (by omega) (by omega)] at z; omega
      have inner : ∀ (e i : Nat), i + e = nm → zG M_X2_marksMet (fun r1 h2 => r1 = some (.int (nI (bm (fun m => A.testBit m && anyM L (mk m)) nm))) ∧ h2 = h1) (zat M_X2_marksMet 33) [some (.ref 32), some (.int (nI c)), some (.int (nI hh)), some (.int (nI A)), some (.int (nI (bm (fun m => A.testBit m && (if m < i then anyM (L.take (j + 1)) (mk m) else anyM (L.take j) (mk m))) nm))), some (.int (nI j)), some (.int (nI i))] [] h1 := by
        intro e
        induction e with
        | zero =>
          intro i hi
          have : i = nm := by omega
          subst this
          refine t_X2_marksMet_33 _ _ _ _ _ _ _ _ ⟨fun _ => ?_, fun z => absurd ?_ z⟩
          · rw [nI_1, bm_congr (p := fun m => A.testBit m && (if m < i then anyM (L.take (j + 1)) (mk m) else anyM (L.take j) (mk m))) (q := fun m => A.testBit m && anyM (L.take (j + 1)) (mk m)) (fun m hm => by rw [if_pos hm])]
            exact ih (j + 1) (by omega)
          · rw [hsz]; exact nI_le (Nat.le_refl _) (by omega)
        | succ e ih2 =>
          intro i hi
          have ih3 := ih2 (i + 1) (by omega)
          have hx : ∀ m, m ≠ i → (A.testBit m && (if m < i + 1 then anyM (L.take (j + 1)) (mk m) else anyM (L.take j) (mk m))) = (A.testBit m && (if m < i then anyM (L.take (j + 1)) (mk m) else anyM (L.take j) (mk m))) := by
            intro m hm
            by_cases h3 : m < i
            · rw [if_pos h3, if_pos (by omega)]
            · rw [if_neg h3, if_neg (by omega)]
          refine t_X2_marksMet_33 _ _ _ _ _ _ _ _ ⟨fun z => ?_, fun _ => ?_⟩
          · rw [hsz, nI_leI (by omega) (by omega)] at z; omega
          rw [n_bit hA (by omega), nI_1, n_shl (by omega), n_or]
          refine ⟨fun z => ?_, fun z => ⟨_, _, c_meets hL hlen hb1.2.2 hl (m := i) (by omega), fun z2 => ?_, fun z2 => ?_⟩⟩
          · have hz : A.testBit i = false := by cases ha : A.testBit i <;> simp_all
            rw [bm_or (p := fun m => A.testBit m && (if m < i then anyM (L.take (j + 1)) (mk m) else anyM (L.take j) (mk m))) (i := i) (b := false) (by omega) hx (by simp [hz])] at ih3
            simpa using ih3
          · have ht : A.testBit i = true := Classical.not_not.mp z
            have hm := bI_0.mp z2
            rw [bm_or (p := fun m => A.testBit m && (if m < i then anyM (L.take (j + 1)) (mk m) else anyM (L.take j) (mk m))) (i := i) (b := false) (by omega) hx (by simp [ht, anyM_take hl, hm])] at ih3
            simpa using ih3
          · have ht : A.testBit i = true := Classical.not_not.mp z
            have hm : meetsB l (mk i) = true := by
              cases hb : meetsB l (mk i) with
              | false => rw [hb] at z2; exact absurd rfl z2
              | true => rfl
            rw [bm_or (p := fun m => A.testBit m && (if m < i then anyM (L.take (j + 1)) (mk m) else anyM (L.take j) (mk m))) (i := i) (b := true) (by omega) hx (by simp [ht, anyM_take hl, hm])] at ih3
            simpa using ih3
      have := inner nm 0 (by omega)
      rw [bm_congr (p := fun m => A.testBit m && (if m < 0 then anyM (L.take (j + 1)) (mk m) else anyM (L.take j) (mk m))) (q := fun m => A.testBit m && anyM (L.take j) (mk m)) (fun m hm => by rw [if_neg (by omega)])] at this
      exact this
  have := outer L.length 0 (by omega)
  rw [bm_congr (p := fun m => A.testBit m && anyM (L.take 0) (mk m)) (q := fun _ => false) (fun m hm => by simp [anyM])] at this
  have e0 : bm (fun _ => false) nm = 0 := by
    apply Nat.eq_of_testBit_eq; intro i; rw [bm_bit]; simp
  rw [e0] at this
  exact this
set_option maxHeartbeats 4000000 in
set_option maxRecDepth 100000 in
theorem c_marksLeft {h : zH} (hb : CA t n w f sk nm sw mk h) {S hh A : Nat} (hS : S < 65536) (hh9 : hh ≤ 900) (hA : A < 2 ^ nm) :
    ∃ h', R_X2_marksLeft [.ref 32, .int (nI S), .int (nI hh), .int (nI A)] h (some (.int (nI (leftM S (fun c => metN t n w sk sw mk nm c hh) A 16)))) h' ∧ Fr sI h h' ∧ RK h' t n w := by
  have h4096 := p12 hb.2.2.1
  have key : ∀ (d c : Nat) (h1 : zH), c + d = 16 → Fr sI h h1 → RK h1 t n w → ∃ h', zG M_X2_marksLeft (fun r1 h2 => r1 = some (.int (nI (leftM S (fun c => metN t n w sk sw mk nm c hh) A 16))) ∧ h2 = h') (zat M_X2_marksLeft 6) [some (.ref 32), some (.int (nI S)), some (.int (nI hh)), some (.int (nI A)), some (.int (nI (leftM S (fun c => metN t n w sk sw mk nm c hh) A c))), some (.int (nI c))] [] h1 ∧ Fr sI h h' ∧ RK h' t n w := by
    intro d
    induction d with
    | zero =>
      intro c h1 hc hf hr
      have : c = 16 := by omega
      subst this
      exact ⟨h1, t_X2_marksLeft_6 _ _ _ _ _ _ _ ⟨fun _ => ⟨rfl, rfl⟩, fun z => absurd (by decide) z⟩, hf, hr⟩
    | succ d ih =>
      intro c h1 hc hf hr
      have hlt : leftM S (fun c => metN t n w sk sw mk nm c hh) A c < 2 ^ nm := an_lt hA
      have h16 : ¬ ((16 : Int32) ≤ nI c) := by rw [q16, nI_leI (by omega) (by omega)]; omega
      by_cases h0 : leftM S (fun c => metN t n w sk sw mk nm c hh) A c = 0
      · have he := leftM_0 h0 (d + 1)
        rw [hc] at he
        refine ⟨h1, t_X2_marksLeft_6 _ _ _ _ _ _ _ ⟨fun z => absurd z h16, fun _ => ⟨fun _ => ⟨by rw [h0, he], rfl⟩, fun z => absurd (by rw [h0]; rfl) z⟩⟩, hf, hr⟩
      · have hne : ¬ nI (leftM S (fun c => metN t n w sk sw mk nm c hh) A c) = 0 := by rw [q0, nI_eq (by omega) (by omega)]; exact h0
        cases hbit : S.testBit c with
        | false =>
          obtain ⟨h', g1, g2⟩ := ih (c + 1) h1 (by omega) hf hr
          have e : leftM S (fun c => metN t n w sk sw mk nm c hh) A (c + 1) = leftM S (fun c => metN t n w sk sw mk nm c hh) A c := by
            unfold leftM; rw [unM_s, if_neg (by simp [hbit])]
          rw [e] at g1
          refine ⟨h', t_X2_marksLeft_6 _ _ _ _ _ _ _ ⟨fun z => absurd z h16, fun _ => ⟨fun z => absurd z hne, fun _ => ?_⟩⟩, g2⟩
          rw [n_bit (by omega) (by omega), nI_1]
          exact ⟨fun _ => g1, fun z => absurd (by simp [hbit]) z⟩
        | true =>
          obtain ⟨h2, r1, r2, r3⟩ := c_marksMet (hb.fr hf hr) (c := c) (hh := hh) (A := leftM S (fun c => metN t n w sk sw mk nm c hh) A c) (by omega) hh9 (by omega)
          obtain ⟨h', g1, g2⟩ := ih (c + 1) h2 (by omega) (hf.tr r2) r3
          have e : leftM S (fun c => metN t n w sk sw mk nm c hh) A (c + 1) = leftM S (fun c => metN t n w sk sw mk nm c hh) A c ^^^ (leftM S (fun c => metN t n w sk sw mk nm c hh) A c &&& bm (fun m => (leftM S (fun c => metN t n w sk sw mk nm c hh) A c).testBit m && anyM (LTS t n w sk sw c hh) (mk m)) nm) := by
            apply Nat.eq_of_testBit_eq
            intro i
            rw [an_bit, leftM_bit, leftM_bit, bm_bit, leftM_bit]
            have eu : unM S (fun c => metN t n w sk sw mk nm c hh) (c + 1) = unM S (fun c => metN t n w sk sw mk nm c hh) c ||| metN t n w sk sw mk nm c hh := by
              rw [unM_s, if_pos hbit]
            rw [eu, Nat.testBit_or]
            show _ = _
            have em : (metN t n w sk sw mk nm c hh).testBit i = (decide (i < nm) && anyM (LTS t n w sk sw c hh) (mk i)) := bm_bit _ _ _
            rw [em]
            cases A.testBit i <;> cases (unM S (fun c => metN t n w sk sw mk nm c hh) c).testBit i <;> cases decide (i < nm) <;> cases anyM (LTS t n w sk sw c hh) (mk i) <;> rfl
          rw [e] at g1
          refine ⟨h', t_X2_marksLeft_6 _ _ _ _ _ _ _ ⟨fun z => absurd z h16, fun _ => ⟨fun z => absurd z hne, fun _ => ?_⟩⟩, g2⟩
          rw [n_bit (by omega) (by omega), nI_1]
          refine ⟨fun z => absurd hbit z, fun _ => ⟨_, _, r1, ?_⟩⟩
          rw [n_andnot]
          exact g1
  obtain ⟨h', g1, g2⟩ := key 16 0 h (by omega) Fr.rf hb.2.1
  have e0 : leftM S (fun c => metN t n w sk sw mk nm c hh) A 0 = A := by unfold leftM unM; simp
  rw [e0] at g1
  exact ⟨h', r_X2_marksLeft _ _ _ _ _ _ ⟨_, rfl⟩ (t_X2_marksLeft_0 _ _ _ _ _ g1), g2⟩
/-- the set explains, at hh -/
noncomputable def exB (t n w : Nat → Nat) (sk : Nat) (sw : Int32) (mk : Nat → LT) (nm S hh : Nat) : Bool := decide (leftM S (fun c => metN t n w sk sw mk nm c hh) (2 ^ nm - 1) 16 = 0)
theorem c_isExplained {h : zH} (hb : CA t n w f sk nm sw mk h) {S hh : Nat} (hS : S < 65536) (hh9 : hh ≤ 900) :
    ∃ h', R_X2_isExplained [.ref 32, .int (nI S), .int (nI hh)] h (some (.int (bI (exB t n w sk sw mk nm S hh)))) h' ∧ Fr sI h h' ∧ RK h' t n w := by
  have h4096 := p12 hb.2.2.1
  have hp : 0 < 2 ^ nm := Nat.pow_pos (by omega)
  obtain ⟨h1, r1, r2, r3⟩ := c_marksLeft hb hS hh9 (A := 2 ^ nm - 1) (by omega)
  have hlt : leftM S (fun c => metN t n w sk sw mk nm c hh) (2 ^ nm - 1) 16 < 2 ^ nm := an_lt (by omega)
  refine ⟨h1, r_X2_isExplained _ _ _ _ _ (by cases exB t n w sk sw mk nm S hh <;> simp [bI]) (t_X2_isExplained_0 _ _ _ _ ⟨_, _, c_allMarks hb.2.2, _, _, r1, ?_⟩), r2, r3⟩
  rw [nI_z (by omega)]
  unfold exB
  exact ⟨fun z => ⟨by simp [z, bI], rfl⟩, fun z => ⟨by simp [Classical.not_not.mp z, bI], rfl⟩⟩
/-- the marks that are met at no height below 50 i -/
noncomputable def lvN (t n w : Nat → Nat) (sk : Nat) (sw : Int32) (mk : Nat → LT) (nm : Nat) : Nat → Nat
  | 0 => 2 ^ nm - 1
  | i + 1 => leftM 65535 (fun c => metN t n w sk sw mk nm c (50 * i)) (lvN t n w sk sw mk nm i) 16
theorem lvN_lt (t n w : Nat → Nat) (sk : Nat) (sw : Int32) (mk : Nat → LT) (nm : Nat) : ∀ i, lvN t n w sk sw mk nm i < 2 ^ nm
  | 0 => by have : 0 < 2 ^ nm := Nat.pow_pos (by omega)
            unfold lvN; omega
  | i + 1 => an_lt (lvN_lt t n w sk sw mk nm i)
theorem lvN_0 {t n w : Nat → Nat} {sk : Nat} {sw : Int32} {mk : Nat → LT} {nm i : Nat} (h : lvN t n w sk sw mk nm i = 0) : ∀ d, lvN t n w sk sw mk nm (i + d) = 0
  | 0 => h
  | d + 1 => by
    rw [← Nat.add_assoc]
    unfold lvN
    rw [lvN_0 h d]
    unfold leftM; simp
theorem c_never {h : zH} (hb : CA t n w f sk nm sw mk h) : ∃ h', R_X2_marksNeverMet [.ref 32] h (some (.int (nI (lvN t n w sk sw mk nm 19)))) h' ∧ Fr sI h h' ∧ RK h' t n w := by
  have h4096 := p12 hb.2.2.1
  have key : ∀ (d i : Nat) (h1 : zH), i + d = 19 → Fr sI h h1 → RK h1 t n w → ∃ h', zG M_X2_marksNeverMet (fun r1 h2 => r1 = some (.int (nI (lvN t n w sk sw mk nm 19))) ∧ h2 = h') (zat M_X2_marksNeverMet 7) [some (.ref 32), some (.int (nI (lvN t n w sk sw mk nm i))), some (.int (nI (50 * i)))] [] h1 ∧ Fr sI h h' ∧ RK h' t n w := by
    intro d
    induction d with
    | zero =>
      intro i h1 hi hf hr
      have : i = 19 := by omega
      subst this
      exact ⟨h1, t_X2_marksNeverMet_7 _ _ _ _ ⟨fun _ => ⟨rfl, rfl⟩, fun z => absurd (by decide) z⟩, hf, hr⟩
    | succ d ih =>
      intro i h1 hi hf hr
      have hlt := lvN_lt t n w sk sw mk nm i
      have h9 : ¬ ((900 : Int32) < nI (50 * i)) := by rw [q900, nI_ltI (by omega) (by omega)]; omega
      by_cases h0 : lvN t n w sk sw mk nm i = 0
      · have he := lvN_0 h0 (d + 1)
        rw [hi] at he
        exact ⟨h1, t_X2_marksNeverMet_7 _ _ _ _ ⟨fun z => absurd z h9, fun _ => ⟨fun _ => ⟨by rw [h0, he], rfl⟩, fun z => absurd (by rw [h0]; rfl) z⟩⟩, hf, hr⟩
      · have hne : ¬ nI (lvN t n w sk sw mk nm i) = 0 := by rw [q0, nI_eq (by omega) (by omega)]; exact h0
        obtain ⟨h2, r1, r2, r3⟩ := c_marksLeft (hb.fr hf hr) (S := 65535) (hh := 50 * i) (by omega) (by omega) hlt
        obtain ⟨h', g1, g2⟩ := ih (i + 1) h2 (by omega) (hf.tr r2) r3
        refine ⟨h', t_X2_marksNeverMet_7 _ _ _ _ ⟨fun z => absurd z h9, fun _ => ⟨fun z => absurd z hne, fun _ => ⟨_, _, r1, ?_⟩⟩⟩, g2⟩
        rw [q50, nI_add, show 50 * i + 50 = 50 * (i + 1) by omega]
        exact g1
  obtain ⟨h', g1, g2⟩ := key 19 0 h (by omega) Fr.rf hb.2.1
  exact ⟨h', r_X2_marksNeverMet _ _ _ ⟨_, rfl⟩ (t_X2_marksNeverMet_0 _ _ ⟨_, _, c_allMarks hb.2.2, g1⟩), g2⟩
/-! owed -/
def cntL (mk : Nat → LT) (nm : Nat) (L : List LT) : Nat := (L.filter (fun l => !anyK mk nm l)).length
theorem cntL_take {mk : Nat → LT} {nm : Nat} {L : List LT} {j : Nat} {l : LT} (hj : L[j]? = some l) : cntL mk nm (L.take (j + 1)) = cntL mk nm (L.take j) + (if anyK mk nm l then 0 else 1) := by
  unfold cntL
  rw [List.take_add_one, hj, List.filter_append, List.length_append]
  cases h : anyK mk nm l <;> simp [h]
theorem cntL_le {mk : Nat → LT} {nm : Nat} (L : List LT) : cntL mk nm L ≤ L.length := List.length_filter_le _ _
noncomputable def owN (t n w : Nat → Nat) (sk : Nat) (sw : Int32) (mk : Nat → LT) (nm S hh : Nat) : Nat → Nat
  | 0 => 0
  | c + 1 => if S.testBit c then owN t n w sk sw mk nm S hh c + cntL mk nm (LTS t n w sk sw c hh) else owN t n w sk sw mk nm S hh c
theorem owN_le {t n w : Nat → Nat} {sk : Nat} {sw : Int32} {mk : Nat → LT} {nm S hh : Nat} (hn : ∀ k, k < 4 → n k ≤ 3) : ∀ c, c ≤ 16 → owN t n w sk sw mk nm S hh c ≤ 7 * c
  | 0, _ => by simp [owN]
  | c + 1, hc => by
    have ih := owN_le (S := S) (hh := hh) (t := t) (w := w) (sk := sk) (sw := sw) (mk := mk) (nm := nm) hn c (by omega)
    have h1 := cntL_le (mk := mk) (nm := nm) (LTS t n w sk sw c hh)
    have h2 : (LTS t n w sk sw c hh).length ≤ 7 := LTS_len (hn _ (by omega))
    unfold owN
    split <;> omega
set_option maxHeartbeats 4000000 in
set_option maxRecDepth 100000 in
theorem c_unseen {h : zH} (hb : CA t n w f sk nm sw mk h) {S hh : Nat} (hS : S < 65536) (hh9 : hh ≤ 900) :
    ∃ h', R_X2_unseen [.ref 32, .int (nI S), .int (nI hh)] h (some (.int (nI (owN t n w sk sw mk nm S hh 16)))) h' ∧ Fr sI h h' ∧ RK h' t n w := by
  have hn3 : ∀ k, k < 4 → n k ≤ 3 := fun k hk => (hb.1.2.1.1 k hk).1
  have key : ∀ (d c : Nat) (h1 : zH), c + d = 16 → Fr sI h h1 → RK h1 t n w → ∃ h', zG M_X2_unseen (fun r1 h2 => r1 = some (.int (nI (owN t n w sk sw mk nm S hh 16))) ∧ h2 = h') (zat M_X2_unseen 5) [some (.ref 32), some (.int (nI S)), some (.int (nI hh)), some (.int (nI (owN t n w sk sw mk nm S hh c))), some (.int (nI c)), none] [] h1 ∧ Fr sI h h' ∧ RK h' t n w := by
    intro d
    induction d with
    | zero =>
      intro c h1 hc hf hr
      have : c = 16 := by omega
      subst this
      exact ⟨h1, t_X2_unseen_5 _ _ _ _ _ _ ⟨fun _ => ⟨rfl, rfl⟩, fun z => absurd (by decide) z⟩, hf, hr⟩
    | succ d ih =>
      intro c h1 hc hf hr
      have h16 : ¬ ((16 : Int32) ≤ nI c) := by rw [q16, nI_leI (by omega) (by omega)]; omega
      have hb1 := hb.fr hf hr
      cases hbit : S.testBit c with
      | false =>
        obtain ⟨h', g1, g2⟩ := ih (c + 1) h1 (by omega) hf hr
        have e : owN t n w sk sw mk nm S hh (c + 1) = owN t n w sk sw mk nm S hh c := by
          conv => lhs; unfold owN
          simp [hbit]
        rw [e] at g1
        refine ⟨h', t_X2_unseen_5 _ _ _ _ _ _ ⟨fun z => absurd z h16, fun _ => ?_⟩, g2⟩
        rw [n_bit (by omega) (by omega), nI_1]
        exact ⟨fun _ => g1, fun z => absurd (by simp [hbit]) z⟩
      | true =>
        obtain ⟨h2, r1, hL, r2, r3⟩ := c_lightUp hb1.1 hb1.2.1 (cause := c) (hh := hh) (by omega) hh9
        have hb2 := hb1.fr r2 r3
        obtain ⟨h', g1, g2⟩ := ih (c + 1) h2 (by omega) (hf.tr r2) r3
        have hlen : (LTS t n w sk sw c hh).length ≤ 7 := LTS_len (hn3 _ (by omega))
        have hu := owN_le (S := S) (hh := hh) (t := t) (w := w) (sk := sk) (sw := sw) (mk := mk) (nm := nm) hn3 c (by omega)
        have e : owN t n w sk sw mk nm S hh (c + 1) = owN t n w sk sw mk nm S hh c + cntL mk nm (LTS t n w sk sw c hh) := by
          conv => lhs; unfold owN
          simp [hbit]
        rw [e] at g1
        refine ⟨h', t_X2_unseen_5 _ _ _ _ _ _ ⟨fun z => absurd z h16, fun _ => ?_⟩, g2⟩
        rw [n_bit (by omega) (by omega), nI_1]
        refine ⟨fun z => absurd hbit z, fun _ => ⟨_, r1, ?_⟩⟩
        generalize LTS t n w sk sw c hh = L at *
        generalize owN t n w sk sw mk nm S hh c = u at *
        have inner : ∀ (e j : Nat), j + e = L.length → zG M_X2_unseen (fun r1 h2 => r1 = some (.int (nI (owN t n w sk sw mk nm S hh 16))) ∧ h2 = h') (zat M_X2_unseen 35) [some (.ref 32), some (.int (nI S)), some (.int (nI hh)), some (.int (nI (u + cntL mk nm (L.take j)))), some (.int (nI c)), some (.int (nI j))] [] h2 := by
          intro e
          induction e with
          | zero =>
            intro j hj
            have : j = L.length := by omega
            subst this
            refine t_X2_unseen_35 _ _ _ _ _ _ _ ⟨fun _ => ?_, fun z => absurd ?_ z⟩
            · rw [List.take_length, nI_1]; exact g1
            · rw [hL.1]; exact nI_le (Nat.le_refl _) (by omega)
          | succ e ih2 =>
            intro j hj
            obtain ⟨l, hl⟩ : ∃ l, L[j]? = some l := ⟨L[j], List.getElem?_eq_getElem (by omega)⟩
            have ih3 := ih2 (j + 1) (by omega)
            rw [cntL_take hl] at ih3
            refine t_X2_unseen_35 _ _ _ _ _ _ _ ⟨fun z => ?_, fun _ => ⟨_, _, c_meetsAny hL hlen hb2.2.2 hl, fun z => ?_, fun z => ?_⟩⟩
            · rw [hL.1, nI_leI (by omega) (by omega)] at z; omega
            · rw [bI_0.mp z] at ih3
              rw [nI_1, nI_1]
              exact ih3
            · have ht : anyK mk nm l = true := by
                cases hb : anyK mk nm l with
                | false => rw [hb] at z; exact absurd rfl z
                | true => rfl
              rw [ht] at ih3
              rw [nI_1, q0, nI_add]
              exact ih3
        exact inner L.length 0 (by omega)
  obtain ⟨h', g1, g2⟩ := key 16 0 h (by omega) Fr.rf hb.2.1
  exact ⟨h', r_X2_unseen _ _ _ _ _ ⟨_, rfl⟩ (t_X2_unseen_0 _ _ _ _ g1), g2⟩
end MK
end
section
/-! ===== marks of the model ===== -/
def MM (h : zH) (mk : Nat → LT) (nm : Nat) : Prop := nm ≤ 12 ∧ h.1 42 8 = nI nm ∧ ∀ m, m < 12 → h.1 46 m = (mk m).1 ∧ h.1 47 m = (mk m).2.1 ∧ h.1 48 m = (mk m).2.2.1 ∧ h.1 49 m = (mk m).2.2.2 ∧ -1 ≤ (mk m).1 ∧ -1 ≤ (mk m).2.1
theorem MM.fr {P : Nat → Nat → Bool} {h h' : zH} {mk : Nat → LT} {nm : Nat} (hb : MM h mk nm) (hf : Fr P h h') (h2 : P 42 8 = false) (h3 : ∀ a j, a = 46 ∨ a = 47 ∨ a = 48 ∨ a = 49 → P a j = false) : MM h' mk nm := ⟨hb.1, by rw [hf 42 8 h2]; exact hb.2.1, fun m hm => by
  rw [hf 46 _ (h3 46 _ (Or.inl rfl)), hf 47 _ (h3 47 _ (Or.inr (Or.inl rfl))), hf 48 _ (h3 48 _ (Or.inr (Or.inr (Or.inl rfl)))), hf 49 _ (h3 49 _ (Or.inr (Or.inr (Or.inr rfl))))]
  exact hb.2.2 m hm⟩
theorem lt0_iff {x : Int32} (h : -1 ≤ x) : x < 0 ↔ x = -1 := by
  rw [Int32.lt_iff_toInt_lt, ← Int32.toInt_inj]
  have := Int32.le_iff_toInt_le.mp h
  have e1 : (-1 : Int32).toInt = -1 := rfl
  have e0 : (0 : Int32).toInt = 0 := rfl
  omega
set_option maxHeartbeats 4000000 in
set_option maxRecDepth 100000 in
theorem m_meets {h : zH} {L : List LT} {mk : Nat → LT} {nm : Nat} (hL : HasM h L) (hn : L.length ≤ 7) (hm : MM h mk nm) {j m : Nat} {l : LT} (hj : L[j]? = some l) (hm12 : m < 12) : R_X8_meets [.ref 42, .int (nI j), .int (nI m)] h (some (.int (bI (meetsB l (mk m))))) h := by
  have hlt : j < L.length := (List.getElem?_eq_some_iff.mp hj).1
  obtain ⟨a0, a1, a2, a3⟩ := hL.2 j l hj
  obtain ⟨k0, k1, k2, k3, k4, k5⟩ := hm.2.2 m hm12
  refine r_X8_meets _ _ _ _ _ (by cases meetsB l (mk m) <;> simp [bI]) (t_X8_meets_0 _ _ _ _ ?_)
  rw [nI_clamp (show j < 2 ^ 31 by omega), nI_clamp (show m < 2 ^ 31 by omega), k0, k1, k2, k3, a0, a1, a2, a3, lt0_iff k4, lt0_iff k5]
  have v0 : vp_in (nI m) 12 := vp_in_nI (by omega) (by omega)
  have v1 : vp_in (nI j) 8 := vp_in_nI (by omega) (by omega)
  unfold meetsB
  generalize (mk m).1 = F at *
  generalize (mk m).2.1 = S at *
  generalize (mk m).2.2.1 = N at *
  generalize (mk m).2.2.2 = D at *
  have last : ∀ {B : Bool}, B = (!decide (N < l.2.2.1 - D) && !decide (l.2.2.2 + D < N)) → vp_in (nI m) 12 ∧ vp_in (nI j) 8 ∧ vp_in (nI m) 12 ∧ (N < l.2.2.1 - D → some (Value.int 0) = some (Value.int (bI B)) ∧ h = h) ∧ (¬ (N < l.2.2.1 - D) → vp_in (nI m) 12 ∧ vp_in (nI j) 8 ∧ vp_in (nI m) 12 ∧ (l.2.2.2 + D < N → some (Value.int 0) = some (Value.int (bI B)) ∧ h = h) ∧ (¬ (l.2.2.2 + D < N) → some (Value.int 1) = some (Value.int (bI B)) ∧ h = h)) := by
    intro B hB
    subst hB
    refine ⟨v0, v1, v0, fun z => ⟨by simp [z, bI], rfl⟩, fun z => ⟨v0, v1, v0, fun z2 => ⟨by simp [z2, bI], rfl⟩, fun z2 => ⟨by simp [z, z2, bI], rfl⟩⟩⟩
  have T : ∀ {A B : Prop}, B → (((1 : Int32) = 0 → A) ∧ (¬ ((1 : Int32) = 0) → B)) := fun hB => ⟨fun z => absurd z (by decide), fun _ => hB⟩
  have U : ∀ {A B : Prop}, A → (((0 : Int32) = 0 → A) ∧ (¬ ((0 : Int32) = 0) → B)) := fun hA => ⟨fun _ => hA, fun z => absurd rfl z⟩
  refine ⟨v0, fun f => ⟨v0, fun s => T (T (last (by simp [f, s]))), fun s => ⟨v0, v1, fun z => T (U ⟨by simp [s, z, bI], rfl⟩), fun z => T (T (last (by simp [f, Classical.not_not.mp z])))⟩⟩, fun f => ⟨v0, v1, fun z => ⟨v0, fun s => U ⟨by simp [f, z, bI], rfl⟩, fun s => ⟨v0, v1, fun z2 => U ⟨by simp [f, z, bI], rfl⟩, fun z2 => U ⟨by simp [f, z, bI], rfl⟩⟩⟩, fun z => ⟨v0, fun s => T (T (last (by simp [s, Classical.not_not.mp z]))), fun s => ⟨v0, v1, fun z2 => T (U ⟨by simp [s, z2, bI], rfl⟩), fun z2 => T (T (last (by simp [Classical.not_not.mp z, Classical.not_not.mp z2])))⟩⟩⟩⟩
def sT (a b : Nat) : Bool := a == 61 || sM a b
theorem sM_T : ∀ x y, sT x y = false → sM x y = false := by intro x y h; simp [sT] at h; exact h.2
theorem sT_ms : ∀ a j, a = 43 ∨ a = 44 ∨ a = 45 ∨ (a = 42 ∧ j < 6) → sT a j = false := by
  rintro a j (rfl | rfl | rfl | ⟨rfl, hj⟩)
  · rfl
  · rfl
  · rfl
  · simp [sT, sM]; omega
theorem sT_mm : ∀ a j, a = 46 ∨ a = 47 ∨ a = 48 ∨ a = 49 → sT a j = false := by
  rintro a j (rfl | rfl | rfl | rfl) <;> rfl
theorem HasM.fr {P : Nat → Nat → Bool} {h h' : zH} {L : List LT} (hL : HasM h L) (hf : Fr P h h') (hP : P 42 21 = false ∧ ∀ a j, a = 57 ∨ a = 58 ∨ a = 59 ∨ a = 60 → P a j = false) : HasM h' L := ⟨by rw [hf 42 21 hP.1]; exact hL.1, fun j q hq => by
  rw [hf 57 _ (hP.2 57 _ (Or.inl rfl)), hf 58 _ (hP.2 58 _ (Or.inr (Or.inl rfl))), hf 59 _ (hP.2 59 _ (Or.inr (Or.inr (Or.inl rfl)))), hf 60 _ (hP.2 60 _ (Or.inr (Or.inr (Or.inr rfl))))]
  exact hL.2 j q hq⟩
def s61 (a _b : Nat) : Bool := a == 61
theorem s61_h : s61 42 21 = false ∧ ∀ a j, a = 57 ∨ a = 58 ∨ a = 59 ∨ a = 60 → s61 a j = false := ⟨rfl, by rintro a j (rfl | rfl | rfl | rfl) <;> rfl⟩
theorem s61_T : ∀ x y, sT x y = false → s61 x y = false := by intro x y h; simp [sT] at h; simp [s61, h.1]
section MKM
variable {t n w : Nat → Nat} {f sk nm : Nat} {sw : Int32} {mk : Nat → LT}
def MA (t n w : Nat → Nat) (f sk nm : Nat) (sw : Int32) (mk : Nat → LT) (h : zH) : Prop := MS h t f n w sk sw ∧ RM h t n w ∧ MM h mk nm
theorem MA.fr {h h' : zH} (hb : MA t n w f sk nm sw mk h) (hf : Fr sT h h') : MA t n w f sk nm sw mk h' := ⟨hb.1.fr hf sT_ms, hb.2.1.fr hf (fun _ => rfl), hb.2.2.fr hf rfl sT_mm⟩
set_option maxHeartbeats 4000000 in
set_option maxRecDepth 100000 in
theorem m_layMet {h : zH} (hb : MA t n w f sk nm sw mk h) {hh : Nat} (hh9 : hh ≤ 900) : ∃ h', R_X8_layMet [.ref 42, .int (nI hh)] h none h' ∧ (∀ c, c < 16 → h'.1 61 c = nI (metN t n w sk sw mk nm c hh)) ∧ Fr sT h h' := by
  have h12 := hb.2.2.1
  have key : ∀ (d c : Nat) (h1 : zH), c + d = 16 → Fr sT h h1 → (∀ c', c' < c → h1.1 61 c' = nI (metN t n w sk sw mk nm c' hh)) → ∃ h', zG M_X8_layMet (fun r1 h2 => r1 = none ∧ h2 = h') (zat M_X8_layMet 2) [some (.ref 42), some (.int (nI hh)), some (.int (nI c)), none, none] [] h1 ∧ (∀ c, c < 16 → h'.1 61 c = nI (metN t n w sk sw mk nm c hh)) ∧ Fr sT h h' := by
    intro d
    induction d with
    | zero =>
      intro c h1 hc hf hd
      have : c = 16 := by omega
      subst this
      exact ⟨h1, t_X8_layMet_2 _ _ _ _ ⟨fun _ => ⟨rfl, rfl⟩, fun z => absurd (by decide) z⟩, hd, hf⟩
    | succ d ih =>
      intro c h1 hc hf hd
      have h16 : ¬ ((16 : Int32) ≤ nI c) := by rw [q16, nI_leI (by omega) (by omega)]; omega
      have hb1 := hb.fr hf
      obtain ⟨h2, r1, hL, r2⟩ := m_layLights hb1.1 hb1.2.1 (cause := c) (hh := hh) (by omega) hh9
      have hlen : (LTS t n w sk sw c hh).length ≤ 7 := LTS_len (hb.1.2.1.1 _ (by omega)).1
      have vc : vp_in (nI c) 16 := vp_in_nI (by omega) (by omega)
      have hd2 : ∀ c', c' < c → h2.1 61 c' = nI (metN t n w sk sw mk nm c' hh) := fun c' hc' => by rw [r2 61 c' rfl]; exact hd c' hc'
      have hmet : metN t n w sk sw mk nm c hh = bm (fun m => anyM (LTS t n w sk sw c hh) (mk m)) nm := rfl
      generalize LTS t n w sk sw c hh = L at *
      -- the marks
      have marks : ∀ (e m : Nat) (h3 : zH), m + e = nm → Fr s61 h2 h3 → (∀ c', c' < c → h3.1 61 c' = nI (metN t n w sk sw mk nm c' hh)) → h3.1 61 c = nI (bm (fun m' => decide (m' < m) && anyM L (mk m')) nm) → ∃ h', zG M_X8_layMet (fun r1 h2 => r1 = none ∧ h2 = h') (zat M_X8_layMet 23) [some (.ref 42), some (.int (nI hh)), some (.int (nI c)), some (.int (nI m)), none] [] h3 ∧ (∀ c, c < 16 → h'.1 61 c = nI (metN t n w sk sw mk nm c hh)) ∧ Fr sT h h' := by
        intro e
        induction e with
        | zero =>
          intro m h3 hm hf3 hd3 hc3
          have : m = nm := by omega
          subst this
          have hf4 : Fr sT h h3 := (hf.tr (r2.wk sM_T)).tr (hf3.wk s61_T)
          have hb3 := hb.fr hf4
          obtain ⟨h', g1, g2⟩ := ih (c + 1) h3 (by omega) hf4 (fun c' hc' => by
            by_cases ec : c' = c
            · subst ec
              rw [hc3, hmet, bm_congr (p := fun m' => decide (m' < m) && anyM L (mk m')) (q := fun m' => anyM L (mk m')) (fun i hi => by simp [hi])]
            · exact hd3 c' (by omega))
          refine ⟨h', t_X8_layMet_23 _ _ _ _ _ ⟨fun _ => by rw [nI_1]; exact g1, fun z => absurd ?_ z⟩, g2⟩
          rw [hb3.2.2.2.1]; exact nI_le (Nat.le_refl _) (by omega)
        | succ e ih2 =>
          intro m h3 hm hf3 hd3 hc3
          have hb3 := hb.fr ((hf.tr (r2.wk sM_T)).tr (hf3.wk s61_T))
          have hout : ¬ (h3.1 42 8 ≤ nI m) := by rw [hb3.2.2.2.1, nI_leI (by omega) (by omega)]; omega
          -- the lights
          have lights : ∀ (g j : Nat) (h4 : zH), j + g = L.length → Fr s61 h2 h4 → (∀ c', c' < c → h4.1 61 c' = nI (metN t n w sk sw mk nm c' hh)) → h4.1 61 c = nI (bm (fun m' => (decide (m' < m) && anyM L (mk m')) || (decide (m' = m) && anyM (L.take j) (mk m'))) nm) → ∃ h', zG M_X8_layMet (fun r1 h2 => r1 = none ∧ h2 = h') (zat M_X8_layMet 34) [some (.ref 42), some (.int (nI hh)), some (.int (nI c)), some (.int (nI m)), some (.int (nI j))] [] h4 ∧ (∀ c, c < 16 → h'.1 61 c = nI (metN t n w sk sw mk nm c hh)) ∧ Fr sT h h' := by
            intro g
            induction g with
            | zero =>
              intro j h4 hj hf4 hd4 hc4
              have : j = L.length := by omega
              subst this
              have hL4 := hL.fr hf4 s61_h
              obtain ⟨h', g1, g2⟩ := ih2 (m + 1) h4 (by omega) hf4 hd4 (by
                rw [hc4, List.take_length]
                congr 1
                apply bm_congr
                intro i hi
                by_cases h1 : i < m
                · simp [h1, show i < m + 1 by omega, show i ≠ m by omega]
                · by_cases h2 : i = m
                  · simp [h2]
                  · simp [h1, h2, show ¬ i < m + 1 by omega])
              refine ⟨h', t_X8_layMet_34 _ _ _ _ _ _ ⟨fun _ => by rw [nI_1]; exact g1, fun z => absurd ?_ z⟩, g2⟩
              rw [hL4.1]; exact nI_le (Nat.le_refl _) (by omega)
            | succ g ih3 =>
              intro j h4 hj hf4 hd4 hc4
              obtain ⟨l, hl⟩ : ∃ l, L[j]? = some l := ⟨L[j], List.getElem?_eq_getElem (by omega)⟩
              have hL4 := hL.fr hf4 s61_h
              have hb4 := hb.fr ((hf.tr (r2.wk sM_T)).tr (hf4.wk s61_T))
              have upd : ∀ b, meetsB l (mk m) = b → bm (fun m' => (decide (m' < m) && anyM L (mk m')) || (decide (m' = m) && anyM (L.take (j + 1)) (mk m'))) nm = bm (fun m' => (decide (m' < m) && anyM L (mk m')) || (decide (m' = m) && anyM (L.take j) (mk m'))) nm ||| (if b then 2 ^ m else 0) := by
                intro b hb
                refine bm_or (by omega) (fun i hi => ?_) ?_
                · simp [hi]
                · simp [anyM_take hl, hb]
              have store : ∀ v : Nat, nI v = nI (bm (fun m' => (decide (m' < m) && anyM L (mk m')) || (decide (m' = m) && anyM (L.take (j + 1)) (mk m'))) nm) → ∃ h', zG M_X8_layMet (fun r1 h2 => r1 = none ∧ h2 = h') (zat M_X8_layMet 34) [some (.ref 42), some (.int (nI hh)), some (.int (nI c)), some (.int (nI m)), some (.int (nI (j + 1)))] [] (zsi h4 61 c (nI v)) ∧ (∀ c, c < 16 → h'.1 61 c = nI (metN t n w sk sw mk nm c hh)) ∧ Fr sT h h' := fun v hv =>
                ih3 (j + 1) _ (by omega) (hf4.si rfl) (fun c' hc' => by rw [zr_nj (by omega)]; exact hd4 c' hc') (by rw [zr_eq]; exact hv)
              have hin : ¬ (h4.1 42 21 ≤ nI j) := by rw [hL4.1, nI_leI (by omega) (by omega)]; omega
              cases hbm : meetsB l (mk m) with
              | false =>
                obtain ⟨h', g1, g2⟩ := store (bm (fun m' => (decide (m' < m) && anyM L (mk m')) || (decide (m' = m) && anyM (L.take j) (mk m'))) nm) (by rw [upd false hbm]; simp)
                refine ⟨h', t_X8_layMet_34 _ _ _ _ _ _ ⟨fun z => absurd z hin, fun _ => ⟨vc, _, _, m_meets hL4 hlen hb4.2.2 hl (m := m) (by omega), fun _ => ⟨vc, ?_⟩, fun z => absurd (by rw [hbm]; rfl) z⟩⟩, g2⟩
                rw [nI_clamp (by omega), hc4, n_or0, nI_1]
                exact g1
              | true =>
                obtain ⟨h', g1, g2⟩ := store (bm (fun m' => (decide (m' < m) && anyM L (mk m')) || (decide (m' = m) && anyM (L.take j) (mk m'))) nm ||| 2 ^ m) (by rw [upd true hbm]; rfl)
                refine ⟨h', t_X8_layMet_34 _ _ _ _ _ _ ⟨fun z => absurd z hin, fun _ => ⟨vc, _, _, m_meets hL4 hlen hb4.2.2 hl (m := m) (by omega), fun z => absurd z (by rw [hbm]; decide), fun _ => ⟨vc, ?_⟩⟩⟩, g2⟩
                rw [nI_clamp (by omega), hc4, n_shl (by omega), n_or, nI_1]
                exact g1
          obtain ⟨h', g1, g2⟩ := lights L.length 0 h3 (by omega) hf3 hd3 (by
            rw [hc3]
            congr 1
            apply bm_congr
            intro i hi
            simp [anyM])
          exact ⟨h', t_X8_layMet_23 _ _ _ _ _ ⟨fun z => absurd z hout, fun _ => g1⟩, g2⟩
      obtain ⟨h', g1, g2⟩ := marks nm 0 (zsi h2 61 c 0) (by omega) (Fr.rf.si rfl) (fun c' hc' => by rw [zr_nj (by omega)]; exact hd2 c' hc') (by
        rw [zr_eq, bm_congr (p := fun m' => decide (m' < 0) && anyM L (mk m')) (q := fun _ => false) (fun i hi => by simp)]
        have e0 : bm (fun _ => false) nm = 0 := by
          apply Nat.eq_of_testBit_eq; intro i; rw [bm_bit]; simp
        rw [e0]; rfl)
      refine ⟨h', t_X8_layMet_2 _ _ _ _ ⟨fun z => absurd z h16, fun _ => ⟨_, r1, vc, ?_⟩⟩, g2⟩
      rw [nI_clamp (by omega)]
      exact g1
  obtain ⟨h', g1, g2⟩ := key 16 0 h (by omega) Fr.rf (fun c' hc' => by omega)
  exact ⟨h', r_X8_layMet _ _ _ _ rfl (t_X8_layMet_0 _ _ _ g1), g2⟩
theorem m_metBy {h : zH} {g : Nat → Nat} (hg : ∀ c, c < 16 → h.1 61 c = nI (g c)) {S : Nat} (hS : S < 65536) : R_X8_metBy [.ref 42, .int (nI S)] h (some (.int (nI (unM S g 16)))) h := by
  refine r_X8_metBy _ _ _ _ ⟨_, rfl⟩ (t_X8_metBy_0 _ _ _ ?_)
  have key : ∀ (d c : Nat), c + d = 16 → zG M_X8_metBy (fun r1 h2 => r1 = some (.int (nI (unM S g 16))) ∧ h2 = h) (zat M_X8_metBy 4) [some (.ref 42), some (.int (nI S)), some (.int (nI (unM S g c))), some (.int (nI c))] [] h := by
    intro d
    induction d with
    | zero =>
      intro c hc
      have : c = 16 := by omega
      subst this
      exact t_X8_metBy_4 _ _ _ _ _ ⟨fun _ => ⟨rfl, rfl⟩, fun z => absurd (by decide) z⟩
    | succ d ih =>
      intro c hc
      have ih2 := ih (c + 1) (by omega)
      rw [unM_s S g c] at ih2
      refine t_X8_metBy_4 _ _ _ _ _ ⟨fun z => ?_, fun _ => ?_⟩
      · rw [q16, nI_leI (by omega) (by omega)] at z; omega
      rw [n_bit (by omega) (by omega), nI_1, n_or0, nI_clamp (by omega), hg c (by omega), n_or]
      refine ⟨fun z => ?_, fun z => ⟨vp_in_nI (by omega) (by omega), ?_⟩⟩
      · rw [if_neg z] at ih2; exact ih2
      · rw [if_pos (Classical.not_not.mp z)] at ih2; exact ih2
  exact key 16 0 (by omega)
theorem m_allMarks {h : zH} (hm : MM h mk nm) : R_X8_allMarks [.ref 42] h (some (.int (nI (2 ^ nm - 1)))) h := by
  refine r_X8_allMarks _ _ _ ⟨_, rfl⟩ (t_X8_allMarks_0 _ _ ⟨?_, rfl⟩)
  rw [hm.2.1, n_all (by have := hm.1; omega)]
theorem metN_lt (t n w : Nat → Nat) (sk : Nat) (sw : Int32) (mk : Nat → LT) (nm c hh : Nat) : metN t n w sk sw mk nm c hh < 2 ^ nm := bm_lt _ _
theorem left_iff {S : Nat} {g : Nat → Nat} (hg : ∀ c, g c < 2 ^ nm) : leftM S g (2 ^ nm - 1) 16 = 0 ↔ unM S g 16 = 2 ^ nm - 1 := by
  have hu := unM_lt (S := S) hg 16
  constructor
  · intro h0
    apply Nat.eq_of_testBit_eq
    intro i
    rw [all_bit]
    have h1 : (leftM S g (2 ^ nm - 1) 16).testBit i = false := by rw [h0]; simp
    rw [leftM_bit, all_bit] at h1
    by_cases hi : i < nm
    · simp only [hi, decide_true, Bool.true_and] at h1 ⊢
      cases hb : (unM S g 16).testBit i <;> simp_all
    · cases hb : (unM S g 16).testBit i with
      | false => simp [hi]
      | true => exact absurd (bit_lt hu hb) hi
  · intro h0
    unfold leftM
    rw [h0, Nat.and_self, Nat.xor_self]
end MKM
end
section
/-! ===== drops ===== -/
theorem rem36 (x : Int32) : (x - x / 3600 * 3600).toInt = x.toInt.tmod 3600 := by
  have h1 := Int32.toInt_lt x
  have h2 := Int32.le_toInt x
  have e : (3600 : Int32).toInt = 3600 := rfl
  have hd : x.toInt.tdiv 3600 * 3600 + x.toInt.tmod 3600 = x.toInt := by
    rw [Int.mul_comm]; exact Int.mul_tdiv_add_tmod x.toInt 3600
  have hm := tmod_bounds (a := x.toInt) (M := 3600) (by omega)
  have hs : (0 ≤ x.toInt → 0 ≤ x.toInt.tmod 3600) ∧ (x.toInt ≤ 0 → x.toInt.tmod 3600 ≤ 0) := by
    constructor
    · intro h; exact Int.tmod_nonneg 3600 h
    · intro h
      have := Int.tmod_nonneg (a := -x.toInt) 3600 (by omega)
      rw [Int.neg_tmod] at this
      omega
  have e2 : (x / 3600).toInt = x.toInt.tdiv 3600 := by
    rw [Int32.toInt_div, e]
    exact Int.bmod_eq_of_le (by omega) (by omega)
  have e3 : (x / 3600 * 3600).toInt = x.toInt.tdiv 3600 * 3600 := by
    rw [Int32.toInt_mul, e, e2]
    exact Int.bmod_eq_of_le (by omega) (by omega)
  rw [Int32.toInt_sub, e3]
  rw [show x.toInt - x.toInt.tdiv 3600 * 3600 = x.toInt.tmod 3600 by omega]
  exact Int.bmod_eq_of_le (by omega) (by omega)
theorem xor_sign (x : Int32) : 0 ≤ x ^^^ 3600 ↔ 0 ≤ x := by
  have key : ∀ y : Int32, 0 ≤ y ↔ y.toBitVec.msb = false := by
    intro y
    rw [Int32.le_iff_toInt_le, show (0 : Int32).toInt = 0 from rfl, BitVec.msb_eq_toInt]
    show 0 ≤ y.toInt ↔ decide (y.toInt < 0) = false
    rw [decide_eq_false_iff_not]; omega
  rw [key, key, Int32.toBitVec_xor, BitVec.msb_xor]
  rw [show (3600 : Int32).toBitVec.msb = false from rfl, Bool.xor_false]
/-- FROM THE SUN -/
def fsN (x : Int32) : Nat := if (x.toInt % 3600).toNat ≤ 1800 then (x.toInt % 3600).toNat else 3600 - (x.toInt % 3600).toNat
theorem fsN_le (x : Int32) : fsN x ≤ 1800 := by unfold fsN; split <;> omega
theorem em_bd (x : Int32) : (x.toInt % 3600).toNat < 3600 := by omega
theorem rem_val (x : Int32) : (0 ≤ x - x / 3600 * 3600 → x - x / 3600 * 3600 = nI (x.toInt % 3600).toNat) ∧ (¬ 0 ≤ x - x / 3600 * 3600 → x - x / 3600 * 3600 + 3600 = nI (x.toInt % 3600).toNat) := by
  have hr := rem36 x
  have hm := tmod_bounds (a := x.toInt) (M := 3600) (by omega)
  have hb := em_bd x
  have ht : x.toInt.tmod 3600 = x.toInt % 3600 ∨ x.toInt.tmod 3600 = x.toInt % 3600 - 3600 := by
    rw [Int.tmod_eq_emod]
    split
    · left; omega
    · right; rfl
  have h1 := Int.emod_nonneg x.toInt (show (3600 : Int) ≠ 0 by omega)
  have h2 := Int.emod_lt_of_pos x.toInt (show (0 : Int) < 3600 by omega)
  constructor
  · intro h0
    rw [Int32.le_iff_toInt_le, hr, show (0 : Int32).toInt = 0 from rfl] at h0
    apply Int32.toInt_inj.mp
    rw [hr, nI_toInt (by omega)]
    omega
  · intro h0
    rw [Int32.le_iff_toInt_le, hr, show (0 : Int32).toInt = 0 from rfl] at h0
    apply Int32.toInt_inj.mp
    rw [Int32.toInt_add, hr, nI_toInt (by omega), show (3600 : Int32).toInt = 3600 from rfl]
    rw [Int.bmod_eq_of_le (by omega) (by omega)]
    omega
theorem fs_fold {r : Nat} (hr : r < 3600) {B : Int32 → Prop} (h : B (nI (if r ≤ 1800 then r else 3600 - r))) : (nI r ≤ 1800 → B (nI r)) ∧ (¬ (nI r ≤ 1800) → B (3600 - nI r)) := by
  rw [q1800, nI_leI (by omega) (by omega)]
  refine ⟨fun z => by rw [if_pos z] at h; exact h, fun z => ?_⟩
  rw [if_neg z] at h
  rw [q3600, pk_sub (by omega)]; exact h
def turnV (b k i sq : Int32) : Int32 := ((2 * i) - (2 * b)) + (k * ((1800 - (2 * b)) + sq))
/-- what goes on after k mirrors -/
def itN (sh x : Nat) : Nat → Nat
  | 0 => x
  | k + 1 => itN sh x k * sh / 100
def liN (i : Nat) : Nat := i * (900 - i)
def ouN (sh k i : Nat) : Nat := itN sh (liN i - liN i * sh / 100) k - itN sh (liN i - liN i * sh / 100) k * sh / 100
theorem liN_le {i : Nat} (hi : i ≤ 900) : liN i ≤ 810000 := by
  have : i * (900 - i) ≤ 900 * 900 := Nat.mul_le_mul hi (by omega)
  unfold liN; omega
theorem sh_le {x sh : Nat} (hs : sh ≤ 100) : x * sh / 100 ≤ x := by
  have : x * sh ≤ x * 100 := Nat.mul_le_mul_left x hs
  omega
theorem itN_le {sh x : Nat} (hs : sh ≤ 100) : ∀ k, itN sh x k ≤ x
  | 0 => Nat.le_refl _
  | k + 1 => Nat.le_trans (sh_le hs) (itN_le hs k)
theorem ouN_le {sh k i : Nat} (hs : sh ≤ 100) (hi : i ≤ 900) : ouN sh k i ≤ 810000 := by
  have h1 := liN_le hi
  have h2 := itN_le (x := liN i - liN i * sh / 100) hs k
  unfold ouN; omega
theorem tb_val {x sh : Nat} (hx : x ≤ 810000) (hs : sh ≤ 100) : nI x * nI sh / 100 = nI (x * sh / 100) := by
  have : x * sh ≤ 810000 * 100 := Nat.mul_le_mul hx hs
  rw [pk_mul, q100, pk_div (by omega) (by omega) (by omega)]
theorem li_val {i : Nat} (hi : i ≤ 900) : nI i * (900 - nI i) = nI (liN i) := by rw [q900, pk_sub hi, pk_mul]; rfl
/-- the class's drops, the model's -/
def DC (h : zH) (t : Nat → Nat) (f sh : Nat) (sq : Int32) : Prop := BT h t f ∧ sh ≤ 100 ∧ h.1 3 2 = nI sh ∧ h.1 3 1 = sq
def DM (h : zH) (t : Nat → Nat) (f sh : Nat) (sq : Int32) : Prop := BM h t f ∧ sh ≤ 100 ∧ h.1 42 3 = nI sh ∧ h.1 42 2 = sq
theorem DC.of {h h' : zH} {t : Nat → Nat} {f sh : Nat} {sq : Int32} (hd : DC h t f sh sq) (e : h'.1 = h.1) : DC h' t f sh sq := by
  unfold DC BT at *; rw [e]; exact hd
theorem DM.of {h h' : zH} {t : Nat → Nat} {f sh : Nat} {sq : Int32} (hd : DM h t f sh sq) (e : h'.1 = h.1) : DM h' t f sh sq := by
  unfold DM BM at *; rw [e]; exact hd
section DR
variable {t : Nat → Nat} {f sh : Nat} {sq : Int32}
def tuV (t : Nat → Nat) (f : Nat) (sq : Int32) (k c i : Nat) : Int32 := turnV (nI (bn t f 0 c i)) (nI k) (nI i) sq
theorem c_dturn {h : zH} (hd : DC h t f sh sq) {k c i : Nat} (hc : c ≤ 3) (hi : i ≤ 900) : R_X3_turnOf [.ref 26, .int (nI k), .int (nI c), .int (nI i)] h (some (.int (tuV t f sq k c i))) h := by
  refine r_X3_turnOf _ _ _ _ _ _ ⟨_, rfl⟩ (t_X3_turnOf_0 _ _ _ _ _ ⟨_, _, c_bent hd.1 (s := 0) (by omega) hc hi, vp_in_nI (n := 1) (by omega) (by omega), ?_, rfl⟩)
  rw [show (1 : Int32).toNatClampNeg = 1 from rfl, hd.2.2.2]; rfl
theorem m_dturn {h : zH} (hd : DM h t f sh sq) {k c i : Nat} (hc : c ≤ 3) (hi : i ≤ 900) : R_X8_turns [.ref 42, .int (nI k), .int (nI c), .int (nI i)] h (some (.int (tuV t f sq k c i))) h := by
  refine r_X8_turns _ _ _ _ _ _ ⟨_, rfl⟩ (t_X8_turns_0 _ _ _ _ _ ⟨_, _, m_bent hd.1 (s := 0) (by omega) hc hi, ?_, rfl⟩)
  rw [hd.2.2.2]; rfl
theorem c_floorMod {h : zH} (x : Int32) : R_J9_floorMod_7cf53 [.int x, .int 3600] h (some (.int (nI (x.toInt % 3600).toNat))) h := by
  obtain ⟨r1, r2⟩ := rem_val x
  have hr := rem36 x
  refine r_J9_floorMod_7cf53 _ _ _ _ _ ⟨_, rfl⟩ (t_J9_floorMod_7cf53_0 _ _ _ _ ⟨by decide, ?_⟩)
  rw [xor_sign]
  refine ⟨fun z => ⟨?_, rfl⟩, fun z => ⟨fun z2 => ⟨?_, rfl⟩, fun z2 => ⟨?_, rfl⟩⟩⟩
  · rw [r1]
    rw [Int32.le_iff_toInt_le, hr, show (0 : Int32).toInt = 0 from rfl]
    exact Int.tmod_nonneg 3600 (Int32.le_iff_toInt_le.mp z)
  · rw [r1 (by rw [z2]; decide)]
  · rw [r2]
    intro z3
    rw [Int32.le_iff_toInt_le, hr, show (0 : Int32).toInt = 0 from rfl] at z3
    rw [Int32.le_iff_toInt_le, show (0 : Int32).toInt = 0 from rfl] at z
    have h0 := Int.tmod_nonneg (a := -x.toInt) 3600 (by omega)
    rw [Int.neg_tmod] at h0
    refine z2 (Int32.toInt_inj.mp ?_)
    rw [hr, show (0 : Int32).toInt = 0 from rfl]; omega
theorem c_fromSun {h : zH} (hd : DC h t f sh sq) {k c i : Nat} (hc : c ≤ 3) (hi : i ≤ 900) : R_X3_fromSun [.ref 26, .int (nI k), .int (nI c), .int (nI i)] h (some (.int (nI (fsN (tuV t f sq k c i))))) h := by
  refine r_X3_fromSun _ _ _ _ _ _ ⟨_, rfl⟩ (t_X3_fromSun_0 _ _ _ _ _ ⟨_, _, c_dturn hd hc hi, _, _, c_floorMod _, ?_⟩)
  exact fs_fold (em_bd _) (B := fun v => some (Value.int v) = some (Value.int (nI (fsN (tuV t f sq k c i)))) ∧ h = h) ⟨rfl, rfl⟩
theorem m_from {h : zH} (hd : DM h t f sh sq) {k c i : Nat} (hc : c ≤ 3) (hi : i ≤ 900) : R_X8_from [.ref 42, .int (nI k), .int (nI c), .int (nI i)] h (some (.int (nI (fsN (tuV t f sq k c i))))) h := by
  obtain ⟨r1, r2⟩ := rem_val (tuV t f sq k c i)
  refine r_X8_from _ _ _ _ _ _ ⟨_, rfl⟩ (t_X8_from_0 _ _ _ _ _ ⟨_, _, m_dturn hd hc hi, by decide, fun z => ?_, fun z => ?_⟩)
  · rw [r1 z]
    exact fs_fold (em_bd _) (B := fun v => some (Value.int v) = some (Value.int (nI (fsN (tuV t f sq k c i)))) ∧ h = h) ⟨rfl, rfl⟩
  · rw [r2 z]
    exact fs_fold (em_bd _) (B := fun v => some (Value.int v) = some (Value.int (nI (fsN (tuV t f sq k c i)))) ∧ h = h) ⟨rfl, rfl⟩
theorem c_lightIn {h : zH} {i : Nat} (hi : i ≤ 900) : R_X3_lightIn [.ref 26, .int (nI i)] h (some (.int (nI (liN i)))) h := by
  refine r_X3_lightIn _ _ _ _ ⟨_, rfl⟩ (t_X3_lightIn_0 _ _ _ ⟨?_, rfl⟩)
  rw [li_val hi]
theorem c_thrownBack {h : zH} (hd : DC h t f sh sq) {x : Nat} (hx : x ≤ 810000) : R_X3_thrownBack [.ref 26, .int (nI x)] h (some (.int (nI (x * sh / 100)))) h := by
  refine r_X3_thrownBack _ _ _ _ ⟨_, rfl⟩ (t_X3_thrownBack_0 _ _ _ ⟨vp_in_nI (n := 2) (by omega) (by omega), by decide, ?_, rfl⟩)
  rw [show (2 : Int32).toNatClampNeg = 2 from rfl, hd.2.2.1, tb_val hx hd.2.1]
theorem c_lightOut {h : zH} (hd : DC h t f sh sq) {k i : Nat} (hk : k ≤ 5) (hi : i ≤ 900) : R_X3_lightOut [.ref 26, .int (nI k), .int (nI i)] h (some (.int (nI (ouN sh k i)))) h := by
  have hl := liN_le hi
  have hs := sh_le (x := liN i) hd.2.1
  refine r_X3_lightOut _ _ _ _ _ ⟨_, rfl⟩ (t_X3_lightOut_0 _ _ _ _ ⟨_, _, c_lightIn hi, _, _, c_thrownBack hd hl, ?_⟩)
  rw [pk_sub hs]
  have key : ∀ (d j : Nat), j + d = k → zG M_X3_lightOut (fun r1 h1 => r1 = some (.int (nI (ouN sh k i))) ∧ h1 = h) (zat M_X3_lightOut 17) [some (.ref 26), some (.int (nI k)), some (.int (nI i)), some (.int (nI (itN sh (liN i - liN i * sh / 100) j))), some (.int (nI j))] [] h := by
    intro d
    induction d with
    | zero =>
      intro j hj
      have : j = k := by omega
      subst this
      have h2 := itN_le (x := liN i - liN i * sh / 100) hd.2.1 j
      refine t_X3_lightOut_17 _ _ _ _ _ _ ⟨fun _ => ⟨_, _, c_thrownBack hd (by omega), ?_, rfl⟩, fun z => absurd (nI_le (Nat.le_refl _) (by omega)) z⟩
      rw [pk_sub (sh_le hd.2.1)]; rfl
    | succ d ih =>
      intro j hj
      have h2 := itN_le (x := liN i - liN i * sh / 100) hd.2.1 j
      refine t_X3_lightOut_17 _ _ _ _ _ _ ⟨fun z => ?_, fun _ => ⟨_, _, c_thrownBack hd (by omega), ?_⟩⟩
      · rw [nI_leI (by omega) (by omega)] at z; omega
      · rw [nI_1]; exact ih (j + 1) (by omega)
  exact key k 0 (by omega)
theorem m_out {h : zH} (hd : DM h t f sh sq) {k i : Nat} (hk : k ≤ 5) (hi : i ≤ 900) : R_X8_out [.ref 42, .int (nI k), .int (nI i)] h (some (.int (nI (ouN sh k i)))) h := by
  have hl := liN_le hi
  have hs := sh_le (x := liN i) hd.2.1
  refine r_X8_out _ _ _ _ _ ⟨_, rfl⟩ (t_X8_out_0 _ _ _ _ ⟨by decide, ?_⟩)
  rw [li_val hi, hd.2.2.1, tb_val hl hd.2.1, pk_sub hs]
  have key : ∀ (d j : Nat), j + d = k → zG M_X8_out (fun r1 h1 => r1 = some (.int (nI (ouN sh k i))) ∧ h1 = h) (zat M_X8_out 23) [some (.ref 42), some (.int (nI k)), some (.int (nI i)), some (.int (nI (itN sh (liN i - liN i * sh / 100) j))), some (.int (nI j))] [] h := by
    intro d
    induction d with
    | zero =>
      intro j hj
      have : j = k := by omega
      subst this
      have h2 := itN_le (x := liN i - liN i * sh / 100) hd.2.1 j
      refine t_X8_out_23 _ _ _ _ _ _ ⟨fun _ => ⟨by decide, ?_, rfl⟩, fun z => absurd (nI_le (Nat.le_refl _) (by omega)) z⟩
      rw [hd.2.2.1, tb_val (by omega) hd.2.1, pk_sub (sh_le hd.2.1)]; rfl
    | succ d ih =>
      intro j hj
      have h2 := itN_le (x := liN i - liN i * sh / 100) hd.2.1 j
      refine t_X8_out_23 _ _ _ _ _ _ ⟨fun z => ?_, fun _ => ⟨by decide, ?_⟩⟩
      · rw [nI_leI (by omega) (by omega)] at z; omega
      · rw [nI_1, hd.2.2.1, tb_val (by omega) hd.2.1]; exact ih (j + 1) (by omega)
  exact key k 0 (by omega)
/-! maps: the first n rays -/
def skN (t : Nat → Nat) (f sh : Nat) (sq : Int32) (k c : Nat) : Nat → Nat → Nat
  | 0, _ => 0
  | n + 1, d => skN t f sh sq k c n d + (if fsN (tuV t f sq k c (5 * n)) / 10 = d then ouN sh k (5 * n) else 0)
theorem skN_s (t : Nat → Nat) (f sh : Nat) (sq : Int32) (k c n d : Nat) : skN t f sh sq k c (n + 1) d = skN t f sh sq k c n d + (if fsN (tuV t f sq k c (5 * n)) / 10 = d then ouN sh k (5 * n) else 0) := rfl
theorem skN_le (hs : sh ≤ 100) {k c : Nat} : ∀ n, n ≤ 181 → ∀ d, skN t f sh sq k c n d ≤ 810000 * n
  | 0, _, d => by simp [skN]
  | n + 1, hn, d => by
    have ih := skN_le hs (k := k) (c := c) n (by omega) d
    have h1 := ouN_le (k := k) hs (i := 5 * n) (by omega)
    rw [skN_s]
    split <;> omega
theorem zl_ne {h : zH} {k j a b : Nat} {x : Int64} (hn : a ≠ k) : (zsl h k j x).2 a b = h.2 a b := by simp [zsl, hn]
theorem zl_nj {h : zH} {k j a b : Nat} {x : Int64} (hn : b ≠ j) : (zsl h k j x).2 a b = h.2 a b := by simp [zsl, hn]
theorem zl_eq {h : zH} {k j : Nat} {x : Int64} : (zsl h k j x).2 k j = x := by simp [zsl]
theorem zl_1 {h : zH} {k j : Nat} {x : Int64} : (zsl h k j x).1 = h.1 := rfl
/-- only the row r of the longs has changed -/
def FrL (r : Nat) (h h' : zH) : Prop := h'.1 = h.1 ∧ ∀ a, a ≠ r → ∀ b, h'.2 a b = h.2 a b
theorem FrL.rf {r : Nat} {h : zH} : FrL r h h := ⟨rfl, fun _ _ _ => rfl⟩
theorem FrL.sl {r : Nat} {h h' : zH} (hf : FrL r h h') (j : Nat) (x : Int64) : FrL r h (zsl h' r j x) := ⟨hf.1, fun a ha b => by rw [zl_ne ha]; exact hf.2 a ha b⟩
/-- the place of most light among the first n, the lowest -/
def agN (S : Nat → Nat) : Nat → Nat
  | 0 => 0
  | 1 => 0
  | n + 2 => if S (agN S (n + 1)) < S (n + 1) then n + 1 else agN S (n + 1)
theorem agN_s (S : Nat → Nat) (n : Nat) (hn : 1 ≤ n) : agN S (n + 1) = if S (agN S n) < S n then n else agN S n := by
  obtain ⟨m, rfl⟩ : ∃ m, n = m + 1 := ⟨n - 1, by omega⟩
  rfl
theorem agN_lt (S : Nat → Nat) : ∀ n, 1 ≤ n → agN S n < n
  | 0, h => by omega
  | 1, _ => by simp [agN]
  | n + 2, _ => by
    have := agN_lt S (n + 1) (by omega)
    unfold agN
    split <;> omega
def bwV (S : Nat → Nat) : Int32 := if 0 < S (agN S 181) then nI (agN S 181) else -4
theorem c_filla {h : zH} : ∃ h', R_J7_fill_d0a16 [.ref 27, .long 0] h none h' ∧ FrL 27 h h' ∧ ∀ d, d < 181 → h'.2 27 d = lN 0 := by
  have key : ∀ (m i : Nat) (h1 : zH), i + m = 181 → FrL 27 h h1 → (∀ d, d < i → h1.2 27 d = lN 0) → ∃ h', zG M_J7_fill_d0a16 (fun r1 h2 => r1 = none ∧ h2 = h') (zat M_J7_fill_d0a16 6) [some (.ref 27), some (.long 0), none, some (.int (nI i)), some (.int 181)] [] h1 ∧ FrL 27 h h' ∧ ∀ d, d < 181 → h'.2 27 d = lN 0 := by
    intro m
    induction m with
    | zero =>
      intro i h1 hi hf hd
      have : i = 181 := by omega
      subst this
      exact ⟨h1, t_J7_fill_d0a16a_6 _ _ _ _ _ ⟨fun _ => ⟨rfl, rfl⟩, fun z => absurd (by decide) z⟩, hf, hd⟩
    | succ m ih =>
      intro i h1 hi hf hd
      obtain ⟨h', g1, g2⟩ := ih (i + 1) (zsl h1 27 i 0) (by omega) (hf.sl _ _) (fun d hd2 => by
        by_cases e : d = i
        · subst e; rw [zl_eq]; rfl
        · rw [zl_nj e]; exact hd d (by omega))
      refine ⟨h', t_J7_fill_d0a16a_6 _ _ _ _ _ ⟨fun z => ?_, fun _ => ⟨vp_in_nI (by omega) (by omega), ?_⟩⟩, g2⟩
      · rw [q181, nI_leI (by omega) (by omega)] at z; omega
      · rw [nI_clamp (by omega), nI_1]; exact g1
  obtain ⟨h', g1, g2⟩ := key 181 0 h (by omega) FrL.rf (fun d hd => by omega)
  exact ⟨h', r_J7_fill_d0a16a _ _ _ _ rfl (t_J7_fill_d0a16a_0 _ _ _ g1), g2⟩
theorem c_fillSkya {h : zH} (hd : DC h t f sh sq) {k c : Nat} (hk : k ≤ 5) (hc : c ≤ 3) : ∃ h', R_X3_fillSky [.ref 26, .ref 27, .int (nI k), .int (nI c)] h none h' ∧ FrL 27 h h' ∧ ∀ d, d < 181 → h'.2 27 d = lN (skN t f sh sq k c 181 d) := by
  obtain ⟨h0, r0, f0, z0⟩ := c_filla (h := h)
  have key : ∀ (m n : Nat) (h1 : zH), n + m = 181 → FrL 27 h h1 → (∀ d, d < 181 → h1.2 27 d = lN (skN t f sh sq k c n d)) → ∃ h', zG M_X3_fillSky (fun r1 h2 => r1 = none ∧ h2 = h') (zat M_X3_fillSky 8) [some (.ref 26), some (.ref 27), some (.int (nI k)), some (.int (nI c)), some (.int (nI (5 * n)))] [] h1 ∧ FrL 27 h h' ∧ ∀ d, d < 181 → h'.2 27 d = lN (skN t f sh sq k c 181 d) := by
    intro m
    induction m with
    | zero =>
      intro n h1 hn hf hs
      have : n = 181 := by omega
      subst this
      exact ⟨h1, t_X3_fillSkya_8 _ _ _ _ _ ⟨fun _ => ⟨rfl, rfl⟩, fun z => absurd (by decide) z⟩, hf, hs⟩
    | succ m ih =>
      intro n h1 hn hf hs
      have hd1 := hd.of hf.1
      have hfs := fsN_le (tuV t f sq k c (5 * n))
      have hou := ouN_le (k := k) hd.2.1 (i := 5 * n) (by omega)
      have vp : vp_in (nI (fsN (tuV t f sq k c (5 * n)) / 10)) 181 := vp_in_nI (by omega) (by omega)
      obtain ⟨h', g1, g2⟩ := ih (n + 1) (zsl h1 27 (fsN (tuV t f sq k c (5 * n)) / 10) (lN (skN t f sh sq k c n (fsN (tuV t f sq k c (5 * n)) / 10) + ouN sh k (5 * n)))) (by omega) (hf.sl _ _) (fun d hd2 => by
        rw [skN_s]
        by_cases e : d = fsN (tuV t f sq k c (5 * n)) / 10
        · subst e; rw [zl_eq, if_pos rfl]
        · rw [zl_nj e, if_neg (Ne.symm e), Nat.add_zero]; exact hs d hd2)
      refine ⟨h', t_X3_fillSkya_8 _ _ _ _ _ ⟨fun z => ?_, fun _ => ⟨_, _, c_fromSun hd1 hc (by omega), by decide, ?_⟩⟩, g2⟩
      · rw [q900, nI_ltI (by omega) (by omega)] at z; omega
      rw [q10, pk_div (by omega) (by omega) (by omega), nI_clamp (by omega), q5, nI_add, show 5 * n + 5 = 5 * (n + 1) by omega]
      refine ⟨vp, _, _, c_lightOut hd1 hk (by omega), vp, ?_⟩
      rw [hs _ (by omega), nI_l (by omega), lN_add]
      exact g1
  obtain ⟨h', g1, g2⟩ := key 181 0 h0 (by omega) f0 (fun d hd => by rw [z0 d hd]; rfl)
  exact ⟨h', r_X3_fillSkya _ _ _ _ _ rfl (t_X3_fillSkya_0 _ _ _ _ ⟨_, r0, g1⟩), g2⟩
theorem c_brightesta {h : zH} {S : Nat → Nat} (hS : ∀ d, d < 181 → S d < 2 ^ 31 ∧ h.2 27 d = lN (S d)) : R_X3_brightest [.ref 26, .ref 27] h (some (.int (bwV S))) h := by
  refine r_X3_brightesta _ _ _ ⟨_, rfl⟩ (t_X3_brightesta_0 _ _ ?_)
  have key : ∀ (m n : Nat), 1 ≤ n → n + m = 181 → zG M_X3_brightest (fun r1 h1 => r1 = some (.int (bwV S)) ∧ h1 = h) (zat M_X3_brightest 4) [some (.ref 26), some (.ref 27), some (.int (nI (agN S n))), some (.int (nI n))] [] h := by
    intro m
    induction m with
    | zero =>
      intro n h1 hn
      have : n = 181 := by omega
      subst this
      have ha := agN_lt S 181 (by omega)
      obtain ⟨s1, s2⟩ := hS _ ha
      refine t_X3_brightesta_4 _ _ _ _ ⟨fun _ => ⟨vp_in_nI ha (by omega), ?_⟩, fun z => absurd (by decide) z⟩
      rw [nI_clamp (by omega), s2, lg_cmp_le, show (0 : Int64) = lN 0 from rfl, lN_le s1 (by omega)]
      refine ⟨fun z => ⟨?_, rfl⟩, fun z => ⟨?_, rfl⟩⟩
      · rw [bwV, if_neg (by omega)]
      · rw [bwV, if_pos (by omega)]
    | succ m ih =>
      intro n h1 hn
      have ha := agN_lt S n h1
      obtain ⟨s1, s2⟩ := hS (agN S n) (by omega)
      obtain ⟨s3, s4⟩ := hS n (by omega)
      have ih2 := ih (n + 1) (by omega) (by omega)
      rw [agN_s S n h1] at ih2
      refine t_X3_brightesta_4 _ _ _ _ ⟨fun z => ?_, fun _ => ⟨vp_in_nI (by omega) (by omega), vp_in_nI (by omega) (by omega), ?_⟩⟩
      · rw [q181, nI_leI (by omega) (by omega)] at z; omega
      rw [nI_clamp (by omega), nI_clamp (by omega), s2, s4, lg_cmp_le, lN_le s3 s1, nI_1]
      refine ⟨fun z => ?_, fun z => ?_⟩
      · rw [if_neg (by omega)] at ih2; exact ih2
      · rw [if_pos (by omega)] at ih2; exact ih2
  exact key 180 1 (by omega) (by omega)
theorem c_fillb {h : zH} : ∃ h', R_J7_fill_d0a16 [.ref 28, .long 0] h none h' ∧ FrL 28 h h' ∧ ∀ d, d < 181 → h'.2 28 d = lN 0 := by
  have key : ∀ (m i : Nat) (h1 : zH), i + m = 181 → FrL 28 h h1 → (∀ d, d < i → h1.2 28 d = lN 0) → ∃ h', zG M_J7_fill_d0a16 (fun r1 h2 => r1 = none ∧ h2 = h') (zat M_J7_fill_d0a16 6) [some (.ref 28), some (.long 0), none, some (.int (nI i)), some (.int 181)] [] h1 ∧ FrL 28 h h' ∧ ∀ d, d < 181 → h'.2 28 d = lN 0 := by
    intro m
    induction m with
    | zero =>
      intro i h1 hi hf hd
      have : i = 181 := by omega
      subst this
      exact ⟨h1, t_J7_fill_d0a16b_6 _ _ _ _ _ ⟨fun _ => ⟨rfl, rfl⟩, fun z => absurd (by decide) z⟩, hf, hd⟩
    | succ m ih =>
      intro i h1 hi hf hd
      obtain ⟨h', g1, g2⟩ := ih (i + 1) (zsl h1 28 i 0) (by omega) (hf.sl _ _) (fun d hd2 => by
        by_cases e : d = i
        · subst e; rw [zl_eq]; rfl
        · rw [zl_nj e]; exact hd d (by omega))
      refine ⟨h', t_J7_fill_d0a16b_6 _ _ _ _ _ ⟨fun z => ?_, fun _ => ⟨vp_in_nI (by omega) (by omega), ?_⟩⟩, g2⟩
      · rw [q181, nI_leI (by omega) (by omega)] at z; omega
      · rw [nI_clamp (by omega), nI_1]; exact g1
  obtain ⟨h', g1, g2⟩ := key 181 0 h (by omega) FrL.rf (fun d hd => by omega)
  exact ⟨h', r_J7_fill_d0a16b _ _ _ _ rfl (t_J7_fill_d0a16b_0 _ _ _ g1), g2⟩
theorem c_fillSkyb {h : zH} (hd : DC h t f sh sq) {k c : Nat} (hk : k ≤ 5) (hc : c ≤ 3) : ∃ h', R_X3_fillSky [.ref 26, .ref 28, .int (nI k), .int (nI c)] h none h' ∧ FrL 28 h h' ∧ ∀ d, d < 181 → h'.2 28 d = lN (skN t f sh sq k c 181 d) := by
  obtain ⟨h0, r0, f0, z0⟩ := c_fillb (h := h)
  have key : ∀ (m n : Nat) (h1 : zH), n + m = 181 → FrL 28 h h1 → (∀ d, d < 181 → h1.2 28 d = lN (skN t f sh sq k c n d)) → ∃ h', zG M_X3_fillSky (fun r1 h2 => r1 = none ∧ h2 = h') (zat M_X3_fillSky 8) [some (.ref 26), some (.ref 28), some (.int (nI k)), some (.int (nI c)), some (.int (nI (5 * n)))] [] h1 ∧ FrL 28 h h' ∧ ∀ d, d < 181 → h'.2 28 d = lN (skN t f sh sq k c 181 d) := by
    intro m
    induction m with
    | zero =>
      intro n h1 hn hf hs
      have : n = 181 := by omega
      subst this
      exact ⟨h1, t_X3_fillSkyb_8 _ _ _ _ _ ⟨fun _ => ⟨rfl, rfl⟩, fun z => absurd (by decide) z⟩, hf, hs⟩
    | succ m ih =>
      intro n h1 hn hf hs
      have hd1 := hd.of hf.1
      have hfs := fsN_le (tuV t f sq k c (5 * n))
      have hou := ouN_le (k := k) hd.2.1 (i := 5 * n) (by omega)
      have vp : vp_in (nI (fsN (tuV t f sq k c (5 * n)) / 10)) 181 := vp_in_nI (by omega) (by omega)
      obtain ⟨h', g1, g2⟩ := ih (n + 1) (zsl h1 28 (fsN (tuV t f sq k c (5 * n)) / 10) (lN (skN t f sh sq k c n (fsN (tuV t f sq k c (5 * n)) / 10) + ouN sh k (5 * n)))) (by omega) (hf.sl _ _) (fun d hd2 => by
        rw [skN_s]
        by_cases e : d = fsN (tuV t f sq k c (5 * n)) / 10
        · subst e; rw [zl_eq, if_pos rfl]
        · rw [zl_nj e, if_neg (Ne.symm e), Nat.add_zero]; exact hs d hd2)
      refine ⟨h', t_X3_fillSkyb_8 _ _ _ _ _ ⟨fun z => ?_, fun _ => ⟨_, _, c_fromSun hd1 hc (by omega), by decide, ?_⟩⟩, g2⟩
      · rw [q900, nI_ltI (by omega) (by omega)] at z; omega
      rw [q10, pk_div (by omega) (by omega) (by omega), nI_clamp (by omega), q5, nI_add, show 5 * n + 5 = 5 * (n + 1) by omega]
      refine ⟨vp, _, _, c_lightOut hd1 hk (by omega), vp, ?_⟩
      rw [hs _ (by omega), nI_l (by omega), lN_add]
      exact g1
  obtain ⟨h', g1, g2⟩ := key 181 0 h0 (by omega) f0 (fun d hd => by rw [z0 d hd]; rfl)
  exact ⟨h', r_X3_fillSkyb _ _ _ _ _ rfl (t_X3_fillSkyb_0 _ _ _ _ ⟨_, r0, g1⟩), g2⟩
theorem c_brightestb {h : zH} {S : Nat → Nat} (hS : ∀ d, d < 181 → S d < 2 ^ 31 ∧ h.2 28 d = lN (S d)) : R_X3_brightest [.ref 26, .ref 28] h (some (.int (bwV S))) h := by
  refine r_X3_brightestb _ _ _ ⟨_, rfl⟩ (t_X3_brightestb_0 _ _ ?_)
  have key : ∀ (m n : Nat), 1 ≤ n → n + m = 181 → zG M_X3_brightest (fun r1 h1 => r1 = some (.int (bwV S)) ∧ h1 = h) (zat M_X3_brightest 4) [some (.ref 26), some (.ref 28), some (.int (nI (agN S n))), some (.int (nI n))] [] h := by
    intro m
    induction m with
    | zero =>
      intro n h1 hn
      have : n = 181 := by omega
      subst this
      have ha := agN_lt S 181 (by omega)
      obtain ⟨s1, s2⟩ := hS _ ha
      refine t_X3_brightestb_4 _ _ _ _ ⟨fun _ => ⟨vp_in_nI ha (by omega), ?_⟩, fun z => absurd (by decide) z⟩
      rw [nI_clamp (by omega), s2, lg_cmp_le, show (0 : Int64) = lN 0 from rfl, lN_le s1 (by omega)]
      refine ⟨fun z => ⟨?_, rfl⟩, fun z => ⟨?_, rfl⟩⟩
      · rw [bwV, if_neg (by omega)]
      · rw [bwV, if_pos (by omega)]
    | succ m ih =>
      intro n h1 hn
      have ha := agN_lt S n h1
      obtain ⟨s1, s2⟩ := hS (agN S n) (by omega)
      obtain ⟨s3, s4⟩ := hS n (by omega)
      have ih2 := ih (n + 1) (by omega) (by omega)
      rw [agN_s S n h1] at ih2
      refine t_X3_brightestb_4 _ _ _ _ ⟨fun z => ?_, fun _ => ⟨vp_in_nI (by omega) (by omega), vp_in_nI (by omega) (by omega), ?_⟩⟩
      · rw [q181, nI_leI (by omega) (by omega)] at z; omega
      rw [nI_clamp (by omega), nI_clamp (by omega), s2, s4, lg_cmp_le, lN_le s3 s1, nI_1]
      refine ⟨fun z => ?_, fun z => ?_⟩
      · rw [if_neg (by omega)] at ih2; exact ih2
      · rw [if_pos (by omega)] at ih2; exact ih2
  exact key 180 1 (by omega) (by omega)
/-! the model's map -/
theorem m_layMap {h : zH} (hd : DM h t f sh sq) {k c : Nat} (hk : k ≤ 5) (hc : c ≤ 3) : ∃ h', R_X8_layMap [.ref 42, .int (nI k), .int (nI c)] h none h' ∧ FrL 54 h h' ∧ ∀ d, d < 181 → h'.2 54 d = lN (skN t f sh sq k c 181 d) := by
  have key : ∀ (m n : Nat) (h1 : zH), n + m = 181 → FrL 54 h h1 → (∀ d, d < 181 → h1.2 54 d = lN (skN t f sh sq k c n d)) → ∃ h', zG M_X8_layMap (fun r1 h2 => r1 = none ∧ h2 = h') (zat M_X8_layMap 24) [some (.ref 42), some (.int (nI k)), some (.int (nI c)), some (.int (nI (5 * n)))] [] h1 ∧ FrL 54 h h' ∧ ∀ d, d < 181 → h'.2 54 d = lN (skN t f sh sq k c 181 d) := by
    intro m
    induction m with
    | zero =>
      intro n h1 hn hf hs
      have : n = 181 := by omega
      subst this
      exact ⟨h1, t_X8_layMap_24 _ _ _ _ _ ⟨fun _ => ⟨rfl, rfl⟩, fun z => absurd (by decide) z⟩, hf, hs⟩
    | succ m ih =>
      intro n h1 hn hf hs
      have hd1 := hd.of hf.1
      have hfs := fsN_le (tuV t f sq k c (5 * n))
      have hou := ouN_le (k := k) hd.2.1 (i := 5 * n) (by omega)
      have vp : vp_in (nI (fsN (tuV t f sq k c (5 * n)) / 10)) 181 := vp_in_nI (by omega) (by omega)
      obtain ⟨h', g1, g2⟩ := ih (n + 1) (zsl h1 54 (fsN (tuV t f sq k c (5 * n)) / 10) (lN (skN t f sh sq k c n (fsN (tuV t f sq k c (5 * n)) / 10) + ouN sh k (5 * n)))) (by omega) (hf.sl _ _) (fun d hd2 => by
        rw [skN_s]
        by_cases e : d = fsN (tuV t f sq k c (5 * n)) / 10
        · subst e; rw [zl_eq, if_pos rfl]
        · rw [zl_nj e, if_neg (Ne.symm e), Nat.add_zero]; exact hs d hd2)
      refine ⟨h', t_X8_layMap_24 _ _ _ _ _ ⟨fun z => ?_, fun _ => ⟨_, _, m_from hd1 hc (by omega), by decide, ?_⟩⟩, g2⟩
      · rw [q900, nI_ltI (by omega) (by omega)] at z; omega
      rw [q10, pk_div (by omega) (by omega) (by omega), nI_clamp (by omega), q5, nI_add, show 5 * n + 5 = 5 * (n + 1) by omega]
      refine ⟨vp, _, _, m_out hd1 hk (by omega), vp, ?_⟩
      rw [hs _ (by omega), nI_l (by omega), lN_add]
      exact g1
  have zero : ∀ (m i : Nat) (h1 : zH), i + m = 181 → FrL 54 h h1 → (∀ d, d < i → h1.2 54 d = lN 0) → ∃ h', zG M_X8_layMap (fun r1 h2 => r1 = none ∧ h2 = h') (zat M_X8_layMap 2) [some (.ref 42), some (.int (nI k)), some (.int (nI c)), some (.int (nI i))] [] h1 ∧ FrL 54 h h' ∧ ∀ d, d < 181 → h'.2 54 d = lN (skN t f sh sq k c 181 d) := by
    intro m
    induction m with
    | zero =>
      intro i h1 hi hf hz
      have : i = 181 := by omega
      subst this
      obtain ⟨h', g1, g2⟩ := key 181 0 h1 (by omega) hf (fun d hd => by rw [hz d hd]; rfl)
      exact ⟨h', t_X8_layMap_2 _ _ _ _ _ ⟨fun _ => g1, fun z => absurd (by decide) z⟩, g2⟩
    | succ m ih =>
      intro i h1 hi hf hz
      obtain ⟨h', g1, g2⟩ := ih (i + 1) (zsl h1 54 i 0) (by omega) (hf.sl _ _) (fun d hd2 => by
        by_cases e : d = i
        · subst e; rw [zl_eq]; rfl
        · rw [zl_nj e]; exact hz d (by omega))
      refine ⟨h', t_X8_layMap_2 _ _ _ _ _ ⟨fun z => ?_, fun _ => ⟨vp_in_nI (by omega) (by omega), ?_⟩⟩, g2⟩
      · rw [q181, nI_leI (by omega) (by omega)] at z; omega
      · rw [nI_clamp (by omega), nI_1]; exact g1
  obtain ⟨h', g1, g2⟩ := zero 181 0 h (by omega) FrL.rf (fun d hd => by omega)
  exact ⟨h', r_X8_layMap _ _ _ _ _ rfl (t_X8_layMap_0 _ _ _ _ g1), g2⟩
theorem m_bowOf {h : zH} {S : Nat → Nat} (hS : ∀ d, d < 181 → S d < 2 ^ 31 ∧ h.2 54 d = lN (S d)) : R_X8_bowOf [.ref 42] h (some (.int (bwV S))) h := by
  refine r_X8_bowOf _ _ _ ⟨_, rfl⟩ (t_X8_bowOf_0 _ _ ?_)
  have key : ∀ (m n : Nat), 1 ≤ n → n + m = 181 → zG M_X8_bowOf (fun r1 h1 => r1 = some (.int (bwV S)) ∧ h1 = h) (zat M_X8_bowOf 4) [some (.ref 42), some (.int (nI (agN S n))), some (.int (nI n))] [] h := by
    intro m
    induction m with
    | zero =>
      intro n h1 hn
      have : n = 181 := by omega
      subst this
      have ha := agN_lt S 181 (by omega)
      obtain ⟨s1, s2⟩ := hS _ ha
      refine t_X8_bowOf_4 _ _ _ _ ⟨fun _ => ⟨vp_in_nI ha (by omega), ?_⟩, fun z => absurd (by decide) z⟩
      rw [nI_clamp (by omega), s2, lg_cmp_eq, show (0 : Int64) = lN 0 from rfl, lN_eq s1 (by omega)]
      refine ⟨fun z => ⟨?_, rfl⟩, fun z => ⟨?_, rfl⟩⟩
      · rw [bwV, if_pos (by omega)]
      · rw [bwV, if_neg (by omega)]
    | succ m ih =>
      intro n h1 hn
      have ha := agN_lt S n h1
      obtain ⟨s1, s2⟩ := hS (agN S n) (by omega)
      obtain ⟨s3, s4⟩ := hS n (by omega)
      have ih2 := ih (n + 1) (by omega) (by omega)
      rw [agN_s S n h1] at ih2
      refine t_X8_bowOf_4 _ _ _ _ ⟨fun z => ?_, fun _ => ⟨vp_in_nI (by omega) (by omega), vp_in_nI (by omega) (by omega), ?_⟩⟩
      · rw [q181, nI_leI (by omega) (by omega)] at z; omega
      rw [nI_clamp (by omega), nI_clamp (by omega), s2, s4, lg_cmp_le, lN_le s3 s1, nI_1]
      refine ⟨fun z => ?_, fun z => ?_⟩
      · rw [if_neg (by omega)] at ih2; exact ih2
      · rw [if_pos (by omega)] at ih2; exact ih2
  exact key 180 1 (by omega) (by omega)
end DR
end
section
/-! ===== what holds between the class and the model, between calls ===== -/
def SX (t : Nat → Nat) (f sh sk : Nat) (n w : Nat → Nat) (T R W C G T' R' W' C' : Nat → Int32) : Prop :=
  TV t ∧ f ≤ 20 ∧ sh ≤ 100 ∧ (500 ≤ sk ∧ sk ≤ 9000) ∧ (∀ j, j < 30 → T j = nI (t j) ∧ T' j = nI (t j)) ∧ (R 0 = nI f ∧ R' 0 = nI f) ∧ R 1 = R' 1 ∧ (R 2 = nI sh ∧ R' 2 = nI sh) ∧ (R 3 = nI sk ∧ R' 3 = nI sk) ∧ R 4 = R' 4 ∧
  (∀ k, k < 4 → n k ≤ 3 ∧ C k = nI (n k) ∧ C' k = nI (n k)) ∧ (∀ j, j < 12 → w j ≤ 1200 ∧ W j = nI (w j) ∧ W' j = nI (w j)) ∧ ∀ k, k < 4 → ∀ i, i < n k → G (3 * k + i) = -1 ∨ G (3 * k + i) = oV (rg t (w (3 * k + i)))
def SXc (t : Nat → Nat) (f sh sk : Nat) (n w : Nat → Nat) (h : zH) : Prop := SX t f sh sk n w (h.1 2) (h.1 3) (h.1 4) (h.1 5) (h.1 6) (h.1 43) (fun j => h.1 42 (j + 1)) (h.1 45) (h.1 44)
def SXk (t : Nat → Nat) (f sh sk : Nat) (n w : Nat → Nat) (p : Nat) (h : zH) : Prop := SX t f sh sk n w (h.1 (9 + 6 * p)) (h.1 (10 + 6 * p)) (h.1 (11 + 6 * p)) (h.1 (12 + 6 * p)) (h.1 (13 + 6 * p)) (fun j => h.1 62 (51 * p + j)) (fun j => h.1 62 (51 * p + 46 + j)) (fun j => h.1 62 (51 * p + 30 + j)) (fun j => h.1 62 (51 * p + 42 + j))
theorem SX.cg {t : Nat → Nat} {f sh sk : Nat} {n w : Nat → Nat} {T R W C G T' R' W' C' U S V D K U' S' V' D' : Nat → Int32} (hs : SX t f sh sk n w T R W C G T' R' W' C')
    (e1 : ∀ j, j < 30 → U j = T j) (e2 : ∀ j, j < 5 → S j = R j) (e3 : ∀ j, j < 12 → V j = W j) (e4 : ∀ j, j < 4 → D j = C j) (e5 : ∀ j, j < 12 → K j = G j) (e6 : ∀ j, j < 30 → U' j = T' j) (e7 : ∀ j, j < 5 → S' j = R' j) (e8 : ∀ j, j < 12 → V' j = W' j) (e9 : ∀ j, j < 4 → D' j = C' j) : SX t f sh sk n w U S V D K U' S' V' D' := by
  obtain ⟨a1, a2, a3, a4, a5, a6, a7, a8, a9, a10, a11, a12, a13⟩ := hs
  refine ⟨a1, a2, a3, a4, fun j hj => by rw [e1 j hj, e6 j hj]; exact a5 j hj, by rw [e2 0 (by omega), e7 0 (by omega)]; exact a6, by rw [e2 1 (by omega), e7 1 (by omega)]; exact a7, by rw [e2 2 (by omega), e7 2 (by omega)]; exact a8, by rw [e2 3 (by omega), e7 3 (by omega)]; exact a9, by rw [e2 4 (by omega), e7 4 (by omega)]; exact a10, fun k hk => by rw [e4 k hk, e9 k hk]; exact a11 k hk, fun j hj => by rw [e3 j hj, e8 j hj]; exact a12 j hj, fun k hk i hi => ?_⟩
  have := (a11 k hk).1
  rw [e5 (3 * k + i) (by omega)]; exact a13 k hk i hi
def IM (h : zH) : Prop := ∃ (mk : Nat → LT) (nm : Nat), MC h mk nm ∧ MM h mk nm
def IP (h : zH) : Prop := ∀ p, p < 12 → h.1 36 p = h.1 50 p ∧ (h.1 36 p = -1 ∨ h.1 36 p = 0 ∨ h.1 36 p = 1)
def ID (h : zH) : Prop := ∃ nd, nd ≤ 60 ∧ h.1 38 3 = nI nd ∧ h.1 42 14 = nI nd ∧ ∀ d, d < 60 → h.1 39 d = h.1 51 d ∧ h.1 40 d = h.1 52 d ∧ h.1 41 d = h.1 53 d ∧ ∃ b, b < 65536 ∧ h.1 41 d = nI b
def IK (h : zH) : Prop := ∃ k, k ≤ 3 ∧ h.1 0 2 = nI k ∧ h.1 42 28 = nI k ∧ ∀ p, p < k → ∃ t f sh sk n w, SXk t f sh sk n w p h
def Inv (h : zH) : Prop := (∃ t f sh sk n w, SXc t f sh sk n w h) ∧ IM h ∧ IP h ∧ ID h ∧ IK h
/-- what queries may write -/
def sK (a _b : Nat) : Bool := a == 6 || (a == 30 || (a == 31 || (a == 34 || a == 37)))
def sN (a b : Nat) : Bool := (a == 42 && b == 21) || (a == 55 || (a == 56 || (a == 57 || (a == 58 || (a == 59 || (a == 60 || a == 61))))))
def sA (a b : Nat) : Bool := sK a b || sN a b
theorem sA_k {p : Nat} (hp : p < 3) (i j : Nat) (hi : i < 5) : sA (9 + i + 6 * p) j = false := by
  simp only [sA, sK, sN, Bool.or_eq_false_iff, Bool.and_eq_false_iff, beq_eq_false_iff_ne]
  omega
theorem IM.fr {h h' : zH} (hi : IM h) (hf : Fr sA h h') : IM h' := by
  obtain ⟨mk, nm, h1, h2⟩ := hi
  exact ⟨mk, nm, h1.fr hf (fun _ => rfl) (fun _ => rfl), h2.fr hf rfl (by rintro a j (rfl | rfl | rfl | rfl) <;> rfl)⟩
theorem IP.fr {h h' : zH} (hi : IP h) (hf : Fr sA h h') : IP h' := fun p hp => by rw [hf 36 p rfl, hf 50 p rfl]; exact hi p hp
theorem ID.fr {h h' : zH} (hi : ID h) (hf : Fr sA h h') : ID h' := by
  obtain ⟨nd, a, b, c, d⟩ := hi
  exact ⟨nd, a, by rw [hf 38 3 rfl]; exact b, by rw [hf 42 14 rfl]; exact c, fun k hk => by rw [hf 39 k rfl, hf 40 k rfl, hf 41 k rfl, hf 51 k rfl, hf 52 k rfl, hf 53 k rfl]; exact d k hk⟩
theorem SXk.fr {t : Nat → Nat} {f sh sk : Nat} {n w : Nat → Nat} {p : Nat} {h h' : zH} (hs : SXk t f sh sk n w p h) (hp : p < 3) (hf : Fr sA h h') : SXk t f sh sk n w p h' := by
  have e : ∀ i j, i < 5 → h'.1 (9 + i + 6 * p) j = h.1 (9 + i + 6 * p) j := fun i j hi => hf _ _ (sA_k hp i j hi)
  exact SX.cg hs (fun j _ => e 0 j (by omega)) (fun j _ => e 1 j (by omega)) (fun j _ => e 2 j (by omega)) (fun j _ => e 3 j (by omega)) (fun j _ => e 4 j (by omega)) (fun j _ => hf 62 _ rfl) (fun j _ => hf 62 _ rfl) (fun j _ => hf 62 _ rfl) (fun j _ => hf 62 _ rfl)
theorem IK.fr {h h' : zH} (hi : IK h) (hf : Fr sA h h') : IK h' := by
  obtain ⟨k, a, b, c, d⟩ := hi
  refine ⟨k, a, by rw [hf 0 2 rfl]; exact b, by rw [hf 42 28 rfl]; exact c, fun p hp => ?_⟩
  obtain ⟨t, f, sh, sk, n, w, hs⟩ := d p hp
  exact ⟨t, f, sh, sk, n, w, hs.fr (by omega) hf⟩
theorem SXc.fr {t : Nat → Nat} {f sh sk : Nat} {n w : Nat → Nat} {h h' : zH} (hs : SXc t f sh sk n w h) (hf : Fr sA h h') (hr : RK h' t n w) : SXc t f sh sk n w h' := by
  obtain ⟨a1, a2, a3, a4, a5, a6, a7, a8, a9, a10, a11, a12, a13⟩ := hs
  have e : ∀ a j, sA a j = false → h'.1 a j = h.1 a j := hf
  refine ⟨a1, a2, a3, a4, fun j hj => ?_, ?_, ?_, ?_, ?_, ?_, fun k hk => ?_, fun j hj => ?_, hr⟩
  · rw [e 2 j rfl, e 43 j rfl]; exact a5 j hj
  · dsimp only; rw [e 3 0 rfl, e 42 (0 + 1) rfl]; exact a6
  · dsimp only; rw [e 3 1 rfl, e 42 (1 + 1) rfl]; exact a7
  · dsimp only; rw [e 3 2 rfl, e 42 (2 + 1) rfl]; exact a8
  · dsimp only; rw [e 3 3 rfl, e 42 (3 + 1) rfl]; exact a9
  · dsimp only; rw [e 3 4 rfl, e 42 (4 + 1) rfl]; exact a10
  · rw [e 5 k rfl, e 44 k rfl]; exact a11 k hk
  · rw [e 4 j rfl, e 45 j rfl]; exact a12 j hj
theorem SXc.rk {t : Nat → Nat} {f sh sk : Nat} {n w : Nat → Nat} {h : zH} (hs : SXc t f sh sk n w h) : RK h t n w := hs.2.2.2.2.2.2.2.2.2.2.2.2
theorem SXc.bt {t : Nat → Nat} {f sh sk : Nat} {n w : Nat → Nat} {h : zH} (hs : SXc t f sh sk n w h) : BT h t f := ⟨hs.1, hs.2.1, fun j hj => (hs.2.2.2.2.1 j hj).1, hs.2.2.2.2.2.1.1⟩
theorem SXc.bm {t : Nat → Nat} {f sh sk : Nat} {n w : Nat → Nat} {h : zH} (hs : SXc t f sh sk n w h) : BM h t f := ⟨hs.1, hs.2.1, fun j hj => (hs.2.2.2.2.1 j hj).2, hs.2.2.2.2.2.1.2⟩
theorem SXc.cw {t : Nat → Nat} {f sh sk : Nat} {n w : Nat → Nat} {h : zH} (hs : SXc t f sh sk n w h) : CW h 5 4 n w ∧ CW h 44 45 n w := by
  obtain ⟨a1, a2, a3, a4, a5, a6, a7, a8, a9, a10, a11, a12, a13⟩ := hs
  exact ⟨⟨fun k hk => ⟨(a11 k hk).1, (a11 k hk).2.1⟩, fun j hj => ⟨(a12 j hj).1, (a12 j hj).2.1⟩⟩, ⟨fun k hk => ⟨(a11 k hk).1, (a11 k hk).2.2⟩, fun j hj => ⟨(a12 j hj).1, (a12 j hj).2.2⟩⟩⟩
theorem SXc.cs {t : Nat → Nat} {f sh sk : Nat} {n w : Nat → Nat} {h : zH} (hs : SXc t f sh sk n w h) : CS h t f n w sk (h.1 3 4) := ⟨hs.bt, hs.cw.1, ⟨hs.2.2.2.1.1, hs.2.2.2.1.2, hs.2.2.2.2.2.2.2.2.1.1⟩, rfl⟩
theorem SXc.ms {t : Nat → Nat} {f sh sk : Nat} {n w : Nat → Nat} {h : zH} (hs : SXc t f sh sk n w h) : MS h t f n w sk (h.1 3 4) := ⟨hs.bm, hs.cw.2, ⟨hs.2.2.2.1.1, hs.2.2.2.1.2, hs.2.2.2.2.2.2.2.2.1.2⟩, hs.2.2.2.2.2.2.2.2.2.1.symm⟩
theorem SXc.dc {t : Nat → Nat} {f sh sk : Nat} {n w : Nat → Nat} {h : zH} (hs : SXc t f sh sk n w h) : DC h t f sh (h.1 3 1) := ⟨hs.bt, hs.2.2.1, hs.2.2.2.2.2.2.2.1.1, rfl⟩
theorem SXc.dm {t : Nat → Nat} {f sh sk : Nat} {n w : Nat → Nat} {h : zH} (hs : SXc t f sh sk n w h) : DM h t f sh (h.1 3 1) := ⟨hs.bm, hs.2.2.1, hs.2.2.2.2.2.2.2.1.2, hs.2.2.2.2.2.2.1.symm⟩
/-- a query: nothing but scratch was written, the rings stay right -/
theorem Inv.q {t : Nat → Nat} {f sh sk : Nat} {n w : Nat → Nat} {h h' : zH} (hi : Inv h) (hs : SXc t f sh sk n w h) (hf : Fr sA h h') (hr : RK h' t n w) : Inv h' := ⟨⟨t, f, sh, sk, n, w, hs.fr hf hr⟩, hi.2.1.fr hf, hi.2.2.1.fr hf, hi.2.2.2.1.fr hf, hi.2.2.2.2.fr hf⟩
/-- nothing of the ints was written -/
theorem Inv.of {h h' : zH} (hi : Inv h) (e : h'.1 = h.1) : Inv h' := by
  obtain ⟨⟨t, f, sh, sk, n, w, hs⟩, r⟩ := hi
  have hf : Fr sA h h' := fun a b _ => by rw [e]
  exact Inv.q ⟨⟨t, f, sh, sk, n, w, hs⟩, r⟩ hs hf (by unfold RK; rw [e]; exact hs.rk)
theorem RK.frN {P : Nat → Nat → Bool} {h h' : zH} {t n w : Nat → Nat} (hr : RK h t n w) (hf : Fr P h h') (h6 : ∀ j, P 6 j = false) : RK h' t n w := hr.fr hf h6
theorem sI_A : ∀ x y, sA x y = false → sI x y = false := by
  intro x y h
  simp only [sA, sK, sN, Bool.or_eq_false_iff, Bool.and_eq_false_iff, beq_eq_false_iff_ne] at h
  simp only [sI, sL, Bool.or_eq_false_iff, beq_eq_false_iff_ne]; omega
theorem sM_A : ∀ x y, sA x y = false → sM x y = false := by
  intro x y h
  simp only [sA, sK, sN, Bool.or_eq_false_iff, Bool.and_eq_false_iff, beq_eq_false_iff_ne] at h
  simp only [sM, Bool.or_eq_false_iff, Bool.and_eq_false_iff, beq_eq_false_iff_ne]; omega
theorem sT_A : ∀ x y, sA x y = false → sT x y = false := by
  intro x y h
  simp only [sA, sK, sN, Bool.or_eq_false_iff, Bool.and_eq_false_iff, beq_eq_false_iff_ne] at h
  simp only [sT, sM, Bool.or_eq_false_iff, Bool.and_eq_false_iff, beq_eq_false_iff_ne]; omega
theorem sG_A : ∀ x y, sA x y = false → sG x y = false := by
  intro x y h
  simp only [sA, sK, sN, Bool.or_eq_false_iff, Bool.and_eq_false_iff, beq_eq_false_iff_ne] at h
  simp only [sG, beq_eq_false_iff_ne]; omega
/-- a call on both: the same answer, and what holds between them holds behind it -/
def Pair (Rc Rm : zRel) (as : List Value) (h : zH) : Prop := ∃ (r : Value) (h1 h2 : zH), Rc (.ref 0 :: as) h (some r) h1 ∧ Rm (.ref 42 :: as) h1 (some r) h2 ∧ Inv h2
/-- a number within bounds is one of Nat -/
theorem in_n {x : Int32} {b : Nat} (hb : b < 2 ^ 31) (h0 : 0 ≤ x) (h1 : x ≤ nI b) : ∃ j, j ≤ b ∧ x = nI j := q_of h0 h1 hb
/-! bending -/
theorem p_inside {h : zH} (hi : Inv h) (a b c : Int32) : Pair R_X7_inside R_X8_inside [.int a, .int b, .int c] h := by
  obtain ⟨t, f, sh, sk, n, w, hs⟩ := hi.1
  by_cases hv : (0 ≤ a ∧ a ≤ 2) ∧ (0 ≤ b ∧ b ≤ 3) ∧ (0 ≤ c ∧ c ≤ 900)
  · obtain ⟨s, hs1, rfl⟩ := in_n (b := 2) (by omega) hv.1.1 hv.1.2
    obtain ⟨k, hk1, rfl⟩ := in_n (b := 3) (by omega) hv.2.1.1 hv.2.1.2
    obtain ⟨i, hi1, rfl⟩ := in_n (b := 900) (by omega) hv.2.2.1 hv.2.2.2
    refine ⟨.int (nI (bn t f s k i)), h, h, r_X7_inside _ _ _ _ _ _ ⟨_, rfl⟩ (t_X7_inside_0 _ _ _ _ _ (gd (fun z => absurd hv.1 z) (fun _ _ => gd_isColour (fun z => absurd hv.2.1 z) (fun _ _ => gd_isRight' (fun _ _ => ⟨_, _, c_bent hs.bt hs1 hk1 hi1, rfl, rfl⟩) (fun z => absurd hv.2.2 z))))), r_X8_inside _ _ _ _ _ _ ⟨_, rfl⟩ (t_X8_inside_0 _ _ _ _ _ (ge (fun z => absurd hv.1 z) (fun _ _ => ge (fun z => absurd hv.2.1 z) (fun _ _ => ge (fun z => absurd hv.2.2 z) (fun _ _ => ⟨_, _, m_bent hs.bm hs1 hk1 hi1, rfl, rfl⟩))))), hi⟩
  · refine ⟨.int (-1), h, h, r_X7_inside _ _ _ _ _ _ ⟨_, rfl⟩ (t_X7_inside_0 _ _ _ _ _ (gd (fun _ => ⟨rfl, rfl⟩) (fun a1 a2 => gd_isColour (fun _ => ⟨rfl, rfl⟩) (fun b1 b2 => gd_isRight' (fun c1 c2 => absurd ⟨⟨a1, a2⟩, ⟨b1, b2⟩, c1, c2⟩ hv) (fun _ => ⟨rfl, rfl⟩))))), r_X8_inside _ _ _ _ _ _ ⟨_, rfl⟩ (t_X8_inside_0 _ _ _ _ _ (ge (fun _ => ⟨rfl, rfl⟩) (fun a1 a2 => ge (fun _ => ⟨rfl, rfl⟩) (fun b1 b2 => ge (fun _ => ⟨rfl, rfl⟩) (fun c1 c2 => absurd ⟨⟨a1, a2⟩, ⟨b1, b2⟩, c1, c2⟩ hv))))), hi⟩
end
section
/-! ===== calls on both ===== -/
def gS (a j : Nat) : Prop := a = 2 ∨ a = 3 ∨ a = 4 ∨ a = 5 ∨ a = 43 ∨ a = 44 ∨ a = 45 ∨ (a = 42 ∧ 1 ≤ j ∧ j ≤ 5)
def gM (a j : Nat) : Prop := a = 32 ∨ a = 33 ∨ a = 46 ∨ a = 47 ∨ a = 48 ∨ a = 49 ∨ (a = 42 ∧ j = 8)
def gP (a _j : Nat) : Prop := a = 36 ∨ a = 50
def gD (a j : Nat) : Prop := a = 38 ∨ a = 39 ∨ a = 40 ∨ a = 41 ∨ a = 51 ∨ a = 52 ∨ a = 53 ∨ (a = 42 ∧ j = 14)
def gK (a j : Nat) : Prop := a = 0 ∨ (9 ≤ a ∧ a ≤ 25) ∨ a = 62 ∨ (a = 42 ∧ j = 28)
theorem SXc.cg' {t : Nat → Nat} {f sh sk : Nat} {n w : Nat → Nat} {h h' : zH} (hs : SXc t f sh sk n w h) (he : ∀ a j, gS a j → h'.1 a j = h.1 a j) (hr : RK h' t n w) : SXc t f sh sk n w h' := by
  obtain ⟨a1, a2, a3, a4, a5, a6, a7, a8, a9, a10, a11, a12, a13⟩ := hs
  have e : ∀ a j, gS a j → h'.1 a j = h.1 a j := he
  refine ⟨a1, a2, a3, a4, fun j hj => ?_, ?_, ?_, ?_, ?_, ?_, fun k hk => ?_, fun j hj => ?_, hr⟩
  · rw [e 2 j (by simp [gS]), e 43 j (by simp [gS])]; exact a5 j hj
  · dsimp only; rw [e 3 0 (by simp [gS]), e 42 (0 + 1) (by simp [gS])]; exact a6
  · dsimp only; rw [e 3 1 (by simp [gS]), e 42 (1 + 1) (by simp [gS])]; exact a7
  · dsimp only; rw [e 3 2 (by simp [gS]), e 42 (2 + 1) (by simp [gS])]; exact a8
  · dsimp only; rw [e 3 3 (by simp [gS]), e 42 (3 + 1) (by simp [gS])]; exact a9
  · dsimp only; rw [e 3 4 (by simp [gS]), e 42 (4 + 1) (by simp [gS])]; exact a10
  · rw [e 5 k (by simp [gS]), e 44 k (by simp [gS])]; exact a11 k hk
  · rw [e 4 j (by simp [gS]), e 45 j (by simp [gS])]; exact a12 j hj
theorem IM.cg {h h' : zH} (hi : IM h) (he : ∀ a j, gM a j → h'.1 a j = h.1 a j) : IM h' := by
  obtain ⟨mk, nm, ⟨a1, a2, a3⟩, ⟨b1, b2, b3⟩⟩ := hi
  refine ⟨mk, nm, ⟨a1, by rw [he 32 2 (by simp [gM])]; exact a2, fun m hm => ?_⟩, ⟨b1, by rw [he 42 8 (by simp [gM])]; exact b2, fun m hm => ?_⟩⟩
  · rw [he 33 _ (by simp [gM]), he 33 _ (by simp [gM]), he 33 _ (by simp [gM]), he 33 _ (by simp [gM])]; exact a3 m hm
  · rw [he 46 _ (by simp [gM]), he 47 _ (by simp [gM]), he 48 _ (by simp [gM]), he 49 _ (by simp [gM])]; exact b3 m hm
theorem IP.cg {h h' : zH} (hi : IP h) (he : ∀ a j, gP a j → h'.1 a j = h.1 a j) : IP h' := fun p hp => by rw [he 36 p (by simp [gP]), he 50 p (by simp [gP])]; exact hi p hp
theorem ID.cg {h h' : zH} (hi : ID h) (he : ∀ a j, gD a j → h'.1 a j = h.1 a j) : ID h' := by
  obtain ⟨nd, a, b, c, d⟩ := hi
  exact ⟨nd, a, by rw [he 38 3 (by simp [gD])]; exact b, by rw [he 42 14 (by simp [gD])]; exact c, fun k hk => by rw [he 39 k (by simp [gD]), he 40 k (by simp [gD]), he 41 k (by simp [gD]), he 51 k (by simp [gD]), he 52 k (by simp [gD]), he 53 k (by simp [gD])]; exact d k hk⟩
theorem SXk.cg {t : Nat → Nat} {f sh sk : Nat} {n w : Nat → Nat} {p : Nat} {h h' : zH} (hs : SXk t f sh sk n w p h) (hp : p < 3) (he : ∀ a j, gK a j → h'.1 a j = h.1 a j) : SXk t f sh sk n w p h' := by
  have e : ∀ i j, i < 5 → h'.1 (9 + i + 6 * p) j = h.1 (9 + i + 6 * p) j := fun i j hi => he _ _ (by unfold gK; omega)
  have e2 : ∀ j, h'.1 62 j = h.1 62 j := fun j => he _ _ (by simp [gK])
  exact SX.cg hs (fun j _ => e 0 j (by omega)) (fun j _ => e 1 j (by omega)) (fun j _ => e 2 j (by omega)) (fun j _ => e 3 j (by omega)) (fun j _ => e 4 j (by omega)) (fun j _ => e2 _) (fun j _ => e2 _) (fun j _ => e2 _) (fun j _ => e2 _)
theorem IK.cg {h h' : zH} (hi : IK h) (he : ∀ a j, gK a j → h'.1 a j = h.1 a j) : IK h' := by
  obtain ⟨k, a, b, c, d⟩ := hi
  refine ⟨k, a, by rw [he 0 2 (by simp [gK])]; exact b, by rw [he 42 28 (by simp [gK])]; exact c, fun p hp => ?_⟩
  obtain ⟨t, f, sh, sk, n, w, hs⟩ := d p hp
  exact ⟨t, f, sh, sk, n, w, hs.cg (by omega) he⟩
theorem p_outside {h : zH} (hi : Inv h) (a b c : Int32) : Pair R_X7_outside R_X8_outside [.int a, .int b, .int c] h := by
  obtain ⟨t, f, sh, sk, n, w, hs⟩ := hi.1
  by_cases hv : (0 ≤ a ∧ a ≤ 2) ∧ (0 ≤ b ∧ b ≤ 3) ∧ (0 ≤ c ∧ c ≤ 900)
  · obtain ⟨s, hs1, rfl⟩ := in_n (b := 2) (by omega) hv.1.1 hv.1.2
    obtain ⟨k, hk1, rfl⟩ := in_n (b := 3) (by omega) hv.2.1.1 hv.2.1.2
    obtain ⟨i, hi1, rfl⟩ := in_n (b := 900) (by omega) hv.2.2.1 hv.2.2.2
    exact ⟨.int (valE (lof (bn t f s k) i)), h, h, r_X7_outside _ _ _ _ _ _ ⟨_, rfl⟩ (t_X7_outside_0 _ _ _ _ _ (gd (fun z => absurd hv.1 z) (fun _ _ => gd_isColour (fun z => absurd hv.2.1 z) (fun _ _ => gd_isRight' (fun _ _ => ⟨_, _, c_unbent hs.bt hs1 hk1 (by omega), rfl, rfl⟩) (fun z => absurd hv.2.2 z))))), r_X8_outside _ _ _ _ _ _ ⟨_, rfl⟩ (t_X8_outside_0 _ _ _ _ _ (ge (fun z => absurd hv.1 z) (fun _ _ => ge (fun z => absurd hv.2.1 z) (fun _ _ => ge (fun z => absurd hv.2.2 z) (fun _ _ => ⟨_, _, m_least hs.bm hs1 hk1 (by omega), rfl, rfl⟩))))), hi⟩
  · exact ⟨.int (-1), h, h, r_X7_outside _ _ _ _ _ _ ⟨_, rfl⟩ (t_X7_outside_0 _ _ _ _ _ (gd (fun _ => ⟨rfl, rfl⟩) (fun u0 w0 => gd_isColour (fun _ => ⟨rfl, rfl⟩) (fun u1 w1 => gd_isRight' (fun u2 w2 => absurd ⟨⟨u0, w0⟩, ⟨u1, w1⟩, u2, w2⟩ hv) (fun _ => ⟨rfl, rfl⟩))))), r_X8_outside _ _ _ _ _ _ ⟨_, rfl⟩ (t_X8_outside_0 _ _ _ _ _ (ge (fun _ => ⟨rfl, rfl⟩) (fun u0 w0 => ge (fun _ => ⟨rfl, rfl⟩) (fun u1 w1 => ge (fun _ => ⟨rfl, rfl⟩) (fun u2 w2 => absurd ⟨⟨u0, w0⟩, ⟨u1, w1⟩, u2, w2⟩ hv))))), hi⟩
theorem p_turned {h : zH} (hi : Inv h) (a b c : Int32) : Pair R_X7_turned R_X8_turned [.int a, .int b, .int c] h := by
  obtain ⟨t, f, sh, sk, n, w, hs⟩ := hi.1
  by_cases hv : (200 ≤ a ∧ a ≤ 1200) ∧ (0 ≤ b ∧ b ≤ 3) ∧ (0 ≤ c ∧ c ≤ 900)
  · have h0 : (0 : Int32) ≤ a := Int32.le_trans (by decide) hv.1.1
    obtain ⟨s, hs1, rfl⟩ := in_n (b := 1200) (by omega) h0 hv.1.2
    obtain ⟨k, hk1, rfl⟩ := in_n (b := 3) (by omega) hv.2.1.1 hv.2.1.2
    obtain ⟨i, hi1, rfl⟩ := in_n (b := 900) (by omega) hv.2.2.1 hv.2.2.2
    exact ⟨.int (oV (turnO (bn t f 1 k) s i)), h, h, r_X7_turned _ _ _ _ _ _ ⟨_, rfl⟩ (t_X7_turned_0 _ _ _ _ _ (gd (fun z => absurd hv.1 z) (fun _ _ => gd_isColour (fun z => absurd hv.2.1 z) (fun _ _ => gd_isRight' (fun _ _ => ⟨_, _, c_turnOf hs.bt hs1 hk1 hi1, rfl, rfl⟩) (fun z => absurd hv.2.2 z))))), r_X8_turned _ _ _ _ _ _ ⟨_, rfl⟩ (t_X8_turned_0 _ _ _ _ _ (ge (fun z => absurd hv.1 z) (fun _ _ => ge (fun z => absurd hv.2.1 z) (fun _ _ => ge (fun z => absurd hv.2.2 z) (fun _ _ => ⟨_, _, m_turnedBy hs.bm hs1 hk1 hi1, rfl, rfl⟩))))), hi⟩
  · exact ⟨.int (-100000), h, h, r_X7_turned _ _ _ _ _ _ ⟨_, rfl⟩ (t_X7_turned_0 _ _ _ _ _ (gd (fun _ => ⟨rfl, rfl⟩) (fun u0 w0 => gd_isColour (fun _ => ⟨rfl, rfl⟩) (fun u1 w1 => gd_isRight' (fun u2 w2 => absurd ⟨⟨u0, w0⟩, ⟨u1, w1⟩, u2, w2⟩ hv) (fun _ => ⟨rfl, rfl⟩))))), r_X8_turned _ _ _ _ _ _ ⟨_, rfl⟩ (t_X8_turned_0 _ _ _ _ _ (ge (fun _ => ⟨rfl, rfl⟩) (fun u0 w0 => ge (fun _ => ⟨rfl, rfl⟩) (fun u1 w1 => ge (fun _ => ⟨rfl, rfl⟩) (fun u2 w2 => absurd ⟨⟨u0, w0⟩, ⟨u1, w1⟩, u2, w2⟩ hv))))), hi⟩
theorem p_ring {h : zH} (hi : Inv h) (a b : Int32) : Pair R_X7_ring R_X8_ring [.int a, .int b] h := by
  obtain ⟨t, f, sh, sk, n, w, hs⟩ := hi.1
  by_cases hv : (200 ≤ a ∧ a ≤ 1200) ∧ (0 ≤ b ∧ b ≤ 3)
  · have h0 : (0 : Int32) ≤ a := Int32.le_trans (by decide) hv.1.1
    obtain ⟨s, hs1, rfl⟩ := in_n (b := 1200) (by omega) h0 hv.1.2
    obtain ⟨k, hk1, rfl⟩ := in_n (b := 3) (by omega) hv.2.1 hv.2.2
    exact ⟨.int (oV (rgO (bn t f 1 k) s 901)), h, h, r_X7_ring _ _ _ _ _ ⟨_, rfl⟩ (t_X7_ring_0 _ _ _ _ (gd (fun z => absurd hv.1 z) (fun _ _ => gd_isColour' (fun _ _ => ⟨_, _, c_leastTurn hs.bt hs1 hk1, rfl, rfl⟩) (fun z => absurd hv.2 z)))), r_X8_ring _ _ _ _ _ ⟨_, rfl⟩ (t_X8_ring_0 _ _ _ _ (ge (fun z => absurd hv.1 z) (fun _ _ => ge (fun z => absurd hv.2 z) (fun _ _ => ⟨_, _, m_ringOf hs.bm hs1 hk1, rfl, rfl⟩)))), hi⟩
  · exact ⟨.int (-100000), h, h, r_X7_ring _ _ _ _ _ ⟨_, rfl⟩ (t_X7_ring_0 _ _ _ _ (gd (fun _ => ⟨rfl, rfl⟩) (fun u0 w0 => gd_isColour' (fun u1 w1 => absurd ⟨⟨u0, w0⟩, u1, w1⟩ hv) (fun _ => ⟨rfl, rfl⟩)))), r_X8_ring _ _ _ _ _ ⟨_, rfl⟩ (t_X8_ring_0 _ _ _ _ (ge (fun _ => ⟨rfl, rfl⟩) (fun u0 w0 => ge (fun _ => ⟨rfl, rfl⟩) (fun u1 w1 => absurd ⟨⟨u0, w0⟩, u1, w1⟩ hv)))), hi⟩
theorem p_cut {h : zH} (hi : Inv h) (a b : Int32) : Pair R_X7_cut R_X8_cut [.int a, .int b] h := by
  obtain ⟨t, f, sh, sk, n, w, hs⟩ := hi.1
  by_cases hv : (0 ≤ a ∧ a ≤ 11) ∧ ((-1) ≤ b ∧ b ≤ 1)
  · obtain ⟨p, hp1, rfl⟩ := in_n (b := 11) (by omega) hv.1.1 hv.1.2
    have vp : vp_in (nI p) 12 := vp_in_nI (by omega) (by omega)
    have hc : (nI p).toNatClampNeg = p := nI_clamp (by omega)
    refine ⟨.int (h.1 36 p), zsi h 36 p b, zsi (zsi h 36 p b) 50 p b, r_X7_cut _ _ _ _ _ ⟨_, rfl⟩ (t_X7_cut_0 _ _ _ _ (gd (fun z => absurd hv.1 z) (fun _ _ => gd' (fun _ _ => ⟨vp, vp, ?_⟩) (fun z => absurd hv.2 z)))), r_X8_cut _ _ _ _ _ ⟨_, rfl⟩ (t_X8_cut_0 _ _ _ _ (ge (fun z => absurd hv.1 z) (fun _ _ => ge' (fun _ _ => ⟨vp, vp, ?_⟩) (fun z => absurd hv.2 z)))), ?_⟩
    · rw [hc]; exact ⟨rfl, rfl⟩
    · rw [hc, zr_ne (by omega), (hi.2.2.1 p (by omega)).1]; exact ⟨rfl, rfl⟩
    · have he : ∀ a j, ¬ (a = 36 ∨ a = 50) → (zsi (zsi h 36 p b) 50 p b).1 a j = h.1 a j := fun a j hn => by rw [zr_ne (by omega), zr_ne (by omega)]
      refine ⟨⟨t, f, sh, sk, n, w, hs.cg' (fun a j hg => he a j (by unfold gS at hg; omega)) (fun k hk i hi => by rw [he 6 _ (by omega)]; exact hs.rk k hk i hi)⟩, hi.2.1.cg (fun a j hg => he a j (by unfold gM at hg; omega)), ?_, hi.2.2.2.1.cg (fun a j hg => he a j (by unfold gD at hg; omega)), hi.2.2.2.2.cg (fun a j hg => he a j (by unfold gK at hg; omega))⟩
      intro p' hp'
      by_cases e : p' = p
      · subst e
        rw [zr_eq, zr_ne (by omega), zr_eq]
        refine ⟨rfl, ?_⟩
        have b1 := Int32.le_iff_toInt_le.mp hv.2.1
        have b2 := Int32.le_iff_toInt_le.mp hv.2.2
        have e1 : (-1 : Int32).toInt = -1 := rfl
        have e0 : (0 : Int32).toInt = 0 := rfl
        have e3 : (1 : Int32).toInt = 1 := rfl
        rw [← Int32.toInt_inj, ← Int32.toInt_inj, ← Int32.toInt_inj]
        omega
      · rw [zr_ne (by omega), zr_nj e, zr_nj e]; exact hi.2.2.1 p' hp'
  · exact ⟨.int (-100), h, h, r_X7_cut _ _ _ _ _ ⟨_, rfl⟩ (t_X7_cut_0 _ _ _ _ (gd (fun _ => ⟨rfl, rfl⟩) (fun u0 w0 => gd' (fun u1 w1 => absurd ⟨⟨u0, w0⟩, u1, w1⟩ hv) (fun _ => ⟨rfl, rfl⟩)))), r_X8_cut _ _ _ _ _ ⟨_, rfl⟩ (t_X8_cut_0 _ _ _ _ (ge (fun _ => ⟨rfl, rfl⟩) (fun u0 w0 => ge' (fun u1 w1 => absurd ⟨⟨u0, w0⟩, u1, w1⟩ hv) (fun _ => ⟨rfl, rfl⟩)))), hi⟩
theorem p_noWedges {h : zH} (hi : Inv h) (a : Int32) : Pair R_X7_noWedges R_X8_noWedges [.int a] h := by
  obtain ⟨t, f, sh, sk, n, w, hs⟩ := hi.1
  by_cases hv : (0 ≤ a ∧ a ≤ 3)
  · obtain ⟨k, hk1, rfl⟩ := in_n (b := 3) (by omega) hv.1 hv.2
    have vp : vp_in (nI k) 4 := vp_in_nI (by omega) (by omega)
    have hc : (nI k).toNatClampNeg = k := nI_clamp (by omega)
    obtain ⟨q1, q2, q3⟩ := hs.2.2.2.2.2.2.2.2.2.2.1 k (by omega)
    refine ⟨.int (nI (n k)), zsi h 5 k 0, zsi (zsi h 5 k 0) 44 k 0, r_X7_noWedges _ _ _ _ ⟨_, rfl⟩ (t_X7_noWedges_0 _ _ _ (gd' (fun _ _ => ⟨vp, vp, ?_⟩) (fun z => absurd hv z))), r_X8_noWedges _ _ _ _ ⟨_, rfl⟩ (t_X8_noWedges_0 _ _ _ (ge' (fun _ _ => ⟨vp, vp, ?_⟩) (fun z => absurd hv z))), ?_⟩
    · rw [hc, q2]; exact ⟨rfl, rfl⟩
    · rw [hc, zr_ne (by omega), q3]; exact ⟨rfl, rfl⟩
    · have he : ∀ a j, ¬ (a = 5 ∨ a = 44) → (zsi (zsi h 5 k 0) 44 k 0).1 a j = h.1 a j := fun a j hn => by rw [zr_ne (by omega), zr_ne (by omega)]
      refine ⟨⟨t, f, sh, sk, fun k' => if k' = k then 0 else n k', w, ?_⟩, hi.2.1.cg (fun a j hg => he a j (by unfold gM at hg; omega)), hi.2.2.1.cg (fun a j hg => he a j (by unfold gP at hg; omega)), hi.2.2.2.1.cg (fun a j hg => he a j (by unfold gD at hg; omega)), hi.2.2.2.2.cg (fun a j hg => he a j (by unfold gK at hg; omega))⟩
      obtain ⟨a1, a2, a3, a4, a5, a6, a7, a8, a9, a10, a11, a12, a13⟩ := hs
      refine ⟨a1, a2, a3, a4, fun j hj => by rw [he 2 j (by omega), he 43 j (by omega)]; exact a5 j hj, by dsimp only; rw [he 3 0 (by omega), he 42 _ (by omega)]; exact a6, by dsimp only; rw [he 3 1 (by omega), he 42 _ (by omega)]; exact a7, by dsimp only; rw [he 3 2 (by omega), he 42 _ (by omega)]; exact a8, by dsimp only; rw [he 3 3 (by omega), he 42 _ (by omega)]; exact a9, by dsimp only; rw [he 3 4 (by omega), he 42 _ (by omega)]; exact a10, fun k' hk' => ?_, fun j hj => by rw [he 4 j (by omega), he 45 j (by omega)]; exact a12 j hj, fun k' hk' i hi => ?_⟩
      · by_cases e : k' = k
        · subst e
          dsimp only
          rw [zr_eq, zr_ne (by omega), zr_eq, if_pos rfl]; exact ⟨by omega, rfl, rfl⟩
        · dsimp only
          rw [zr_ne (by omega), zr_nj e, zr_nj e, if_neg e]; exact a11 k' hk'
      · by_cases e : k' = k
        · subst e; dsimp only at hi; rw [if_pos rfl] at hi; omega
        · dsimp only at hi; rw [if_neg e] at hi
          rw [he 6 _ (by omega)]; exact a13 k' hk' i hi
  · exact ⟨.int (-1), h, h, r_X7_noWedges _ _ _ _ ⟨_, rfl⟩ (t_X7_noWedges_0 _ _ _ (gd' (fun u0 w0 => absurd ⟨u0, w0⟩ hv) (fun _ => ⟨rfl, rfl⟩))), r_X8_noWedges _ _ _ _ ⟨_, rfl⟩ (t_X8_noWedges_0 _ _ _ (ge' (fun u0 w0 => absurd ⟨u0, w0⟩ hv) (fun _ => ⟨rfl, rfl⟩))), hi⟩
end
section
/-! ===== table, rule, wedge, mark, wipe ===== -/
theorem c_fill6 {h : zH} {v : Int32} : ∃ h', R_J7_fill_53178 [.ref 6, .int v] h none h' ∧ (∀ j, j < 12 → h'.1 6 j = v) ∧ ∀ a b, a ≠ 6 → h'.1 a b = h.1 a b := by
  have key : ∀ (m i : Nat) (h1 : zH), i + m = 12 → (∀ a b, a ≠ 6 → h1.1 a b = h.1 a b) → (∀ d, d < i → h1.1 6 d = v) → ∃ h', zG M_J7_fill_53178 (fun r1 h2 => r1 = none ∧ h2 = h') (zat M_J7_fill_53178 5) [some (.ref 6), some (.int v), some (.int (nI i)), some (.int 12)] [] h1 ∧ (∀ j, j < 12 → h'.1 6 j = v) ∧ ∀ a b, a ≠ 6 → h'.1 a b = h.1 a b := by
    intro m
    induction m with
    | zero =>
      intro i h1 hi hf hd
      have : i = 12 := by omega
      subst this
      exact ⟨h1, t_J7_fill_53178_5 _ _ _ _ _ ⟨fun _ => ⟨rfl, rfl⟩, fun z => absurd (by decide) z⟩, hd, hf⟩
    | succ m ih =>
      intro i h1 hi hf hd
      obtain ⟨h', g1, g2⟩ := ih (i + 1) (zsi h1 6 i v) (by omega) (fun a b ha => by rw [zr_ne ha]; exact hf a b ha) (fun d hd2 => by
        by_cases e : d = i
        · subst e; rw [zr_eq]
        · rw [zr_nj e]; exact hd d (by omega))
      refine ⟨h', t_J7_fill_53178_5 _ _ _ _ _ ⟨fun z => ?_, fun _ => ⟨vp_in_nI (by omega) (by omega), ?_⟩⟩, g2⟩
      · rw [q12, nI_leI (by omega) (by omega)] at z; omega
      · rw [nI_clamp (by omega), nI_1]; exact g1
  obtain ⟨h', g1, g2⟩ := key 12 0 h (by omega) (fun _ _ _ => rfl) (fun d hd => by omega)
  exact ⟨h', r_J7_fill_53178 _ _ _ _ rfl (t_J7_fill_53178_0 _ _ _ g1), g2⟩
theorem lof_cg {g g' : Nat → Nat} (hg : ∀ i, i ≤ 900 → g i = g' i) (r : Nat) : lof g r = lof g' r := by
  refine lo_uniq (lof_is g r) ?_
  obtain ⟨a, b, c⟩ := lof_is g' r
  exact ⟨a, fun j hj => by rw [hg j (by omega)]; exact b j hj, fun hl => by rw [hg _ hl]; exact c hl⟩
theorem rgO_cg {g g' : Nat → Nat} (hg : ∀ i, i ≤ 900 → g i = g' i) (w : Nat) : ∀ n, n ≤ 901 → rgO g w n = rgO g' w n
  | 0, _ => rfl
  | n + 1, hn => by
    have ih := rgO_cg hg w n (by omega)
    have e : turnO g w n = turnO g' w n := by
      unfold turnO
      rw [hg n (by omega), lof_cg hg]
    show mnO _ _ = mnO _ _
    rw [ih, e]
theorem rg_cg {t t' : Nat → Nat} (ht : ∀ j, 10 ≤ j → j ≤ 20 → t j = t' j) (w : Nat) : rg t w = rg t' w := by
  refine rgO_cg (fun i hi => ?_) w 901 (by omega)
  unfold bn
  rw [ht (10 * 1 + i / 100) (by omega) (by omega)]
  by_cases h9 : i = 900
  · subst h9
    simp
  · rw [ht (10 * 1 + i / 100 + 1) (by omega) (by omega)]
def upT (t : Nat → Nat) (a v : Nat) : Nat → Nat := fun j => if j = a then v else t j
theorem upT_TV {t : Nat → Nat} (hv : TV t) {s k v : Nat} (hs : s ≤ 2) (hk1 : 1 ≤ k) (hk : k ≤ 9) (hvk : v ≤ 100 * k) (hlo : t (10 * s + k - 1) ≤ v) (hhi : k < 9 → v ≤ t (10 * s + k + 1)) : TV (upT t (10 * s + k) v) := by
  intro s' hs'
  obtain ⟨b1, b2, b3⟩ := hv s' hs'
  refine ⟨?_, fun j hj => ?_, fun j hj => ?_⟩
  · unfold upT; rw [if_neg (by omega)]; exact b1
  · have := b2 j hj
    unfold upT
    by_cases e1 : 10 * s' + j = 10 * s + k
    · have : s' = s := by omega
      subst this
      have : j = k := by omega
      subst this
      rw [if_pos rfl, if_neg (by omega)]
      have := hhi hj
      rw [← Nat.add_assoc]; exact this
    · rw [if_neg e1]
      by_cases e2 : 10 * s' + (j + 1) = 10 * s + k
      · have : s' = s := by omega
        subst this
        have : k = j + 1 := by omega
        subst this
        rw [if_pos rfl]
        have e3 : 10 * s' + (j + 1) - 1 = 10 * s' + j := by omega
        rw [e3] at hlo; exact hlo
      · rw [if_neg e2]; exact this
  · unfold upT
    by_cases e1 : 10 * s' + j = 10 * s + k
    · rw [if_pos e1]
      have : j = k := by omega
      subst this; exact hvk
    · rw [if_neg e1]; exact b3 j hj
theorem c_changeTable {h : zH} {t : Nat → Nat} (ht : ∀ j, j < 30 → t j ≤ 900 ∧ h.1 2 j = nI (t j)) {s k v : Nat} (hs : s ≤ 2) (hk1 : 1 ≤ k) (hk : k ≤ 9) (hv : v ≤ 900) :
    ((v < t (10 * s + k - 1) ∨ (k < 9 ∧ t (10 * s + k + 1) < v)) → R_X6_changeTable [.ref 1, .int (nI s), .int (nI k), .int (nI v)] h (some (.int (-2))) h) ∧
    (¬ (v < t (10 * s + k - 1) ∨ (k < 9 ∧ t (10 * s + k + 1) < v)) → ∃ h', R_X6_changeTable [.ref 1, .int (nI s), .int (nI k), .int (nI v)] h (some (.int (nI (t (10 * s + k))))) h' ∧ (∀ j, h'.1 2 j = if j = 10 * s + k then nI v else h.1 2 j) ∧ (∀ a j, a ≠ 2 → a ≠ 6 → h'.1 a j = h.1 a j) ∧ (s ≠ 1 → ∀ j, h'.1 6 j = h.1 6 j) ∧ (s = 1 → ∀ j, j < 12 → h'.1 6 j = -1)) := by
  have e1 : nI s * 10 + nI k = nI (10 * s + k) := by rw [q10, pk_mul, nI_add, Nat.mul_comm]
  have e2 : nI (10 * s + k) - 1 = nI (10 * s + k - 1) := by rw [q1, pk_sub (by omega)]
  have e3 : nI (10 * s + k) + 1 = nI (10 * s + k + 1) := nI_1 _
  obtain ⟨m1, m2⟩ := ht (10 * s + k - 1) (by omega)
  obtain ⟨m3, m4⟩ := ht (10 * s + k) (by omega)
  have v1 : vp_in (nI (10 * s + k - 1)) 30 := vp_in_nI (by omega) (by omega)
  have v2 : vp_in (nI (10 * s + k)) 30 := vp_in_nI (by omega) (by omega)
  have c1 : (nI (10 * s + k - 1)).toNatClampNeg = 10 * s + k - 1 := nI_clamp (by omega)
  have c2 : (nI (10 * s + k)).toNatClampNeg = 10 * s + k := nI_clamp (by omega)
  have c3 : (nI (10 * s + k + 1)).toNatClampNeg = 10 * s + k + 1 := nI_clamp (by omega)
  constructor
  · intro hno
    refine r_X6_changeTable _ _ _ _ _ _ ⟨_, rfl⟩ (t_X6_changeTable_0 _ _ _ _ _ ?_)
    rw [e1, e2, e3, c1, c2, c3, m2, nI_ltI (by omega) (by omega), q9, nI_leI (by omega) (by omega)]
    refine ⟨v1, fun _ => ⟨rfl, rfl⟩, fun z => ⟨fun z2 => absurd hno (by omega), fun z2 => ?_⟩⟩
    obtain ⟨m5, m6⟩ := ht (10 * s + k + 1) (by omega)
    rw [m6, nI_leI (by omega) (by omega)]
    exact ⟨vp_in_nI (by omega) (by omega), fun z3 => absurd hno (by omega), fun _ => ⟨rfl, rfl⟩⟩
  · intro hyes
    have fin : ∃ h', (vp_in (nI (10 * s + k)) 30 ∧ vp_in (nI (10 * s + k)) 30 ∧ (¬ nI s = 1 → some (Value.int (h.1 2 (10 * s + k))) = some (Value.int (nI (t (10 * s + k)))) ∧ zsi h 2 (10 * s + k) (nI v) = h') ∧ (¬ ¬ nI s = 1 → ∃ h1 : zH, R_J7_fill_53178 [.ref 6, .int (-1)] (zsi h 2 (10 * s + k) (nI v)) none h1 ∧ some (Value.int (h.1 2 (10 * s + k))) = some (Value.int (nI (t (10 * s + k)))) ∧ h1 = h')) ∧ (∀ j, h'.1 2 j = if j = 10 * s + k then nI v else h.1 2 j) ∧ (∀ a j, a ≠ 2 → a ≠ 6 → h'.1 a j = h.1 a j) ∧ (s ≠ 1 → ∀ j, h'.1 6 j = h.1 6 j) ∧ (s = 1 → ∀ j, j < 12 → h'.1 6 j = -1) := by
      have tb : ∀ j, (zsi h 2 (10 * s + k) (nI v)).1 2 j = if j = 10 * s + k then nI v else h.1 2 j := by
        intro j
        by_cases e : j = 10 * s + k
        · subst e; rw [zr_eq, if_pos rfl]
        · rw [zr_nj e, if_neg e]
      by_cases hs1 : s = 1
      · subst hs1
        obtain ⟨h', f1, f2, f3⟩ := c_fill6 (h := zsi h 2 (10 * 1 + k) (nI v)) (v := -1)
        refine ⟨h', ⟨v2, v2, fun z => absurd rfl z, fun _ => ⟨h', f1, by rw [m4], rfl⟩⟩, fun j => by rw [f3 2 j (by omega)]; exact tb j, fun a j ha h6 => by rw [f3 a j h6, zr_ne ha], fun z => absurd rfl z, fun _ => f2⟩
      · have hne : ¬ nI s = 1 := by rw [q1, nI_eq (by omega) (by omega)]; exact hs1
        exact ⟨zsi h 2 (10 * s + k) (nI v), ⟨v2, v2, fun _ => ⟨by rw [m4], rfl⟩, fun z => absurd hne z⟩, tb, fun a j ha _ => zr_ne ha, fun _ j => zr_ne (by omega), fun z => absurd z hs1⟩
    obtain ⟨h', g1, g2⟩ := fin
    refine ⟨h', r_X6_changeTable _ _ _ _ _ _ ⟨_, rfl⟩ (t_X6_changeTable_0 _ _ _ _ _ ?_), g2⟩
    rw [e1, e2, e3, c1, c2, c3, m2, nI_ltI (by omega) (by omega), q9, nI_leI (by omega) (by omega)]
    refine ⟨v1, fun z => absurd (Or.inl z) hyes, fun z => ⟨fun z2 => g1, fun z2 => ?_⟩⟩
    obtain ⟨m5, m6⟩ := ht (10 * s + k + 1) (by omega)
    rw [m6, nI_leI (by omega) (by omega)]
    exact ⟨vp_in_nI (by omega) (by omega), fun _ => g1, fun z3 => absurd (Or.inr ⟨by omega, by omega⟩) hyes⟩
theorem TV_900 {t : Nat → Nat} (hv : TV t) {j : Nat} (hj : j < 30) : t j ≤ 900 := by
  have := (hv (j / 10) (by omega)).2.2 (j % 10) (by omega)
  rw [show 10 * (j / 10) + j % 10 = j by omega] at this
  omega
set_option maxHeartbeats 4000000 in
set_option maxRecDepth 100000 in
theorem p_table {h : zH} (hi : Inv h) (a b c : Int32) : Pair R_X7_table R_X8_table [.int a, .int b, .int c] h := by
  obtain ⟨t, f, sh, sk, n, w, hs⟩ := hi.1
  by_cases hv : (0 ≤ a ∧ a ≤ 2) ∧ (1 ≤ b ∧ b ≤ 9) ∧ (0 ≤ c ∧ c ≤ 100 * b)
  · obtain ⟨s, hs1, rfl⟩ := in_n (b := 2) (by omega) hv.1.1 hv.1.2
    have hb0 : (0 : Int32) ≤ b := Int32.le_trans (by decide) hv.2.1.1
    obtain ⟨k, hk1, rfl⟩ := in_n (b := 9) (by omega) hb0 hv.2.1.2
    have hk0 : 1 ≤ k := (nI_leI (a := 1) (b := k) (by omega) (by omega)).mp hv.2.1.1
    have e100 : 100 * nI k = nI (100 * k) := by rw [q100, pk_mul]
    obtain ⟨v, hv1, rfl⟩ := in_n (b := 100 * k) (by omega) hv.2.2.1 (by rw [← e100]; exact hv.2.2.2)
    obtain ⟨a1, a2, a3, a4, a5, a6, a7, a8, a9, a10, a11, a12, a13⟩ := id hs
    obtain ⟨cn, cy⟩ := c_changeTable (h := h) (t := t) (fun j hj => ⟨TV_900 a1 hj, (a5 j hj).1⟩) (s := s) (k := k) (v := v) hs1 hk0 hk1 (by omega)
    have e1 : 10 * nI s + nI k = nI (10 * s + k) := by rw [q10, pk_mul, nI_add]
    have e2 : nI (10 * s + k) - 1 = nI (10 * s + k - 1) := by rw [q1, pk_sub (by omega)]
    have e3 : nI (10 * s + k) + 1 = nI (10 * s + k + 1) := nI_1 _
    have v1 : vp_in (nI (10 * s + k - 1)) 30 := vp_in_nI (by omega) (by omega)
    have v2 : vp_in (nI (10 * s + k)) 30 := vp_in_nI (by omega) (by omega)
    have c1 : (nI (10 * s + k - 1)).toNatClampNeg = 10 * s + k - 1 := nI_clamp (by omega)
    have c2 : (nI (10 * s + k)).toNatClampNeg = 10 * s + k := nI_clamp (by omega)
    have c3 : (nI (10 * s + k + 1)).toNatClampNeg = 10 * s + k + 1 := nI_clamp (by omega)
    have b0 := TV_900 a1 (j := 10 * s + k - 1) (by omega)
    have m1 := (a5 (10 * s + k - 1) (by omega)).2
    have m2 := (a5 (10 * s + k) (by omega)).2
    by_cases hno : v < t (10 * s + k - 1) ∨ (k < 9 ∧ t (10 * s + k + 1) < v)
    · refine ⟨.int (-2), h, h, r_X7_table _ _ _ _ _ _ ⟨_, rfl⟩ (t_X7_table_0 _ _ _ _ _ (gd (fun z => absurd hv.1 z) (fun _ _ => gd (fun z => absurd hv.2.1 z) (fun _ _ => gd' (fun _ _ => ⟨_, _, cn hno, rfl, rfl⟩) (fun z => absurd hv.2.2 z))))), r_X8_table _ _ _ _ _ _ ⟨_, rfl⟩ (t_X8_table_0 _ _ _ _ _ (ge (fun z => absurd hv.1 z) (fun _ _ => ge (fun z => absurd hv.2.1 z) (fun _ _ => ge' (fun _ _ => ?_) (fun z => absurd hv.2.2 z))))), hi⟩
      rw [e1, e2, e3, c1, c2, c3, m1, nI_ltI (by omega) (by omega), q9, nI_leI (by omega) (by omega)]
      refine ⟨v1, fun _ => ⟨rfl, rfl⟩, fun z => ⟨fun z2 => absurd hno (by omega), fun z2 => ?_⟩⟩
      have b1 := TV_900 a1 (j := 10 * s + k + 1) (by omega)
      rw [(a5 (10 * s + k + 1) (by omega)).2, nI_leI (by omega) (by omega)]
      exact ⟨vp_in_nI (by omega) (by omega), fun z3 => absurd hno (by omega), fun _ => ⟨rfl, rfl⟩⟩
    · obtain ⟨h1, r1, t1, f1, k1, k2⟩ := cy hno
      refine ⟨.int (nI (t (10 * s + k))), h1, zsi h1 43 (10 * s + k) (nI v), r_X7_table _ _ _ _ _ _ ⟨_, rfl⟩ (t_X7_table_0 _ _ _ _ _ (gd (fun z => absurd hv.1 z) (fun _ _ => gd (fun z => absurd hv.2.1 z) (fun _ _ => gd' (fun _ _ => ⟨_, _, r1, rfl, rfl⟩) (fun z => absurd hv.2.2 z))))), r_X8_table _ _ _ _ _ _ ⟨_, rfl⟩ (t_X8_table_0 _ _ _ _ _ (ge (fun z => absurd hv.1 z) (fun _ _ => ge (fun z => absurd hv.2.1 z) (fun _ _ => ge' (fun _ _ => ?_) (fun z => absurd hv.2.2 z))))), ?_⟩
      · rw [e1, e2, e3, c1, c2, c3, f1 43 _ (by omega) (by omega), m1, nI_ltI (by omega) (by omega), q9, nI_leI (by omega) (by omega), f1 43 _ (by omega) (by omega), m2]
        refine ⟨v1, fun z => absurd (Or.inl z) hno, fun z => ⟨fun z2 => ⟨v2, v2, rfl, rfl⟩, fun z2 => ?_⟩⟩
        have b1 := TV_900 a1 (j := 10 * s + k + 1) (by omega)
        rw [f1 43 _ (by omega) (by omega), (a5 (10 * s + k + 1) (by omega)).2, nI_leI (by omega) (by omega)]
        exact ⟨vp_in_nI (by omega) (by omega), fun _ => ⟨v2, v2, rfl, rfl⟩, fun z3 => absurd (Or.inr ⟨by omega, by omega⟩) hno⟩
      · have he : ∀ a j, a ≠ 2 → a ≠ 6 → a ≠ 43 → (zsi h1 43 (10 * s + k) (nI v)).1 a j = h.1 a j := fun a j p q r => by rw [zr_ne r]; exact f1 a j p q
        refine ⟨⟨upT t (10 * s + k) v, f, sh, sk, n, w, upT_TV a1 hs1 hk0 hk1 hv1 (by omega) (fun q => by omega), a2, a3, a4, fun j hj => ?_, ?_, ?_, ?_, ?_, ?_, fun k' hk' => ?_, fun j hj => ?_, fun k' hk' i hi' => ?_⟩, hi.2.1.cg (fun a j hg => he a j (by unfold gM at hg; omega) (by unfold gM at hg; omega) (by unfold gM at hg; omega)), hi.2.2.1.cg (fun a j hg => he a j (by unfold gP at hg; omega) (by unfold gP at hg; omega) (by unfold gP at hg; omega)), hi.2.2.2.1.cg (fun a j hg => he a j (by unfold gD at hg; omega) (by unfold gD at hg; omega) (by unfold gD at hg; omega)), hi.2.2.2.2.cg (fun a j hg => he a j (by unfold gK at hg; omega) (by unfold gK at hg; omega) (by unfold gK at hg; omega))⟩
        · rw [zr_ne (by omega), t1 j]
          unfold upT
          by_cases e : j = 10 * s + k
          · subst e; rw [zr_eq, if_pos rfl, if_pos rfl]; exact ⟨rfl, rfl⟩
          · rw [zr_nj e, if_neg e, if_neg e, f1 43 _ (by omega) (by omega)]; exact a5 j hj
        · dsimp only; rw [he 3 0 (by omega) (by omega) (by omega), he 42 _ (by omega) (by omega) (by omega)]; exact a6
        · dsimp only; rw [he 3 1 (by omega) (by omega) (by omega), he 42 _ (by omega) (by omega) (by omega)]; exact a7
        · dsimp only; rw [he 3 2 (by omega) (by omega) (by omega), he 42 _ (by omega) (by omega) (by omega)]; exact a8
        · dsimp only; rw [he 3 3 (by omega) (by omega) (by omega), he 42 _ (by omega) (by omega) (by omega)]; exact a9
        · dsimp only; rw [he 3 4 (by omega) (by omega) (by omega), he 42 _ (by omega) (by omega) (by omega)]; exact a10
        · rw [he 5 k' (by omega) (by omega) (by omega), he 44 k' (by omega) (by omega) (by omega)]; exact a11 k' hk'
        · rw [he 4 j (by omega) (by omega) (by omega), he 45 j (by omega) (by omega) (by omega)]; exact a12 j hj
        · have hn3 := (a11 k' hk').1
          rw [zr_ne (by omega)]
          by_cases e : s = 1
          · exact Or.inl (k2 e _ (by omega))
          · rw [k1 e, rg_cg (t := upT t (10 * s + k) v) (t' := t) (fun j j1 j2 => by unfold upT; rw [if_neg (by omega)])]
            exact a13 k' hk' i hi'
  · exact ⟨.int (-1), h, h, r_X7_table _ _ _ _ _ _ ⟨_, rfl⟩ (t_X7_table_0 _ _ _ _ _ (gd (fun _ => ⟨rfl, rfl⟩) (fun u0 w0 => gd (fun _ => ⟨rfl, rfl⟩) (fun u1 w1 => gd' (fun u2 w2 => absurd ⟨⟨u0, w0⟩, ⟨u1, w1⟩, u2, w2⟩ hv) (fun _ => ⟨rfl, rfl⟩))))), r_X8_table _ _ _ _ _ _ ⟨_, rfl⟩ (t_X8_table_0 _ _ _ _ _ (ge (fun _ => ⟨rfl, rfl⟩) (fun u0 w0 => ge (fun _ => ⟨rfl, rfl⟩) (fun u1 w1 => ge' (fun u2 w2 => absurd ⟨⟨u0, w0⟩, ⟨u1, w1⟩, u2, w2⟩ hv) (fun _ => ⟨rfl, rfl⟩))))), hi⟩
set_option maxHeartbeats 4000000 in
set_option maxRecDepth 100000 in
theorem p_rule {h : zH} (hi : Inv h) (a b : Int32) : Pair R_X7_rule R_X8_rule [.int a, .int b] h := by
  obtain ⟨t, f, sh, sk, n, w, hs⟩ := hi.1
  obtain ⟨a1, a2, a3, a4, a5, a6, a7, a8, a9, a10, a11, a12, a13⟩ := id hs
  by_cases hv : 0 ≤ a ∧ a ≤ 4
  · obtain ⟨j, hj1, rfl⟩ := in_n (b := 4) (by omega) hv.1 hv.2
    have vp : vp_in (nI j) 5 := vp_in_nI (by omega) (by omega)
    have hc : (nI j).toNatClampNeg = j := nI_clamp (by omega)
    have ej : (nI j).toInt = (j : Int) := nI_toInt (by omega)
    -- what changes
    have fin : ∀ j, j ≤ 4 → ∀ b : Int32, (j = 0 → ∃ x, x ≤ 20 ∧ b = nI x) → (j = 2 → ∃ x, x ≤ 100 ∧ b = nI x) → (j = 3 → ∃ x, 500 ≤ x ∧ x ≤ 9000 ∧ b = nI x) → Inv (zsi (zsi h 3 j b) 42 (j + 1) b) := by
      intro j hj b h0 h2 h3
      have he : ∀ a i, a ≠ 3 → (a = 42 → i ≠ j + 1) → (zsi (zsi h 3 j b) 42 (j + 1) b).1 a i = h.1 a i := fun a i p q => by
        by_cases e : a = 42
        · rw [zr_nj (q e), zr_ne p]
        · rw [zr_ne e, zr_ne p]
      have r3 : ∀ i, (zsi (zsi h 3 j b) 42 (j + 1) b).1 3 i = if i = j then b else h.1 3 i := fun i => by
        rw [zr_ne (by omega)]
        by_cases e : i = j
        · subst e; rw [zr_eq, if_pos rfl]
        · rw [zr_nj e, if_neg e]
      have r4 : ∀ i, (zsi (zsi h 3 j b) 42 (j + 1) b).1 42 (i + 1) = if i = j then b else h.1 42 (i + 1) := fun i => by
        by_cases e : i = j
        · subst e; rw [zr_eq, if_pos rfl]
        · rw [zr_nj (by omega), zr_ne (by omega), if_neg e]
      refine ⟨?_, hi.2.1.cg (fun a i hg => he a i (by unfold gM at hg; omega) (by unfold gM at hg; omega)), hi.2.2.1.cg (fun a i hg => he a i (by unfold gP at hg; omega) (by unfold gP at hg; omega)), hi.2.2.2.1.cg (fun a i hg => he a i (by unfold gD at hg; omega) (by unfold gD at hg; omega)), hi.2.2.2.2.cg (fun a i hg => he a i (by unfold gK at hg; omega) (by unfold gK at hg; omega))⟩
      obtain ⟨f', hf', ef⟩ : ∃ f', f' ≤ 20 ∧ ((if 0 = j then b else h.1 3 0) = nI f' ∧ (if 0 = j then b else h.1 42 (0 + 1)) = nI f') := by
        by_cases e : 0 = j
        · obtain ⟨x, x1, x2⟩ := h0 e.symm
          exact ⟨x, x1, by rw [if_pos e, if_pos e]; exact ⟨x2, x2⟩⟩
        · exact ⟨f, a2, by rw [if_neg e, if_neg e]; exact a6⟩
      obtain ⟨sh', hsh', esh⟩ : ∃ f', f' ≤ 100 ∧ ((if 2 = j then b else h.1 3 2) = nI f' ∧ (if 2 = j then b else h.1 42 (2 + 1)) = nI f') := by
        by_cases e : 2 = j
        · obtain ⟨x, x1, x2⟩ := h2 e.symm
          exact ⟨x, x1, by rw [if_pos e, if_pos e]; exact ⟨x2, x2⟩⟩
        · exact ⟨sh, a3, by rw [if_neg e, if_neg e]; exact a8⟩
      obtain ⟨sk', hsk', esk⟩ : ∃ f', (500 ≤ f' ∧ f' ≤ 9000) ∧ ((if 3 = j then b else h.1 3 3) = nI f' ∧ (if 3 = j then b else h.1 42 (3 + 1)) = nI f') := by
        by_cases e : 3 = j
        · obtain ⟨x, x0, x1, x2⟩ := h3 e.symm
          exact ⟨x, ⟨x0, x1⟩, by rw [if_pos e, if_pos e]; exact ⟨x2, x2⟩⟩
        · exact ⟨sk, a4, by rw [if_neg e, if_neg e]; exact a9⟩
      refine ⟨t, f', sh', sk', n, w, a1, hf', hsh', hsk', fun i hi => ?_, ?_, ?_, ?_, ?_, ?_, fun k hk => ?_, fun i hi => ?_, fun k hk i hi => ?_⟩
      · rw [he 2 i (by omega) (by omega), he 43 i (by omega) (by omega)]; exact a5 i hi
      · dsimp only; rw [r3, r4]; exact ef
      · dsimp only; rw [r3, r4]
        by_cases e : 1 = j
        · rw [if_pos e, if_pos e]
        · rw [if_neg e, if_neg e]; exact a7
      · dsimp only; rw [r3, r4]; exact esh
      · dsimp only; rw [r3, r4]; exact esk
      · dsimp only; rw [r3, r4]
        by_cases e : 4 = j
        · rw [if_pos e, if_pos e]
        · rw [if_neg e, if_neg e]; exact a10
      · rw [he 5 k (by omega) (by omega), he 44 k (by omega) (by omega)]; exact a11 k hk
      · rw [he 4 i (by omega) (by omega), he 45 i (by omega) (by omega)]; exact a12 i hi
      · rw [he 6 _ (by omega) (by omega)]; exact a13 k hk i hi
    have eqR : ∀ j, j ≤ 4 → h.1 3 j = h.1 42 (j + 1) := by
      intro j hj
      rcases (by omega : j = 0 ∨ j = 1 ∨ j = 2 ∨ j = 3 ∨ j = 4) with rfl | rfl | rfl | rfl | rfl
      · exact a6.1.trans a6.2.symm
      · exact a7
      · exact a8.1.trans a8.2.symm
      · exact a9.1.trans a9.2.symm
      · exact a10
    rcases (by omega : j = 0 ∨ j = 1 ∨ j = 2 ∨ j = 3 ∨ j = 4) with e | e | e | e | e
    · subst e
      by_cases hb : 0 ≤ b ∧ b ≤ 20
      · obtain ⟨x, x1, rfl⟩ := in_n (b := 20) (by omega) hb.1 hb.2
        refine ⟨.int (h.1 3 0), zsi h 3 0 (nI x), zsi (zsi h 3 0 (nI x)) 42 1 (nI x), r_X7_rule _ _ _ _ _ ⟨_, rfl⟩ (t_X7_rule_0 _ _ _ _ (gd (fun z => absurd hv z) (fun _ _ => ?_))), r_X8_rule _ _ _ _ _ ⟨_, rfl⟩ (t_X8_rule_0 _ _ _ _ ?_), fin 0 (by omega) _ (fun _ => ⟨x, x1, rfl⟩) (fun z => absurd z (by omega)) (fun z => absurd z (by omega))⟩
        · rw [hc]
          exact ⟨vp, vp, gd' (a := 0) (b := 20) (fun _ _ => ⟨vp, vp, rfl, rfl⟩) (fun z => absurd hb z)⟩
        · rw [ej]
          exact ⟨fun z => absurd z (by omega), fun z => ge' (fun _ _ => ⟨by rw [zr_ne (by omega), eqR 0 (by omega)], rfl⟩) (fun z => absurd hb z), fun z => absurd z (by omega), fun z => absurd z (by omega), fun z => absurd z (by omega), fun z => absurd z (by omega), trivial⟩
      · refine ⟨.int (-1000), h, h, r_X7_rule _ _ _ _ _ ⟨_, rfl⟩ (t_X7_rule_0 _ _ _ _ (gd (fun z => absurd hv z) (fun _ _ => ?_))), r_X8_rule _ _ _ _ _ ⟨_, rfl⟩ (t_X8_rule_0 _ _ _ _ ?_), hi⟩
        · rw [hc]
          exact ⟨vp, vp, gd' (a := 0) (b := 20) (fun u v => absurd ⟨u, v⟩ hb) (fun _ => ⟨rfl, rfl⟩)⟩
        · rw [ej]
          exact ⟨fun z => absurd z (by omega), fun z => ge' (fun u v => absurd ⟨u, v⟩ hb) (fun _ => ⟨rfl, rfl⟩), fun z => absurd z (by omega), fun z => absurd z (by omega), fun z => absurd z (by omega), fun z => absurd z (by omega), trivial⟩
    · subst e
      by_cases hb : (-100) ≤ b ∧ b ≤ 100
      · skip
        refine ⟨.int (h.1 3 1), zsi h 3 1 (b), zsi (zsi h 3 1 (b)) 42 2 (b), r_X7_rule _ _ _ _ _ ⟨_, rfl⟩ (t_X7_rule_0 _ _ _ _ (gd (fun z => absurd hv z) (fun _ _ => ?_))), r_X8_rule _ _ _ _ _ ⟨_, rfl⟩ (t_X8_rule_0 _ _ _ _ ?_), fin 1 (by omega) _ (fun z => absurd z (by omega)) (fun z => absurd z (by omega)) (fun z => absurd z (by omega))⟩
        · rw [hc]
          exact ⟨vp, vp, gd' (a := (-100)) (b := 100) (fun _ _ => ⟨vp, vp, rfl, rfl⟩) (fun z => absurd hb z)⟩
        · rw [ej]
          exact ⟨fun z => absurd z (by omega), fun z => absurd z (by omega), fun z => ge' (fun _ _ => ⟨by rw [zr_ne (by omega), eqR 1 (by omega)], rfl⟩) (fun z => absurd hb z), fun z => absurd z (by omega), fun z => absurd z (by omega), fun z => absurd z (by omega), trivial⟩
      · refine ⟨.int (-1000), h, h, r_X7_rule _ _ _ _ _ ⟨_, rfl⟩ (t_X7_rule_0 _ _ _ _ (gd (fun z => absurd hv z) (fun _ _ => ?_))), r_X8_rule _ _ _ _ _ ⟨_, rfl⟩ (t_X8_rule_0 _ _ _ _ ?_), hi⟩
        · rw [hc]
          exact ⟨vp, vp, gd' (a := (-100)) (b := 100) (fun u v => absurd ⟨u, v⟩ hb) (fun _ => ⟨rfl, rfl⟩)⟩
        · rw [ej]
          exact ⟨fun z => absurd z (by omega), fun z => absurd z (by omega), fun z => ge' (fun u v => absurd ⟨u, v⟩ hb) (fun _ => ⟨rfl, rfl⟩), fun z => absurd z (by omega), fun z => absurd z (by omega), fun z => absurd z (by omega), trivial⟩
    · subst e
      by_cases hb : 0 ≤ b ∧ b ≤ 100
      · obtain ⟨x, x1, rfl⟩ := in_n (b := 100) (by omega) hb.1 hb.2
        refine ⟨.int (h.1 3 2), zsi h 3 2 (nI x), zsi (zsi h 3 2 (nI x)) 42 3 (nI x), r_X7_rule _ _ _ _ _ ⟨_, rfl⟩ (t_X7_rule_0 _ _ _ _ (gd (fun z => absurd hv z) (fun _ _ => ?_))), r_X8_rule _ _ _ _ _ ⟨_, rfl⟩ (t_X8_rule_0 _ _ _ _ ?_), fin 2 (by omega) _ (fun z => absurd z (by omega)) (fun _ => ⟨x, x1, rfl⟩) (fun z => absurd z (by omega))⟩
        · rw [hc]
          exact ⟨vp, vp, gd' (a := 0) (b := 100) (fun _ _ => ⟨vp, vp, rfl, rfl⟩) (fun z => absurd hb z)⟩
        · rw [ej]
          exact ⟨fun z => absurd z (by omega), fun z => absurd z (by omega), fun z => absurd z (by omega), fun z => ge' (fun _ _ => ⟨by rw [zr_ne (by omega), eqR 2 (by omega)], rfl⟩) (fun z => absurd hb z), fun z => absurd z (by omega), fun z => absurd z (by omega), trivial⟩
      · refine ⟨.int (-1000), h, h, r_X7_rule _ _ _ _ _ ⟨_, rfl⟩ (t_X7_rule_0 _ _ _ _ (gd (fun z => absurd hv z) (fun _ _ => ?_))), r_X8_rule _ _ _ _ _ ⟨_, rfl⟩ (t_X8_rule_0 _ _ _ _ ?_), hi⟩
        · rw [hc]
          exact ⟨vp, vp, gd' (a := 0) (b := 100) (fun u v => absurd ⟨u, v⟩ hb) (fun _ => ⟨rfl, rfl⟩)⟩
        · rw [ej]
          exact ⟨fun z => absurd z (by omega), fun z => absurd z (by omega), fun z => absurd z (by omega), fun z => ge' (fun u v => absurd ⟨u, v⟩ hb) (fun _ => ⟨rfl, rfl⟩), fun z => absurd z (by omega), fun z => absurd z (by omega), trivial⟩
    · subst e
      by_cases hb : 500 ≤ b ∧ b ≤ 9000
      · obtain ⟨x, x1, rfl⟩ := in_n (b := 9000) (by omega) (Int32.le_trans (by decide) hb.1) hb.2
        have x0 : 500 ≤ x := (nI_leI (a := 500) (b := x) (by omega) (by omega)).mp hb.1
        refine ⟨.int (h.1 3 3), zsi h 3 3 (nI x), zsi (zsi h 3 3 (nI x)) 42 4 (nI x), r_X7_rule _ _ _ _ _ ⟨_, rfl⟩ (t_X7_rule_0 _ _ _ _ (gd (fun z => absurd hv z) (fun _ _ => ?_))), r_X8_rule _ _ _ _ _ ⟨_, rfl⟩ (t_X8_rule_0 _ _ _ _ ?_), fin 3 (by omega) _ (fun z => absurd z (by omega)) (fun z => absurd z (by omega)) (fun _ => ⟨x, x0, x1, rfl⟩)⟩
        · rw [hc]
          exact ⟨vp, vp, gd' (a := 500) (b := 9000) (fun _ _ => ⟨vp, vp, rfl, rfl⟩) (fun z => absurd hb z)⟩
        · rw [ej]
          exact ⟨fun z => absurd z (by omega), fun z => absurd z (by omega), fun z => absurd z (by omega), fun z => absurd z (by omega), fun z => ge' (fun _ _ => ⟨by rw [zr_ne (by omega), eqR 3 (by omega)], rfl⟩) (fun z => absurd hb z), fun z => absurd z (by omega), trivial⟩
      · refine ⟨.int (-1000), h, h, r_X7_rule _ _ _ _ _ ⟨_, rfl⟩ (t_X7_rule_0 _ _ _ _ (gd (fun z => absurd hv z) (fun _ _ => ?_))), r_X8_rule _ _ _ _ _ ⟨_, rfl⟩ (t_X8_rule_0 _ _ _ _ ?_), hi⟩
        · rw [hc]
          exact ⟨vp, vp, gd' (a := 500) (b := 9000) (fun u v => absurd ⟨u, v⟩ hb) (fun _ => ⟨rfl, rfl⟩)⟩
        · rw [ej]
          exact ⟨fun z => absurd z (by omega), fun z => absurd z (by omega), fun z => absurd z (by omega), fun z => absurd z (by omega), fun z => ge' (fun u v => absurd ⟨u, v⟩ hb) (fun _ => ⟨rfl, rfl⟩), fun z => absurd z (by omega), trivial⟩
    · subst e
      by_cases hb : 0 ≤ b ∧ b ≤ 300
      · skip
        refine ⟨.int (h.1 3 4), zsi h 3 4 (b), zsi (zsi h 3 4 (b)) 42 5 (b), r_X7_rule _ _ _ _ _ ⟨_, rfl⟩ (t_X7_rule_0 _ _ _ _ (gd (fun z => absurd hv z) (fun _ _ => ?_))), r_X8_rule _ _ _ _ _ ⟨_, rfl⟩ (t_X8_rule_0 _ _ _ _ ?_), fin 4 (by omega) _ (fun z => absurd z (by omega)) (fun z => absurd z (by omega)) (fun z => absurd z (by omega))⟩
        · rw [hc]
          exact ⟨vp, vp, gd' (a := 0) (b := 300) (fun _ _ => ⟨vp, vp, rfl, rfl⟩) (fun z => absurd hb z)⟩
        · rw [ej]
          exact ⟨fun z => absurd z (by omega), fun z => absurd z (by omega), fun z => absurd z (by omega), fun z => absurd z (by omega), fun z => absurd z (by omega), fun z => ge' (fun _ _ => ⟨by rw [zr_ne (by omega), eqR 4 (by omega)], rfl⟩) (fun z => absurd hb z), trivial⟩
      · refine ⟨.int (-1000), h, h, r_X7_rule _ _ _ _ _ ⟨_, rfl⟩ (t_X7_rule_0 _ _ _ _ (gd (fun z => absurd hv z) (fun _ _ => ?_))), r_X8_rule _ _ _ _ _ ⟨_, rfl⟩ (t_X8_rule_0 _ _ _ _ ?_), hi⟩
        · rw [hc]
          exact ⟨vp, vp, gd' (a := 0) (b := 300) (fun u v => absurd ⟨u, v⟩ hb) (fun _ => ⟨rfl, rfl⟩)⟩
        · rw [ej]
          exact ⟨fun z => absurd z (by omega), fun z => absurd z (by omega), fun z => absurd z (by omega), fun z => absurd z (by omega), fun z => absurd z (by omega), fun z => ge' (fun u v => absurd ⟨u, v⟩ hb) (fun _ => ⟨rfl, rfl⟩), trivial⟩
  · have hx : a.toInt < 0 ∨ 4 < a.toInt := by
      rw [Int32.le_iff_toInt_le, Int32.le_iff_toInt_le] at hv
      have e0 : (0 : Int32).toInt = 0 := rfl
      have e4 : (4 : Int32).toInt = 4 := rfl
      omega
    exact ⟨.int (-1000), h, h, r_X7_rule _ _ _ _ _ ⟨_, rfl⟩ (t_X7_rule_0 _ _ _ _ (gd (fun _ => ⟨rfl, rfl⟩) (fun u v => absurd ⟨u, v⟩ hv))), r_X8_rule _ _ _ _ _ ⟨_, rfl⟩ (t_X8_rule_0 _ _ _ _ ⟨fun _ => ⟨rfl, rfl⟩, fun z => absurd hx (by omega), fun z => absurd hx (by omega), fun z => absurd hx (by omega), fun z => absurd hx (by omega), fun z => absurd hx (by omega), trivial⟩), hi⟩
end
