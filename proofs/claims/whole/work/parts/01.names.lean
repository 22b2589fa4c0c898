/-- a private method of a class that the tables say can be made, by its rows of tables_1 -/
def lw_okq (q : MethodName × Nat) : Prop := (q.1.cls ≠ "java/lang/invoke/MethodHandle" ∧ q.1.cls ≠ "java/lang/invoke/VarHandle") ∧ Cond.instantiable q.1.cls q.2 ∈ tables_1 ∧ Cond.privateMethod q.1 ∈ tables_1 ∧ Cond.instanceMethod q.1 ∈ tables_1
theorem lw_p0 : lw_okq (⟨"SunRings$Drops", "thrownBack", "(I)I"⟩, 3) := ⟨⟨by decide +kernel, by decide +kernel⟩, List.mem_of_getElem? (i := 65) (by decide +kernel), List.mem_of_getElem? (i := 274) (by decide +kernel), List.mem_of_getElem? (i := 275) (by decide +kernel)⟩
theorem lw_p1 : lw_okq (⟨"SunRings$Ice", "addArcs", "(II)V"⟩, 2) := ⟨⟨by decide +kernel, by decide +kernel⟩, List.mem_of_getElem? (i := 83) (by decide +kernel), List.mem_of_getElem? (i := 372) (by decide +kernel), List.mem_of_getElem? (i := 373) (by decide +kernel)⟩
theorem lw_p2 : lw_okq (⟨"SunRings$Ice", "addSpot", "(III)V"⟩, 2) := ⟨⟨by decide +kernel, by decide +kernel⟩, List.mem_of_getElem? (i := 83) (by decide +kernel), List.mem_of_getElem? (i := 376) (by decide +kernel), List.mem_of_getElem? (i := 377) (by decide +kernel)⟩
theorem lw_p3 : lw_okq (⟨"SunRings$Ice", "addLightsBehind", "(II)V"⟩, 2) := ⟨⟨by decide +kernel, by decide +kernel⟩, List.mem_of_getElem? (i := 83) (by decide +kernel), List.mem_of_getElem? (i := 382) (by decide +kernel), List.mem_of_getElem? (i := 383) (by decide +kernel)⟩
theorem lw_p4 : lw_okq (⟨"SunRings$Drawing", "allMarks", "()I"⟩, 4) := ⟨⟨by decide +kernel, by decide +kernel⟩, List.mem_of_getElem? (i := 116) (by decide +kernel), List.mem_of_getElem? (i := 415) (by decide +kernel), List.mem_of_getElem? (i := 416) (by decide +kernel)⟩
theorem lw_p5 : lw_okq (⟨"SunRings$Drawing", "marksLeft", "(III)I"⟩, 4) := ⟨⟨by decide +kernel, by decide +kernel⟩, List.mem_of_getElem? (i := 116) (by decide +kernel), List.mem_of_getElem? (i := 419) (by decide +kernel), List.mem_of_getElem? (i := 420) (by decide +kernel)⟩
theorem lw_p6 : lw_okq (⟨"SunRings$Drawing", "marksMet", "(III)I"⟩, 4) := ⟨⟨by decide +kernel, by decide +kernel⟩, List.mem_of_getElem? (i := 116) (by decide +kernel), List.mem_of_getElem? (i := 423) (by decide +kernel), List.mem_of_getElem? (i := 424) (by decide +kernel)⟩
theorem lw_p7 : lw_okq (⟨"SunRings$Drawing", "meets", "(II)Z"⟩, 4) := ⟨⟨by decide +kernel, by decide +kernel⟩, List.mem_of_getElem? (i := 116) (by decide +kernel), List.mem_of_getElem? (i := 428) (by decide +kernel), List.mem_of_getElem? (i := 429) (by decide +kernel)⟩
theorem lw_p8 : lw_okq (⟨"SunRings$Drawing", "coverWith", "(III)V"⟩, 4) := ⟨⟨by decide +kernel, by decide +kernel⟩, List.mem_of_getElem? (i := 116) (by decide +kernel), List.mem_of_getElem? (i := 447) (by decide +kernel), List.mem_of_getElem? (i := 448) (by decide +kernel)⟩
theorem lw_p9 : lw_okq (⟨"SunRings$Drawing", "meetsAny", "(I)Z"⟩, 4) := ⟨⟨by decide +kernel, by decide +kernel⟩, List.mem_of_getElem? (i := 116) (by decide +kernel), List.mem_of_getElem? (i := 462) (by decide +kernel), List.mem_of_getElem? (i := 463) (by decide +kernel)⟩
theorem lw_p10 : lw_okq (⟨"SunRings$Cut", "placesMet", "(II)I"⟩, 3) := ⟨⟨by decide +kernel, by decide +kernel⟩, List.mem_of_getElem? (i := 136) (by decide +kernel), List.mem_of_getElem? (i := 490) (by decide +kernel), List.mem_of_getElem? (i := 491) (by decide +kernel)⟩
theorem lw_p11 : lw_okq (⟨"SunRings$Cut", "placesNear", "(I)I"⟩, 3) := ⟨⟨by decide +kernel, by decide +kernel⟩, List.mem_of_getElem? (i := 136) (by decide +kernel), List.mem_of_getElem? (i := 496) (by decide +kernel), List.mem_of_getElem? (i := 497) (by decide +kernel)⟩
theorem lw_p12 : lw_okq (⟨"SunRingsModel", "lay", "(IIIIIIIIII)V"⟩, 29) := ⟨⟨by decide +kernel, by decide +kernel⟩, List.mem_of_getElem? (i := 576) (by decide +kernel), List.mem_of_getElem? (i := 582) (by decide +kernel), List.mem_of_getElem? (i := 583) (by decide +kernel)⟩
theorem lw_p13 : lw_okq (⟨"SunRingsModel", "bent", "(III)I"⟩, 29) := ⟨⟨by decide +kernel, by decide +kernel⟩, List.mem_of_getElem? (i := 576) (by decide +kernel), List.mem_of_getElem? (i := 690) (by decide +kernel), List.mem_of_getElem? (i := 691) (by decide +kernel)⟩
theorem lw_p14 : lw_okq (⟨"SunRingsModel", "least", "(III)I"⟩, 29) := ⟨⟨by decide +kernel, by decide +kernel⟩, List.mem_of_getElem? (i := 576) (by decide +kernel), List.mem_of_getElem? (i := 698) (by decide +kernel), List.mem_of_getElem? (i := 699) (by decide +kernel)⟩
theorem lw_p15 : lw_okq (⟨"SunRingsModel", "turns", "(III)I"⟩, 29) := ⟨⟨by decide +kernel, by decide +kernel⟩, List.mem_of_getElem? (i := 576) (by decide +kernel), List.mem_of_getElem? (i := 707) (by decide +kernel), List.mem_of_getElem? (i := 708) (by decide +kernel)⟩
def lw_privs_1 : List (MethodName × Nat) := [(⟨"SunRings$Drops", "thrownBack", "(I)I"⟩, 3), (⟨"SunRings$Ice", "addArcs", "(II)V"⟩, 2), (⟨"SunRings$Ice", "addSpot", "(III)V"⟩, 2), (⟨"SunRings$Ice", "addLightsBehind", "(II)V"⟩, 2), (⟨"SunRings$Drawing", "allMarks", "()I"⟩, 4), (⟨"SunRings$Drawing", "marksLeft", "(III)I"⟩, 4), (⟨"SunRings$Drawing", "marksMet", "(III)I"⟩, 4), (⟨"SunRings$Drawing", "meets", "(II)Z"⟩, 4), (⟨"SunRings$Drawing", "coverWith", "(III)V"⟩, 4), (⟨"SunRings$Drawing", "meetsAny", "(I)Z"⟩, 4), (⟨"SunRings$Cut", "placesMet", "(II)I"⟩, 3), (⟨"SunRings$Cut", "placesNear", "(I)I"⟩, 3), (⟨"SunRingsModel", "lay", "(IIIIIIIIII)V"⟩, 29), (⟨"SunRingsModel", "bent", "(III)I"⟩, 29), (⟨"SunRingsModel", "least", "(III)I"⟩, 29), (⟨"SunRingsModel", "turns", "(III)I"⟩, 29)]
theorem lw_r1 : ∀ q ∈ lw_privs_1, lw_okq q := List.forall_mem_cons.mpr ⟨lw_p0, List.forall_mem_cons.mpr ⟨lw_p1, List.forall_mem_cons.mpr ⟨lw_p2, List.forall_mem_cons.mpr ⟨lw_p3, List.forall_mem_cons.mpr ⟨lw_p4, List.forall_mem_cons.mpr ⟨lw_p5, List.forall_mem_cons.mpr ⟨lw_p6, List.forall_mem_cons.mpr ⟨lw_p7, List.forall_mem_cons.mpr ⟨lw_p8, List.forall_mem_cons.mpr ⟨lw_p9, List.forall_mem_cons.mpr ⟨lw_p10, List.forall_mem_cons.mpr ⟨lw_p11, List.forall_mem_cons.mpr ⟨lw_p12, List.forall_mem_cons.mpr ⟨lw_p13, List.forall_mem_cons.mpr ⟨lw_p14, List.forall_mem_cons.mpr ⟨lw_p15, fun _ h => absurd h List.not_mem_nil⟩⟩⟩⟩⟩⟩⟩⟩⟩⟩⟩⟩⟩⟩⟩⟩
theorem lw_p16 : lw_okq (⟨"SunRingsModel", "from", "(III)I"⟩, 29) := ⟨⟨by decide +kernel, by decide +kernel⟩, List.mem_of_getElem? (i := 576) (by decide +kernel), List.mem_of_getElem? (i := 711) (by decide +kernel), List.mem_of_getElem? (i := 712) (by decide +kernel)⟩
theorem lw_p17 : lw_okq (⟨"SunRingsModel", "out", "(II)I"⟩, 29) := ⟨⟨by decide +kernel, by decide +kernel⟩, List.mem_of_getElem? (i := 576) (by decide +kernel), List.mem_of_getElem? (i := 715) (by decide +kernel), List.mem_of_getElem? (i := 716) (by decide +kernel)⟩
theorem lw_p18 : lw_okq (⟨"SunRingsModel", "layMap", "(II)V"⟩, 29) := ⟨⟨by decide +kernel, by decide +kernel⟩, List.mem_of_getElem? (i := 576) (by decide +kernel), List.mem_of_getElem? (i := 724) (by decide +kernel), List.mem_of_getElem? (i := 725) (by decide +kernel)⟩
theorem lw_p19 : lw_okq (⟨"SunRingsModel", "bowOf", "()I"⟩, 29) := ⟨⟨by decide +kernel, by decide +kernel⟩, List.mem_of_getElem? (i := 576) (by decide +kernel), List.mem_of_getElem? (i := 733) (by decide +kernel), List.mem_of_getElem? (i := 734) (by decide +kernel)⟩
theorem lw_p20 : lw_okq (⟨"SunRingsModel", "hasWedge", "(II)Z"⟩, 29) := ⟨⟨by decide +kernel, by decide +kernel⟩, List.mem_of_getElem? (i := 576) (by decide +kernel), List.mem_of_getElem? (i := 746) (by decide +kernel), List.mem_of_getElem? (i := 747) (by decide +kernel)⟩
theorem lw_p21 : lw_okq (⟨"SunRingsModel", "turnedBy", "(III)I"⟩, 29) := ⟨⟨by decide +kernel, by decide +kernel⟩, List.mem_of_getElem? (i := 576) (by decide +kernel), List.mem_of_getElem? (i := 758) (by decide +kernel), List.mem_of_getElem? (i := 759) (by decide +kernel)⟩
theorem lw_p22 : lw_okq (⟨"SunRingsModel", "ringOf", "(II)I"⟩, 29) := ⟨⟨by decide +kernel, by decide +kernel⟩, List.mem_of_getElem? (i := 576) (by decide +kernel), List.mem_of_getElem? (i := 766) (by decide +kernel), List.mem_of_getElem? (i := 767) (by decide +kernel)⟩
theorem lw_p23 : lw_okq (⟨"SunRingsModel", "layRings", "()V"⟩, 29) := ⟨⟨by decide +kernel, by decide +kernel⟩, List.mem_of_getElem? (i := 576) (by decide +kernel), List.mem_of_getElem? (i := 774) (by decide +kernel), List.mem_of_getElem? (i := 775) (by decide +kernel)⟩
theorem lw_p24 : lw_okq (⟨"SunRingsModel", "layLights", "(II)V"⟩, 29) := ⟨⟨by decide +kernel, by decide +kernel⟩, List.mem_of_getElem? (i := 576) (by decide +kernel), List.mem_of_getElem? (i := 778) (by decide +kernel), List.mem_of_getElem? (i := 779) (by decide +kernel)⟩
theorem lw_p25 : lw_okq (⟨"SunRingsModel", "putRing", "(III)V"⟩, 29) := ⟨⟨by decide +kernel, by decide +kernel⟩, List.mem_of_getElem? (i := 576) (by decide +kernel), List.mem_of_getElem? (i := 782) (by decide +kernel), List.mem_of_getElem? (i := 783) (by decide +kernel)⟩
theorem lw_p26 : lw_okq (⟨"SunRingsModel", "put", "(IIII)V"⟩, 29) := ⟨⟨by decide +kernel, by decide +kernel⟩, List.mem_of_getElem? (i := 576) (by decide +kernel), List.mem_of_getElem? (i := 786) (by decide +kernel), List.mem_of_getElem? (i := 787) (by decide +kernel)⟩
theorem lw_p27 : lw_okq (⟨"SunRingsModel", "layMet", "(I)V"⟩, 29) := ⟨⟨by decide +kernel, by decide +kernel⟩, List.mem_of_getElem? (i := 576) (by decide +kernel), List.mem_of_getElem? (i := 806) (by decide +kernel), List.mem_of_getElem? (i := 807) (by decide +kernel)⟩
theorem lw_p28 : lw_okq (⟨"SunRingsModel", "meets", "(II)Z"⟩, 29) := ⟨⟨by decide +kernel, by decide +kernel⟩, List.mem_of_getElem? (i := 576) (by decide +kernel), List.mem_of_getElem? (i := 810) (by decide +kernel), List.mem_of_getElem? (i := 811) (by decide +kernel)⟩
theorem lw_p29 : lw_okq (⟨"SunRingsModel", "metBy", "(I)I"⟩, 29) := ⟨⟨by decide +kernel, by decide +kernel⟩, List.mem_of_getElem? (i := 576) (by decide +kernel), List.mem_of_getElem? (i := 814) (by decide +kernel), List.mem_of_getElem? (i := 815) (by decide +kernel)⟩
theorem lw_p30 : lw_okq (⟨"SunRingsModel", "allMarks", "()I"⟩, 29) := ⟨⟨by decide +kernel, by decide +kernel⟩, List.mem_of_getElem? (i := 576) (by decide +kernel), List.mem_of_getElem? (i := 818) (by decide +kernel), List.mem_of_getElem? (i := 819) (by decide +kernel)⟩
theorem lw_p31 : lw_okq (⟨"SunRingsModel", "laySpots", "(I)V"⟩, 29) := ⟨⟨by decide +kernel, by decide +kernel⟩, List.mem_of_getElem? (i := 576) (by decide +kernel), List.mem_of_getElem? (i := 850) (by decide +kernel), List.mem_of_getElem? (i := 851) (by decide +kernel)⟩
def lw_privs_2 : List (MethodName × Nat) := [(⟨"SunRingsModel", "from", "(III)I"⟩, 29), (⟨"SunRingsModel", "out", "(II)I"⟩, 29), (⟨"SunRingsModel", "layMap", "(II)V"⟩, 29), (⟨"SunRingsModel", "bowOf", "()I"⟩, 29), (⟨"SunRingsModel", "hasWedge", "(II)Z"⟩, 29), (⟨"SunRingsModel", "turnedBy", "(III)I"⟩, 29), (⟨"SunRingsModel", "ringOf", "(II)I"⟩, 29), (⟨"SunRingsModel", "layRings", "()V"⟩, 29), (⟨"SunRingsModel", "layLights", "(II)V"⟩, 29), (⟨"SunRingsModel", "putRing", "(III)V"⟩, 29), (⟨"SunRingsModel", "put", "(IIII)V"⟩, 29), (⟨"SunRingsModel", "layMet", "(I)V"⟩, 29), (⟨"SunRingsModel", "meets", "(II)Z"⟩, 29), (⟨"SunRingsModel", "metBy", "(I)I"⟩, 29), (⟨"SunRingsModel", "allMarks", "()I"⟩, 29), (⟨"SunRingsModel", "laySpots", "(I)V"⟩, 29)]
theorem lw_r2 : ∀ q ∈ lw_privs_2, lw_okq q := List.forall_mem_cons.mpr ⟨lw_p16, List.forall_mem_cons.mpr ⟨lw_p17, List.forall_mem_cons.mpr ⟨lw_p18, List.forall_mem_cons.mpr ⟨lw_p19, List.forall_mem_cons.mpr ⟨lw_p20, List.forall_mem_cons.mpr ⟨lw_p21, List.forall_mem_cons.mpr ⟨lw_p22, List.forall_mem_cons.mpr ⟨lw_p23, List.forall_mem_cons.mpr ⟨lw_p24, List.forall_mem_cons.mpr ⟨lw_p25, List.forall_mem_cons.mpr ⟨lw_p26, List.forall_mem_cons.mpr ⟨lw_p27, List.forall_mem_cons.mpr ⟨lw_p28, List.forall_mem_cons.mpr ⟨lw_p29, List.forall_mem_cons.mpr ⟨lw_p30, List.forall_mem_cons.mpr ⟨lw_p31, fun _ h => absurd h List.not_mem_nil⟩⟩⟩⟩⟩⟩⟩⟩⟩⟩⟩⟩⟩⟩⟩⟩
theorem lw_p32 : lw_okq (⟨"SunRingsModel", "spots", "(II)I"⟩, 29) := ⟨⟨by decide +kernel, by decide +kernel⟩, List.mem_of_getElem? (i := 576) (by decide +kernel), List.mem_of_getElem? (i := 854) (by decide +kernel), List.mem_of_getElem? (i := 855) (by decide +kernel)⟩
theorem lw_p33 : lw_okq (⟨"SunRingsModel", "isMade", "(I)Z"⟩, 29) := ⟨⟨by decide +kernel, by decide +kernel⟩, List.mem_of_getElem? (i := 576) (by decide +kernel), List.mem_of_getElem? (i := 858) (by decide +kernel), List.mem_of_getElem? (i := 859) (by decide +kernel)⟩
def lw_privs_3 : List (MethodName × Nat) := [(⟨"SunRingsModel", "spots", "(II)I"⟩, 29), (⟨"SunRingsModel", "isMade", "(I)Z"⟩, 29)]
theorem lw_r3 : ∀ q ∈ lw_privs_3, lw_okq q := List.forall_mem_cons.mpr ⟨lw_p32, List.forall_mem_cons.mpr ⟨lw_p33, fun _ h => absurd h List.not_mem_nil⟩⟩
def lw_privs : List (MethodName × Nat) := lw_privs_1 ++ (lw_privs_2 ++ (lw_privs_3))
def lw_tbl : List Cond := k2_sels lw_privs ++ tables_1
theorem lw_privs_ok : ∀ q ∈ lw_privs, lw_okq q := by
  show ∀ q ∈ lw_privs_1 ++ (lw_privs_2 ++ (lw_privs_3)), lw_okq q
  exact List.forall_mem_append.mpr ⟨lw_r1, List.forall_mem_append.mpr ⟨lw_r2, lw_r3⟩⟩
def RX0 : String := "SunRings$Cut"
def TX0 : u_T := fun k => match k with
  | 0 => ("SunRings$Cut", "ice", "LSunRings$Ice;", true)
  | 1 => ("SunRings$Cut", "places", "[I", true)
  | _ => ("SunRings$Cut", "metBy", "[I", true)
def tyX0 : Nat → FieldType := fun k => match k with
  | 0 => .object "SunRings$Ice"
  | 1 => .array .int
  | _ => .array .int
abbrev wsX00 : List Cond := u_ws RX0 TX0 3
theorem nmX0 : ∀ a, a < 3 → ∀ b, b < 3 → a ≠ b → (TX0 a).2.1 ≠ (TX0 b).2.1 := by decide +kernel
theorem tyX0_ok : ∀ k, k < 3 → parseFieldDescriptor (TX0 k).2.2.1 = some (tyX0 k) := by decide +kernel
abbrev cX0_init : ByteArray := prog_2_method_1_code
def yX0_init : MethodName := ⟨RX0, "<init>", "(LSunRings$Ice;)V"⟩
abbrev cX0_placesTold : ByteArray := prog_2_method_2_code
def yX0_placesTold : MethodName := ⟨RX0, "placesTold", "(I)I"⟩
abbrev cX0_placesMet : ByteArray := prog_2_method_3_code
def yX0_placesMet : MethodName := ⟨RX0, "placesMet", "(II)I"⟩
abbrev cX0_placesNear : ByteArray := prog_2_method_4_code
def yX0_placesNear : MethodName := ⟨RX0, "placesNear", "(I)I"⟩
abbrev cX0_fits : ByteArray := prog_2_method_5_code
def yX0_fits : MethodName := ⟨RX0, "fits", "(III)Z"⟩
abbrev cX0_isMade : ByteArray := prog_2_method_6_code
def yX0_isMade : MethodName := ⟨RX0, "isMade", "(II)Z"⟩
abbrev cX0_firstMaker : ByteArray := prog_2_method_7_code
def yX0_firstMaker : MethodName := ⟨RX0, "firstMaker", "(I)I"⟩
def RX1 : String := "SunRings$Diary"
def TX1 : u_T := fun k => match k with
  | 0 => ("SunRings$Diary", "colds", "[I", true)
  | 1 => ("SunRings$Diary", "clouds", "[I", true)
  | 2 => ("SunRings$Diary", "seen", "[I", true)
  | _ => ("SunRings$Diary", "size", "I", false)
def tyX1 : Nat → FieldType := fun k => match k with
  | 0 => .array .int
  | 1 => .array .int
  | 2 => .array .int
  | _ => .int
abbrev wsX10 : List Cond := u_ws RX1 TX1 4
theorem nmX1 : ∀ a, a < 4 → ∀ b, b < 4 → a ≠ b → (TX1 a).2.1 ≠ (TX1 b).2.1 := by decide +kernel
theorem tyX1_ok : ∀ k, k < 4 → parseFieldDescriptor (TX1 k).2.2.1 = some (tyX1 k) := by decide +kernel
abbrev cX1_init : ByteArray := prog_3_method_1_code
def yX1_init : MethodName := ⟨RX1, "<init>", "()V"⟩
abbrev cX1_addDay : ByteArray := prog_3_method_2_code
def yX1_addDay : MethodName := ⟨RX1, "addDay", "(III)I"⟩
abbrev cX1_daysWith : ByteArray := prog_3_method_3_code
def yX1_daysWith : MethodName := ⟨RX1, "daysWith", "(IIII)I"⟩
abbrev cX1_causesSeen : ByteArray := prog_3_method_4_code
def yX1_causesSeen : MethodName := ⟨RX1, "causesSeen", "()I"⟩
def RX2 : String := "SunRings$Drawing"
def TX2 : u_T := fun k => match k with
  | 0 => ("SunRings$Drawing", "ice", "LSunRings$Ice;", true)
  | 1 => ("SunRings$Drawing", "marks", "[I", true)
  | 2 => ("SunRings$Drawing", "size", "I", false)
  | _ => ("SunRings$Drawing", "covers", "[I", true)
def tyX2 : Nat → FieldType := fun k => match k with
  | 0 => .object "SunRings$Ice"
  | 1 => .array .int
  | 2 => .int
  | _ => .array .int
abbrev wsX20 : List Cond := u_ws RX2 TX2 4
theorem nmX2 : ∀ a, a < 4 → ∀ b, b < 4 → a ≠ b → (TX2 a).2.1 ≠ (TX2 b).2.1 := by decide +kernel
theorem tyX2_ok : ∀ k, k < 4 → parseFieldDescriptor (TX2 k).2.2.1 = some (tyX2 k) := by decide +kernel
abbrev cX2_init : ByteArray := prog_4_method_1_code
def yX2_init : MethodName := ⟨RX2, "<init>", "(LSunRings$Ice;)V"⟩
abbrev cX2_addMark : ByteArray := prog_4_method_2_code
def yX2_addMark : MethodName := ⟨RX2, "addMark", "(IIII)I"⟩
abbrev cX2_allMarks : ByteArray := prog_4_method_3_code
def yX2_allMarks : MethodName := ⟨RX2, "allMarks", "()I"⟩
abbrev cX2_meets : ByteArray := prog_4_method_4_code
def yX2_meets : MethodName := ⟨RX2, "meets", "(II)Z"⟩
abbrev cX2_meetsAny : ByteArray := prog_4_method_5_code
def yX2_meetsAny : MethodName := ⟨RX2, "meetsAny", "(I)Z"⟩
abbrev cX2_marksMet : ByteArray := prog_4_method_6_code
def yX2_marksMet : MethodName := ⟨RX2, "marksMet", "(III)I"⟩
abbrev cX2_marksLeft : ByteArray := prog_4_method_7_code
def yX2_marksLeft : MethodName := ⟨RX2, "marksLeft", "(III)I"⟩
abbrev cX2_isExplained : ByteArray := prog_4_method_8_code
def yX2_isExplained : MethodName := ⟨RX2, "isExplained", "(II)Z"⟩
abbrev cX2_marksNeverMet : ByteArray := prog_4_method_9_code
def yX2_marksNeverMet : MethodName := ⟨RX2, "marksNeverMet", "()I"⟩
abbrev cX2_unseen : ByteArray := prog_4_method_10_code
def yX2_unseen : MethodName := ⟨RX2, "unseen", "(II)I"⟩
abbrev cX2_leastCover : ByteArray := prog_4_method_11_code
def yX2_leastCover : MethodName := ⟨RX2, "leastCover", "(I)I"⟩
abbrev cX2_coverWith : ByteArray := prog_4_method_12_code
def yX2_coverWith : MethodName := ⟨RX2, "coverWith", "(III)V"⟩
def RX3 : String := "SunRings$Drops"
def TX3 : u_T := fun k => match k with
  | 0 => ("SunRings$Drops", "setup", "LSunRings$Setup;", true)
  | 1 => ("SunRings$Drops", "sky", "[J", true)
  | _ => ("SunRings$Drops", "otherSky", "[J", true)
def tyX3 : Nat → FieldType := fun k => match k with
  | 0 => .object "SunRings$Setup"
  | 1 => .array .long
  | _ => .array .long
abbrev wsX30 : List Cond := u_ws RX3 TX3 3
theorem nmX3 : ∀ a, a < 3 → ∀ b, b < 3 → a ≠ b → (TX3 a).2.1 ≠ (TX3 b).2.1 := by decide +kernel
theorem tyX3_ok : ∀ k, k < 3 → parseFieldDescriptor (TX3 k).2.2.1 = some (tyX3 k) := by decide +kernel
abbrev cX3_init : ByteArray := prog_5_method_1_code
def yX3_init : MethodName := ⟨RX3, "<init>", "(LSunRings$Setup;)V"⟩
abbrev cX3_turnOf : ByteArray := prog_5_method_2_code
def yX3_turnOf : MethodName := ⟨RX3, "turnOf", "(III)I"⟩
abbrev cX3_fromSun : ByteArray := prog_5_method_3_code
def yX3_fromSun : MethodName := ⟨RX3, "fromSun", "(III)I"⟩
abbrev cX3_lightIn : ByteArray := prog_5_method_4_code
def yX3_lightIn : MethodName := ⟨RX3, "lightIn", "(I)I"⟩
abbrev cX3_lightOut : ByteArray := prog_5_method_5_code
def yX3_lightOut : MethodName := ⟨RX3, "lightOut", "(II)I"⟩
abbrev cX3_thrownBack : ByteArray := prog_5_method_6_code
def yX3_thrownBack : MethodName := ⟨RX3, "thrownBack", "(I)I"⟩
abbrev cX3_fillSky : ByteArray := prog_5_method_7_code
def yX3_fillSky : MethodName := ⟨RX3, "fillSky", "([JII)V"⟩
abbrev cX3_brightest : ByteArray := prog_5_method_8_code
def yX3_brightest : MethodName := ⟨RX3, "brightest", "([J)I"⟩
abbrev cX3_broad : ByteArray := prog_5_method_9_code
def yX3_broad : MethodName := ⟨RX3, "broad", "([JI)I"⟩
abbrev cX3_widestDark : ByteArray := prog_5_method_10_code
def yX3_widestDark : MethodName := ⟨RX3, "widestDark", "(II)I"⟩
def RX4 : String := "SunRings$Ice"
def TX4 : u_T := fun k => match k with
  | 0 => ("SunRings$Ice", "setup", "LSunRings$Setup;", true)
  | _ => ("SunRings$Ice", "lights", "LSunRings$Lights;", true)
def tyX4 : Nat → FieldType := fun k => match k with
  | 0 => .object "SunRings$Setup"
  | _ => .object "SunRings$Lights"
abbrev wsX40 : List Cond := u_ws RX4 TX4 2
theorem nmX4 : ∀ a, a < 2 → ∀ b, b < 2 → a ≠ b → (TX4 a).2.1 ≠ (TX4 b).2.1 := by decide +kernel
theorem tyX4_ok : ∀ k, k < 2 → parseFieldDescriptor (TX4 k).2.2.1 = some (tyX4 k) := by decide +kernel
abbrev cX4_init : ByteArray := prog_6_method_1_code
def yX4_init : MethodName := ⟨RX4, "<init>", "(LSunRings$Setup;)V"⟩
abbrev cX4_turnOf : ByteArray := prog_6_method_2_code
def yX4_turnOf : MethodName := ⟨RX4, "turnOf", "(III)I"⟩
abbrev cX4_leastTurn : ByteArray := prog_6_method_3_code
def yX4_leastTurn : MethodName := ⟨RX4, "leastTurn", "(II)I"⟩
abbrev cX4_lightUp : ByteArray := prog_6_method_4_code
def yX4_lightUp : MethodName := ⟨RX4, "lightUp", "(II)V"⟩
abbrev cX4_addArcs : ByteArray := prog_6_method_5_code
def yX4_addArcs : MethodName := ⟨RX4, "addArcs", "(II)V"⟩
abbrev cX4_addSpot : ByteArray := prog_6_method_6_code
def yX4_addSpot : MethodName := ⟨RX4, "addSpot", "(III)V"⟩
abbrev cX4_addLightsBehind : ByteArray := prog_6_method_7_code
def yX4_addLightsBehind : MethodName := ⟨RX4, "addLightsBehind", "(II)V"⟩
def RX5 : String := "SunRings$Lights"
def TX5 : u_T := fun k => match k with
  | 0 => ("SunRings$Lights", "rows", "[I", true)
  | _ => ("SunRings$Lights", "size", "I", false)
def tyX5 : Nat → FieldType := fun k => match k with
  | 0 => .array .int
  | _ => .int
abbrev wsX50 : List Cond := u_ws RX5 TX5 2
theorem nmX5 : ∀ a, a < 2 → ∀ b, b < 2 → a ≠ b → (TX5 a).2.1 ≠ (TX5 b).2.1 := by decide +kernel
theorem tyX5_ok : ∀ k, k < 2 → parseFieldDescriptor (TX5 k).2.2.1 = some (tyX5 k) := by decide +kernel
abbrev cX5_init : ByteArray := prog_7_method_1_code
def yX5_init : MethodName := ⟨RX5, "<init>", "()V"⟩
abbrev cX5_add : ByteArray := prog_7_method_2_code
def yX5_add : MethodName := ⟨RX5, "add", "(IIII)V"⟩
abbrev cX5_part : ByteArray := prog_7_method_3_code
def yX5_part : MethodName := ⟨RX5, "part", "(II)I"⟩
abbrev cX5_isNear : ByteArray := prog_7_method_4_code
def yX5_isNear : MethodName := ⟨RX5, "isNear", "(III)Z"⟩
def RX6 : String := "SunRings$Setup"
def TX6 : u_T := fun k => match k with
  | 0 => ("SunRings$Setup", "tables", "[I", true)
  | 1 => ("SunRings$Setup", "rules", "[I", true)
  | 2 => ("SunRings$Setup", "wedges", "[I", true)
  | 3 => ("SunRings$Setup", "wedgeCounts", "[I", true)
  | _ => ("SunRings$Setup", "rings", "[I", true)
def tyX6 : Nat → FieldType := fun k => match k with
  | 0 => .array .int
  | 1 => .array .int
  | 2 => .array .int
  | 3 => .array .int
  | _ => .array .int
abbrev wsX60 : List Cond := u_ws RX6 TX6 5
theorem nmX6 : ∀ a, a < 5 → ∀ b, b < 5 → a ≠ b → (TX6 a).2.1 ≠ (TX6 b).2.1 := by decide +kernel
theorem tyX6_ok : ∀ k, k < 5 → parseFieldDescriptor (TX6 k).2.2.1 = some (tyX6 k) := by decide +kernel
abbrev cX6_init : ByteArray := prog_8_method_1_code
def yX6_init : MethodName := ⟨RX6, "<init>", "()V"⟩
abbrev cX6_copyFrom : ByteArray := prog_8_method_2_code
def yX6_copyFrom : MethodName := ⟨RX6, "copyFrom", "(LSunRings$Setup;)V"⟩
abbrev cX6_changeTable : ByteArray := prog_8_method_3_code
def yX6_changeTable : MethodName := ⟨RX6, "changeTable", "(III)I"⟩
abbrev cX6_bent : ByteArray := prog_8_method_4_code
def yX6_bent : MethodName := ⟨RX6, "bent", "(III)I"⟩
abbrev cX6_unbent : ByteArray := prog_8_method_5_code
def yX6_unbent : MethodName := ⟨RX6, "unbent", "(III)I"⟩
abbrev cX6_hasWedge : ByteArray := prog_8_method_6_code
def yX6_hasWedge : MethodName := ⟨RX6, "hasWedge", "(II)Z"⟩
abbrev cX6_addWedge : ByteArray := prog_8_method_7_code
def yX6_addWedge : MethodName := ⟨RX6, "addWedge", "(II)I"⟩
abbrev cX6_wedgesInAll : ByteArray := prog_8_method_8_code
def yX6_wedgesInAll : MethodName := ⟨RX6, "wedgesInAll", "()I"⟩
def RX7 : String := "SunRings"
def TX7 : u_T := fun k => match k with
  | 0 => ("SunRings", "setup", "LSunRings$Setup;", true)
  | 1 => ("SunRings", "kept", "[LSunRings$Setup;", true)
  | 2 => ("SunRings", "keptSize", "I", false)
  | 3 => ("SunRings", "drops", "LSunRings$Drops;", true)
  | 4 => ("SunRings", "ice", "LSunRings$Ice;", true)
  | 5 => ("SunRings", "drawing", "LSunRings$Drawing;", true)
  | 6 => ("SunRings", "sights", "LSunRings$Cut;", true)
  | _ => ("SunRings", "diary", "LSunRings$Diary;", true)
def tyX7 : Nat → FieldType := fun k => match k with
  | 0 => .object "SunRings$Setup"
  | 1 => .array (.object "SunRings$Setup")
  | 2 => .int
  | 3 => .object "SunRings$Drops"
  | 4 => .object "SunRings$Ice"
  | 5 => .object "SunRings$Drawing"
  | 6 => .object "SunRings$Cut"
  | _ => .object "SunRings$Diary"
abbrev wsX70 : List Cond := u_ws RX7 TX7 8
theorem nmX7 : ∀ a, a < 8 → ∀ b, b < 8 → a ≠ b → (TX7 a).2.1 ≠ (TX7 b).2.1 := by decide +kernel
theorem tyX7_ok : ∀ k, k < 8 → parseFieldDescriptor (TX7 k).2.2.1 = some (tyX7 k) := by decide +kernel
abbrev cX7_init : ByteArray := prog_1_method_1_code
def yX7_init : MethodName := ⟨RX7, "<init>", "()V"⟩
abbrev cX7_table : ByteArray := prog_1_method_2_code
def yX7_table : MethodName := ⟨RX7, "table", "(III)I"⟩
abbrev cX7_rule : ByteArray := prog_1_method_3_code
def yX7_rule : MethodName := ⟨RX7, "rule", "(II)I"⟩
abbrev cX7_inside : ByteArray := prog_1_method_4_code
def yX7_inside : MethodName := ⟨RX7, "inside", "(III)I"⟩
abbrev cX7_outside : ByteArray := prog_1_method_5_code
def yX7_outside : MethodName := ⟨RX7, "outside", "(III)I"⟩
abbrev cX7_ray : ByteArray := prog_1_method_6_code
def yX7_ray : MethodName := ⟨RX7, "ray", "(IIII)I"⟩
abbrev cX7_map : ByteArray := prog_1_method_7_code
def yX7_map : MethodName := ⟨RX7, "map", "(III)J"⟩
abbrev cX7_bow : ByteArray := prog_1_method_8_code
def yX7_bow : MethodName := ⟨RX7, "bow", "(IIII)I"⟩
abbrev cX7_dark : ByteArray := prog_1_method_9_code
def yX7_dark : MethodName := ⟨RX7, "dark", "(II)I"⟩
abbrev cX7_wedge : ByteArray := prog_1_method_10_code
def yX7_wedge : MethodName := ⟨RX7, "wedge", "(II)I"⟩
abbrev cX7_noWedges : ByteArray := prog_1_method_11_code
def yX7_noWedges : MethodName := ⟨RX7, "noWedges", "(I)I"⟩
abbrev cX7_turned : ByteArray := prog_1_method_12_code
def yX7_turned : MethodName := ⟨RX7, "turned", "(III)I"⟩
abbrev cX7_ring : ByteArray := prog_1_method_13_code
def yX7_ring : MethodName := ⟨RX7, "ring", "(II)I"⟩
abbrev cX7_light : ByteArray := prog_1_method_14_code
def yX7_light : MethodName := ⟨RX7, "light", "(IIII)I"⟩
abbrev cX7_mark : ByteArray := prog_1_method_15_code
def yX7_mark : MethodName := ⟨RX7, "mark", "(IIII)I"⟩
abbrev cX7_wipe : ByteArray := prog_1_method_16_code
def yX7_wipe : MethodName := ⟨RX7, "wipe", "()I"⟩
abbrev cX7_explains : ByteArray := prog_1_method_17_code
def yX7_explains : MethodName := ⟨RX7, "explains", "(II)I"⟩
abbrev cX7_fewest : ByteArray := prog_1_method_18_code
def yX7_fewest : MethodName := ⟨RX7, "fewest", "(I)I"⟩
abbrev cX7_owed : ByteArray := prog_1_method_19_code
def yX7_owed : MethodName := ⟨RX7, "owed", "(II)I"⟩
abbrev cX7_never : ByteArray := prog_1_method_20_code
def yX7_never : MethodName := ⟨RX7, "never", "()I"⟩
abbrev cX7_heights : ByteArray := prog_1_method_21_code
def yX7_heights : MethodName := ⟨RX7, "heights", "(II)I"⟩
abbrev cX7_cut : ByteArray := prog_1_method_22_code
def yX7_cut : MethodName := ⟨RX7, "cut", "(II)I"⟩
abbrev cX7_made : ByteArray := prog_1_method_23_code
def yX7_made : MethodName := ⟨RX7, "made", "(II)I"⟩
abbrev cX7_maker : ByteArray := prog_1_method_24_code
def yX7_maker : MethodName := ⟨RX7, "maker", "(I)I"⟩
abbrev cX7_day : ByteArray := prog_1_method_25_code
def yX7_day : MethodName := ⟨RX7, "day", "(III)I"⟩
abbrev cX7_odds : ByteArray := prog_1_method_26_code
def yX7_odds : MethodName := ⟨RX7, "odds", "(IIIII)I"⟩
abbrev cX7_together : ByteArray := prog_1_method_27_code
def yX7_together : MethodName := ⟨RX7, "together", "(II)I"⟩
abbrev cX7_keep : ByteArray := prog_1_method_28_code
def yX7_keep : MethodName := ⟨RX7, "keep", "()I"⟩
abbrev cX7_back : ByteArray := prog_1_method_29_code
def yX7_back : MethodName := ⟨RX7, "back", "()I"⟩
abbrev cX7_count : ByteArray := prog_1_method_30_code
def yX7_count : MethodName := ⟨RX7, "count", "(I)I"⟩
abbrev cX7_within : ByteArray := prog_1_method_31_code
def yX7_within : MethodName := ⟨RX7, "within", "(III)Z"⟩
abbrev cX7_isRight : ByteArray := prog_1_method_32_code
def yX7_isRight : MethodName := ⟨RX7, "isRight", "(I)Z"⟩
abbrev cX7_isColour : ByteArray := prog_1_method_33_code
def yX7_isColour : MethodName := ⟨RX7, "isColour", "(I)Z"⟩
abbrev cX7_isMirrors : ByteArray := prog_1_method_34_code
def yX7_isMirrors : MethodName := ⟨RX7, "isMirrors", "(I)Z"⟩
abbrev cX7_isCause : ByteArray := prog_1_method_35_code
def yX7_isCause : MethodName := ⟨RX7, "isCause", "(I)Z"⟩
abbrev cX7_isSet : ByteArray := prog_1_method_36_code
def yX7_isSet : MethodName := ⟨RX7, "isSet", "(I)Z"⟩
abbrev cX7_isCold : ByteArray := prog_1_method_37_code
def yX7_isCold : MethodName := ⟨RX7, "isCold", "(I)Z"⟩
abbrev cX7_commonDivisor : ByteArray := prog_1_method_38_code
def yX7_commonDivisor : MethodName := ⟨RX7, "commonDivisor", "(II)I"⟩
def RX8 : String := "SunRingsModel"
def TX8 : u_T := fun k => match k with
  | 0 => ("SunRingsModel", "tables", "[I", true)
  | 1 => ("SunRingsModel", "fan", "I", false)
  | 2 => ("SunRingsModel", "squash", "I", false)
  | 3 => ("SunRingsModel", "shine", "I", false)
  | 4 => ("SunRingsModel", "skew", "I", false)
  | 5 => ("SunRingsModel", "sway", "I", false)
  | 6 => ("SunRingsModel", "wedgeMany", "[I", true)
  | 7 => ("SunRingsModel", "wedges", "[I", true)
  | 8 => ("SunRingsModel", "markMany", "I", false)
  | 9 => ("SunRingsModel", "markForm", "[I", true)
  | 10 => ("SunRingsModel", "markSide", "[I", true)
  | 11 => ("SunRingsModel", "markAngle", "[I", true)
  | 12 => ("SunRingsModel", "markDoubt", "[I", true)
  | 13 => ("SunRingsModel", "places", "[I", true)
  | 14 => ("SunRingsModel", "dayMany", "I", false)
  | 15 => ("SunRingsModel", "dayCold", "[I", true)
  | 16 => ("SunRingsModel", "dayCloud", "[I", true)
  | 17 => ("SunRingsModel", "dayCauses", "[I", true)
  | 18 => ("SunRingsModel", "mapped", "[J", true)
  | 19 => ("SunRingsModel", "isLit", "[Z", true)
  | 20 => ("SunRingsModel", "rings", "[I", true)
  | 21 => ("SunRingsModel", "lightMany", "I", false)
  | 22 => ("SunRingsModel", "lightForm", "[I", true)
  | 23 => ("SunRingsModel", "lightSide", "[I", true)
  | 24 => ("SunRingsModel", "lightFrom", "[I", true)
  | 25 => ("SunRingsModel", "lightTo", "[I", true)
  | 26 => ("SunRingsModel", "met", "[I", true)
  | 27 => ("SunRingsModel", "kept", "[I", true)
  | _ => ("SunRingsModel", "keptMany", "I", false)
def tyX8 : Nat → FieldType := fun k => match k with
  | 0 => .array .int
  | 1 => .int
  | 2 => .int
  | 3 => .int
  | 4 => .int
  | 5 => .int
  | 6 => .array .int
  | 7 => .array .int
  | 8 => .int
  | 9 => .array .int
  | 10 => .array .int
  | 11 => .array .int
  | 12 => .array .int
  | 13 => .array .int
  | 14 => .int
  | 15 => .array .int
  | 16 => .array .int
  | 17 => .array .int
  | 18 => .array .long
  | 19 => .array .boolean
  | 20 => .array .int
  | 21 => .int
  | 22 => .array .int
  | 23 => .array .int
  | 24 => .array .int
  | 25 => .array .int
  | 26 => .array .int
  | 27 => .array .int
  | _ => .int
abbrev wsX80 : List Cond := u_ws RX8 TX8 29
theorem nmX8 : ∀ a, a < 29 → ∀ b, b < 29 → a ≠ b → (TX8 a).2.1 ≠ (TX8 b).2.1 := by decide +kernel
theorem tyX8_ok : ∀ k, k < 29 → parseFieldDescriptor (TX8 k).2.2.1 = some (tyX8 k) := by decide +kernel
abbrev cX8_init : ByteArray := prog_10_method_1_code
def yX8_init : MethodName := ⟨RX8, "<init>", "()V"⟩
abbrev cX8_lay : ByteArray := prog_10_method_2_code
def yX8_lay : MethodName := ⟨RX8, "lay", "(IIIIIIIIII)V"⟩
abbrev cX8_in : ByteArray := prog_10_method_3_code
def yX8_in : MethodName := ⟨RX8, "in", "(III)Z"⟩
abbrev cX8_table : ByteArray := prog_10_method_4_code
def yX8_table : MethodName := ⟨RX8, "table", "(III)I"⟩
abbrev cX8_rule : ByteArray := prog_10_method_5_code
def yX8_rule : MethodName := ⟨RX8, "rule", "(II)I"⟩
abbrev cX8_bent : ByteArray := prog_10_method_6_code
def yX8_bent : MethodName := ⟨RX8, "bent", "(III)I"⟩
abbrev cX8_least : ByteArray := prog_10_method_7_code
def yX8_least : MethodName := ⟨RX8, "least", "(III)I"⟩
abbrev cX8_inside : ByteArray := prog_10_method_8_code
def yX8_inside : MethodName := ⟨RX8, "inside", "(III)I"⟩
abbrev cX8_outside : ByteArray := prog_10_method_9_code
def yX8_outside : MethodName := ⟨RX8, "outside", "(III)I"⟩
abbrev cX8_turns : ByteArray := prog_10_method_10_code
def yX8_turns : MethodName := ⟨RX8, "turns", "(III)I"⟩
abbrev cX8_from : ByteArray := prog_10_method_11_code
def yX8_from : MethodName := ⟨RX8, "from", "(III)I"⟩
abbrev cX8_out : ByteArray := prog_10_method_12_code
def yX8_out : MethodName := ⟨RX8, "out", "(II)I"⟩
abbrev cX8_ray : ByteArray := prog_10_method_13_code
def yX8_ray : MethodName := ⟨RX8, "ray", "(IIII)I"⟩
abbrev cX8_layMap : ByteArray := prog_10_method_14_code
def yX8_layMap : MethodName := ⟨RX8, "layMap", "(II)V"⟩
abbrev cX8_bowOf : ByteArray := prog_10_method_15_code
def yX8_bowOf : MethodName := ⟨RX8, "bowOf", "()I"⟩
abbrev cX8_map : ByteArray := prog_10_method_16_code
def yX8_map : MethodName := ⟨RX8, "map", "(III)J"⟩
abbrev cX8_bow : ByteArray := prog_10_method_17_code
def yX8_bow : MethodName := ⟨RX8, "bow", "(IIII)I"⟩
abbrev cX8_dark : ByteArray := prog_10_method_18_code
def yX8_dark : MethodName := ⟨RX8, "dark", "(II)I"⟩
abbrev cX8_wedge : ByteArray := prog_10_method_19_code
def yX8_wedge : MethodName := ⟨RX8, "wedge", "(II)I"⟩
abbrev cX8_hasWedge : ByteArray := prog_10_method_20_code
def yX8_hasWedge : MethodName := ⟨RX8, "hasWedge", "(II)Z"⟩
abbrev cX8_noWedges : ByteArray := prog_10_method_21_code
def yX8_noWedges : MethodName := ⟨RX8, "noWedges", "(I)I"⟩
abbrev cX8_turnedBy : ByteArray := prog_10_method_22_code
def yX8_turnedBy : MethodName := ⟨RX8, "turnedBy", "(III)I"⟩
abbrev cX8_turned : ByteArray := prog_10_method_23_code
def yX8_turned : MethodName := ⟨RX8, "turned", "(III)I"⟩
abbrev cX8_ringOf : ByteArray := prog_10_method_24_code
def yX8_ringOf : MethodName := ⟨RX8, "ringOf", "(II)I"⟩
abbrev cX8_ring : ByteArray := prog_10_method_25_code
def yX8_ring : MethodName := ⟨RX8, "ring", "(II)I"⟩
abbrev cX8_layRings : ByteArray := prog_10_method_26_code
def yX8_layRings : MethodName := ⟨RX8, "layRings", "()V"⟩
abbrev cX8_put : ByteArray := prog_10_method_27_code
def yX8_put : MethodName := ⟨RX8, "put", "(IIII)V"⟩
abbrev cX8_putRing : ByteArray := prog_10_method_28_code
def yX8_putRing : MethodName := ⟨RX8, "putRing", "(III)V"⟩
abbrev cX8_layLights : ByteArray := prog_10_method_29_code
def yX8_layLights : MethodName := ⟨RX8, "layLights", "(II)V"⟩
abbrev cX8_light : ByteArray := prog_10_method_30_code
def yX8_light : MethodName := ⟨RX8, "light", "(IIII)I"⟩
abbrev cX8_mark : ByteArray := prog_10_method_31_code
def yX8_mark : MethodName := ⟨RX8, "mark", "(IIII)I"⟩
abbrev cX8_wipe : ByteArray := prog_10_method_32_code
def yX8_wipe : MethodName := ⟨RX8, "wipe", "()I"⟩
abbrev cX8_meets : ByteArray := prog_10_method_33_code
def yX8_meets : MethodName := ⟨RX8, "meets", "(II)Z"⟩
abbrev cX8_layMet : ByteArray := prog_10_method_34_code
def yX8_layMet : MethodName := ⟨RX8, "layMet", "(I)V"⟩
abbrev cX8_metBy : ByteArray := prog_10_method_35_code
def yX8_metBy : MethodName := ⟨RX8, "metBy", "(I)I"⟩
abbrev cX8_allMarks : ByteArray := prog_10_method_36_code
def yX8_allMarks : MethodName := ⟨RX8, "allMarks", "()I"⟩
abbrev cX8_isAsked : ByteArray := prog_10_method_37_code
def yX8_isAsked : MethodName := ⟨RX8, "isAsked", "(II)Z"⟩
abbrev cX8_explains : ByteArray := prog_10_method_38_code
def yX8_explains : MethodName := ⟨RX8, "explains", "(II)I"⟩
abbrev cX8_bits : ByteArray := prog_10_method_39_code
def yX8_bits : MethodName := ⟨RX8, "bits", "(I)I"⟩
abbrev cX8_fewest : ByteArray := prog_10_method_40_code
def yX8_fewest : MethodName := ⟨RX8, "fewest", "(I)I"⟩
abbrev cX8_owed : ByteArray := prog_10_method_41_code
def yX8_owed : MethodName := ⟨RX8, "owed", "(II)I"⟩
abbrev cX8_never : ByteArray := prog_10_method_42_code
def yX8_never : MethodName := ⟨RX8, "never", "()I"⟩
abbrev cX8_heights : ByteArray := prog_10_method_43_code
def yX8_heights : MethodName := ⟨RX8, "heights", "(II)I"⟩
abbrev cX8_cut : ByteArray := prog_10_method_44_code
def yX8_cut : MethodName := ⟨RX8, "cut", "(II)I"⟩
abbrev cX8_spots : ByteArray := prog_10_method_45_code
def yX8_spots : MethodName := ⟨RX8, "spots", "(II)I"⟩
abbrev cX8_isMade : ByteArray := prog_10_method_46_code
def yX8_isMade : MethodName := ⟨RX8, "isMade", "(I)Z"⟩
abbrev cX8_laySpots : ByteArray := prog_10_method_47_code
def yX8_laySpots : MethodName := ⟨RX8, "laySpots", "(I)V"⟩
abbrev cX8_made : ByteArray := prog_10_method_48_code
def yX8_made : MethodName := ⟨RX8, "made", "(II)I"⟩
abbrev cX8_maker : ByteArray := prog_10_method_49_code
def yX8_maker : MethodName := ⟨RX8, "maker", "(I)I"⟩
abbrev cX8_day : ByteArray := prog_10_method_50_code
def yX8_day : MethodName := ⟨RX8, "day", "(III)I"⟩
abbrev cX8_odds : ByteArray := prog_10_method_51_code
def yX8_odds : MethodName := ⟨RX8, "odds", "(IIIII)I"⟩
abbrev cX8_together : ByteArray := prog_10_method_52_code
def yX8_together : MethodName := ⟨RX8, "together", "(II)I"⟩
abbrev cX8_keep : ByteArray := prog_10_method_53_code
def yX8_keep : MethodName := ⟨RX8, "keep", "()I"⟩
abbrev cX8_back : ByteArray := prog_10_method_54_code
def yX8_back : MethodName := ⟨RX8, "back", "()I"⟩
abbrev cX8_count : ByteArray := prog_10_method_55_code
def yX8_count : MethodName := ⟨RX8, "count", "(I)I"⟩
def RJx8e188 : String := "java/lang/Cloneable"
def RJ6 : String := "java/lang/Integer"
abbrev cJ6_bitCount_0f7a4 : ByteArray := prog_12_method_49_code
def yJ6_bitCount_0f7a4 : MethodName := ⟨RJ6, "bitCount", "(I)I"⟩
def RJ9 : String := "java/lang/Math"
abbrev cJ9_floorMod_7cf53 : ByteArray := prog_13_method_50_code
def yJ9_floorMod_7cf53 : MethodName := ⟨RJ9, "floorMod", "(II)I"⟩
abbrev cJ9_max_7cf53 : ByteArray := prog_13_method_65_code
def yJ9_max_7cf53 : MethodName := ⟨RJ9, "max", "(II)I"⟩
abbrev cJ9_min_7cf53 : ByteArray := prog_13_method_69_code
def yJ9_min_7cf53 : MethodName := ⟨RJ9, "min", "(II)I"⟩
def RJ10 : String := "java/lang/System"
def RJ7 : String := "java/util/Arrays"
abbrev cJ7_fill_d0a16 : ByteArray := prog_15_method_101_code
def yJ7_fill_d0a16 : MethodName := ⟨RJ7, "fill", "([JJ)V"⟩
abbrev cJ7_fill_53178 : ByteArray := prog_15_method_103_code
def yJ7_fill_53178 : MethodName := ⟨RJ7, "fill", "([II)V"⟩
def RL : String := "SunRingsLaw"
abbrev cL_law : ByteArray := code
def yL_law : MethodName := ⟨RL, "law", "([I)Z"⟩
abbrev vwCl : List vw_C := [(RX0, TX0, 3), (RX1, TX1, 4), (RX2, TX2, 4), (RX3, TX3, 3), (RX4, TX4, 2), (RX5, TX5, 2), (RX6, TX6, 5), (RX7, TX7, 8), (RX8, TX8, 29)]
