/-! ===== lights ===== -/
theorem zr_ne {h : zH} {k j a b : Nat} {x : Int32} (hn : a ≠ k) : (zsi h k j x).1 a b = h.1 a b := by simp [zsi, hn]
theorem zr_nj {h : zH} {k j a b : Nat} {x : Int32} (hn : b ≠ j) : (zsi h k j x).1 a b = h.1 a b := by simp [zsi, hn]
theorem zr_eq {h : zH} {k j : Nat} {x : Int32} : (zsi h k j x).1 k j = x := by simp [zsi]
/-- nothing changed but where P says -/
def Fr (P : Nat → Nat → Bool) (h h' : zH) : Prop := ∀ a b, P a b = false → h'.1 a b = h.1 a b
theorem Fr.rf {P : Nat → Nat → Bool} {h : zH} : Fr P h h := fun _ _ _ => rfl
theorem Fr.tr {P : Nat → Nat → Bool} {h h1 h2 : zH} (a : Fr P h h1) (b : Fr P h1 h2) : Fr P h h2 := fun x y hp => (b x y hp).trans (a x y hp)
theorem Fr.wk {P Q : Nat → Nat → Bool} {h h' : zH} (a : Fr P h h') (hq : ∀ x y, Q x y = false → P x y = false) : Fr Q h h' := fun x y hp => a x y (hq x y hp)
theorem Fr.si {P : Nat → Nat → Bool} {h h' : zH} {k j : Nat} {x : Int32} (a : Fr P h h') (hp : P k j = true) : Fr P h (zsi h' k j x) := by
  intro u v hq
  by_cases hk : u = k ∧ v = j
  · obtain ⟨rfl, rfl⟩ := hk
    rw [hp] at hq; cases hq
  · have : (zsi h' k j x).1 u v = h'.1 u v := by simp [zsi, hk]
    rw [this]; exact a u v hq
def sL (a _b : Nat) : Bool := a == 30 || a == 31
def sI (a b : Nat) : Bool := a == 6 || sL a b
def sM (a b : Nat) : Bool := (a == 42 && b == 21) || (a == 57 || (a == 58 || (a == 59 || a == 60)))
theorem sL_I : ∀ x y, sI x y = false → sL x y = false := by intro x y h; simp [sI] at h; exact h.2
abbrev LT : Type := Int32 × Int32 × Int32 × Int32
def HasC (h : zH) (L : List LT) : Prop := h.1 30 1 = nI L.length ∧ ∀ (j : Nat) (q : LT), L[j]? = some q → h.1 31 (4 * j) = q.1 ∧ h.1 31 (4 * j + 1) = q.2.1 ∧ h.1 31 (4 * j + 2) = q.2.2.1 ∧ h.1 31 (4 * j + 3) = q.2.2.2
def HasM (h : zH) (L : List LT) : Prop := h.1 42 21 = nI L.length ∧ ∀ (j : Nat) (q : LT), L[j]? = some q → h.1 57 j = q.1 ∧ h.1 58 j = q.2.1 ∧ h.1 59 j = q.2.2.1 ∧ h.1 60 j = q.2.2.2
theorem ix_4 {n k : Nat} (q : Int32) (hq : q = nI k) : nI n * 4 + q = nI (4 * n + k) := by rw [hq, q4, pk_mul, nI_add, Nat.mul_comm]
theorem c_add {h : zH} {L : List LT} (hL : HasC h L) (hn : L.length < 7) (a b c d : Int32) : ∃ h', R_X5_add [.ref 30, .int a, .int b, .int c, .int d] h none h' ∧ HasC h' (L ++ [(a, b, c, d)]) ∧ Fr sL h h' := by
  obtain ⟨h0, h1⟩ := hL
  refine ⟨zsi (zsi (zsi (zsi (zsi h 31 (4 * L.length + 0) a) 31 (4 * L.length + 1) b) 31 (4 * L.length + 2) c) 31 (4 * L.length + 3) d) 30 1 (nI (L.length + 1)), r_X5_add _ _ _ _ _ _ _ rfl (t_X5_add_0 _ _ _ _ _ _ ⟨fun _ => ?_, fun z => absurd ?_ z⟩), ?_, ?_⟩
  · simp (disch := omega) only [zr_ne, h0]
    rw [ix_4 0 q0, ix_4 1 q1, ix_4 2 q2, ix_4 3 q3, nI_clamp (by omega), nI_clamp (by omega), nI_clamp (by omega), nI_clamp (by omega), nI_1]
    exact ⟨vp_in_nI (by omega) (by omega), vp_in_nI (by omega) (by omega), vp_in_nI (by omega) (by omega), vp_in_nI (by omega) (by omega), trivial, rfl⟩
  · rw [h0, show (7 : Int32) = nI 7 from rfl, nI_ltI (by omega) (by omega)]; exact hn
  · refine ⟨by rw [zr_eq]; simp, fun j q hq => ?_⟩
    by_cases hj : j < L.length
    · rw [List.getElem?_append_left hj] at hq
      simp (disch := omega) only [zr_ne, zr_nj]
      exact h1 j q hq
    · rw [List.getElem?_append_right (by omega)] at hq
      have hj2 : j = L.length := by
        have := (List.getElem?_eq_some_iff.mp hq).1
        simp only [List.length_singleton] at this
        omega
      subst hj2
      rw [Nat.sub_self] at hq
      cases hq
      simp (disch := omega) only [zr_ne, zr_nj, zr_eq, Nat.add_zero, and_self]
  · exact ((((Fr.rf.si rfl).si rfl).si rfl).si rfl).si rfl
theorem m_put {h : zH} {L : List LT} (hL : HasM h L) (hn : L.length < 8) (a b c d : Int32) : ∃ h', R_X8_put [.ref 42, .int a, .int b, .int c, .int d] h none h' ∧ HasM h' (L ++ [(a, b, c, d)]) ∧ Fr sM h h' := by
  obtain ⟨h0, h1⟩ := hL
  refine ⟨zsi (zsi (zsi (zsi (zsi h 57 L.length a) 58 L.length b) 59 L.length c) 60 L.length d) 42 21 (nI (L.length + 1)), r_X8_put _ _ _ _ _ _ _ rfl (t_X8_put_0 _ _ _ _ _ _ ?_), ?_, ?_⟩
  · simp (disch := omega) only [zr_ne, h0]
    rw [nI_clamp (by omega), nI_1]
    exact ⟨vp_in_nI (by omega) (by omega), vp_in_nI (by omega) (by omega), vp_in_nI (by omega) (by omega), vp_in_nI (by omega) (by omega), trivial, rfl⟩
  · refine ⟨by rw [zr_eq]; simp, fun j q hq => ?_⟩
    by_cases hj : j < L.length
    · rw [List.getElem?_append_left hj] at hq
      simp (disch := omega) only [zr_ne, zr_nj]
      exact h1 j q hq
    · rw [List.getElem?_append_right (by omega)] at hq
      have hj2 : j = L.length := by
        have := (List.getElem?_eq_some_iff.mp hq).1
        simp only [List.length_singleton] at this
        omega
      subst hj2
      rw [Nat.sub_self] at hq
      cases hq
      simp (disch := omega) only [zr_ne, zr_nj, zr_eq, and_self]
  · exact ((((Fr.rf.si rfl).si rfl).si rfl).si rfl).si rfl
/-! the lights of a wedge, and those behind them -/
def farV (d hh sk : Int32) : Int32 := d + d * hh / sk
def lgW (lean : Nat) (d hh sk sw : Int32) : List LT := match lean with
  | 0 => [(0, 0, d, d)]
  | 1 => if 600 < hh then [] else if farV d hh sk ≤ 1800 then [(2, 1, farV d hh sk, farV d hh sk)] else []
  | 2 => (if 900 < hh + d then [] else [(1, 2, d, d)]) ++ (if hh < d then [] else [(1, 3, d, d)])
  | _ => if 600 < hh then [] else if farV d hh sk ≤ 1800 then [(2, 1, d, farV d hh sk + sw)] else []
def lgB (lean : Nat) (s n : Bool) : List LT := match lean with
  | 0 => []
  | 1 => if s then [(2, 1, 1200, 1200)] else []
  | 2 => if n then [(2, 1, 1800, 1800)] else []
  | _ => [(3, 1, 0, 1800)]
theorem lgW_len (lean : Nat) (d hh sk sw : Int32) : (lgW lean d hh sk sw).length ≤ 2 := by
  unfold lgW
  split <;> (repeat' split) <;> simp
theorem c_addArcs {h : zH} {L : List LT} (hL : HasC h L) (hn : L.length ≤ 5) (d hh sk sw : Int32) : ∃ h', R_X4_addArcs [.ref 29, .int d, .int hh] h none h' ∧ HasC h' (L ++ lgW 2 d hh sk sw) ∧ Fr sL h h' := by
  simp only [lgW]
  by_cases h1 : 900 < hh + d
  · by_cases h2 : hh < d
    · refine ⟨h, r_X4_addArcs _ _ _ _ _ rfl (t_X4_addArcs_0 _ _ _ _ ⟨fun _ => ⟨fun _ => ⟨rfl, rfl⟩, fun z => absurd h2 z⟩, fun z => absurd h1 z⟩), ?_, Fr.rf⟩
      simpa [h1, h2] using hL
    · obtain ⟨h', r1, r2, r3⟩ := c_add hL (by omega) 1 3 d d
      refine ⟨h', r_X4_addArcs _ _ _ _ _ rfl (t_X4_addArcs_0 _ _ _ _ ⟨fun _ => ⟨fun z => absurd z h2, fun _ => ⟨_, r1, rfl, rfl⟩⟩, fun z => absurd h1 z⟩), ?_, r3⟩
      simpa [h1, h2] using r2
  · obtain ⟨h1', r1, r2, r3⟩ := c_add hL (by omega) 1 2 d d
    by_cases h2 : hh < d
    · refine ⟨h1', r_X4_addArcs _ _ _ _ _ rfl (t_X4_addArcs_0 _ _ _ _ ⟨fun z => absurd z h1, fun _ => ⟨_, r1, fun _ => ⟨rfl, rfl⟩, fun z => absurd h2 z⟩⟩), ?_, r3⟩
      simpa [h1, h2] using r2
    · obtain ⟨h2', u1, u2, u3⟩ := c_add r2 (by simp; omega) 1 3 d d
      refine ⟨h2', r_X4_addArcs _ _ _ _ _ rfl (t_X4_addArcs_0 _ _ _ _ ⟨fun z => absurd z h1, fun _ => ⟨_, r1, fun z => absurd z h2, fun _ => ⟨_, u1, rfl, rfl⟩⟩⟩), ?_, r3.tr u3⟩
      simpa [h1, h2] using u2
theorem c_max {h : zH} (a b : Int32) : R_J9_max_7cf53 [.int a, .int b] h (some (.int (if a < b then b else a))) h := by
  refine r_J9_max_7cf53 _ _ _ _ _ ⟨_, rfl⟩ (t_J9_max_7cf53_0 _ _ _ _ ⟨fun z => ?_, fun z => ?_⟩)
  · exact ⟨by rw [if_pos z], rfl⟩
  · exact ⟨by rw [if_neg z], rfl⟩
theorem c_addSpot {h : zH} {L : List LT} (hL : HasC h L) (hn : L.length ≤ 5) {lean sk : Nat} (hl : lean = 1 ∨ lean = 3) (hs : 500 ≤ sk ∧ sk ≤ 9000) (hsk : h.1 3 3 = nI sk) (d hh : Int32) : ∃ h', R_X4_addSpot [.ref 29, .int (nI lean), .int d, .int hh] h none h' ∧ HasC h' (L ++ lgW lean d hh (nI sk) (h.1 3 4)) ∧ Fr sL h h' := by
  have e3 : (3 : Int32).toNatClampNeg = 3 := rfl
  have e4 : (4 : Int32).toNatClampNeg = 4 := rfl
  have emax : (if zRL 3 < nI sk then nI sk else zRL 3) = nI sk := by
    have : zRL 3 = nI 500 := rfl
    rw [this]
    split
    · rfl
    · next z =>
      rw [nI_ltI (by omega) (by omega)] at z
      have : sk = 500 := by omega
      rw [this]
  have hne : ¬ nI sk = 0 := by rw [q0, nI_eq (by omega) (by omega)]; omega
  have cm := c_max (h := h) (zRL 3) (nI sk)
  rw [emax] at cm
  have v3 : vp_in 3 5 := vp_in_nI (n := 3) (by omega) (by omega)
  have v4 : vp_in 4 5 := vp_in_nI (n := 4) (by omega) (by omega)
  by_cases h1 : 600 < hh
  · refine ⟨h, r_X4_addSpot _ _ _ _ _ _ rfl (t_X4_addSpot_0 _ _ _ _ _ ?_), ?_, Fr.rf⟩
    · rw [e3, e4, hsk]
      exact ⟨v3, v3, _, _, cm, hne, fun _ => ⟨rfl, rfl⟩, fun z => absurd h1 z⟩
    · rcases hl with rfl | rfl <;> simpa [lgW, h1] using hL
  · by_cases h2 : farV d hh (nI sk) ≤ 1800
    · rcases hl with rfl | rfl
      · obtain ⟨h', r1, r2, r3⟩ := c_add hL (by omega) 2 1 (farV d hh (nI sk)) (farV d hh (nI sk))
        refine ⟨h', r_X4_addSpot _ _ _ _ _ _ rfl (t_X4_addSpot_0 _ _ _ _ _ ?_), ?_, r3⟩
        · rw [e3, e4, hsk]
          exact ⟨v3, v3, _, _, cm, hne, fun z => absurd z h1, fun _ => ⟨fun _ => ⟨fun z => absurd rfl z, fun _ => ⟨_, r1, rfl, rfl⟩⟩, fun z => absurd h2 z⟩⟩
        · simpa [lgW, h1, h2] using r2
      · obtain ⟨h', r1, r2, r3⟩ := c_add hL (by omega) 2 1 d (farV d hh (nI sk) + h.1 3 4)
        refine ⟨h', r_X4_addSpot _ _ _ _ _ _ rfl (t_X4_addSpot_0 _ _ _ _ _ ?_), ?_, r3⟩
        · rw [e3, e4, hsk]
          exact ⟨v3, v3, _, _, cm, hne, fun z => absurd z h1, fun _ => ⟨fun _ => ⟨fun _ => ⟨v4, _, r1, rfl, rfl⟩, fun z => absurd (by decide) z⟩, fun z => absurd h2 z⟩⟩
        · simpa [lgW, h1, h2] using r2
    · refine ⟨h, r_X4_addSpot _ _ _ _ _ _ rfl (t_X4_addSpot_0 _ _ _ _ _ ?_), ?_, Fr.rf⟩
      · rw [e3, e4, hsk]
        exact ⟨v3, v3, _, _, cm, hne, fun z => absurd z h1, fun _ => ⟨fun z => absurd z h2, fun _ => ⟨rfl, rfl⟩⟩⟩
      · rcases hl with rfl | rfl <;> simpa [lgW, h1, h2] using hL
