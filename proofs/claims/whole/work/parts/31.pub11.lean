/-! ===== keep, back ===== -/
def CP (h h' : zH) (s d : Nat) : Prop := (∀ j, j < 30 → h'.1 d j = h.1 s j) ∧ (∀ j, j < 5 → h'.1 (d + 1) j = h.1 (s + 1) j) ∧ (∀ j, j < 12 → h'.1 (d + 2) j = h.1 (s + 2) j) ∧ (∀ j, j < 4 → h'.1 (d + 3) j = h.1 (s + 3) j) ∧ (∀ j, j < 12 → h'.1 (d + 4) j = h.1 (s + 4) j) ∧ ∀ a j, ¬ (d ≤ a ∧ a ≤ d + 4) → ¬ (a = 0 ∧ j = 2) → h'.1 a j = h.1 a j
theorem zc_eq {h : zH} {a0 a1 n b : Nat} (hb : b < n) : (zcpy h a0 0 a1 0 n).1 a1 b = h.1 a0 b := by
  show (if a1 = a1 then va_cpy (h.1 a0) (h.1 a1) 0 0 n b else _) = _
  rw [if_pos rfl]; unfold va_cpy
  rw [if_pos ⟨by omega, by omega⟩, Nat.zero_add, Nat.sub_zero]
theorem zc_ne {h : zH} {a0 a1 n a b : Nat} (hn : a ≠ a1) : (zcpy h a0 0 a1 0 n).1 a b = h.1 a b := by
  show (if a = a1 then _ else _) = _
  rw [if_neg hn]
def zc5 (h : zH) (s d : Nat) : zH := zcpy (zcpy (zcpy (zcpy (zcpy h s 0 d 0 30) (s + 1) 0 (d + 1) 0 5) (s + 2) 0 (d + 2) 0 12) (s + 3) 0 (d + 3) 0 4) (s + 4) 0 (d + 4) 0 12
theorem zc5_cp (h : zH) {s d : Nat} (hd : s + 4 < d ∨ d + 4 < s) : CP h (zc5 h s d) s d := by
  unfold zc5
  refine ⟨fun j hj => ?_, fun j hj => ?_, fun j hj => ?_, fun j hj => ?_, fun j hj => ?_, fun a j ha _ => ?_⟩
  · rw [zc_ne (by omega), zc_ne (by omega), zc_ne (by omega), zc_ne (by omega), zc_eq hj]
  · rw [zc_ne (by omega), zc_ne (by omega), zc_ne (by omega), zc_eq hj, zc_ne (by omega)]
  · rw [zc_ne (by omega), zc_ne (by omega), zc_eq hj, zc_ne (by omega), zc_ne (by omega)]
  · rw [zc_ne (by omega), zc_eq hj, zc_ne (by omega), zc_ne (by omega), zc_ne (by omega)]
  · rw [zc_eq hj, zc_ne (by omega), zc_ne (by omega), zc_ne (by omega), zc_ne (by omega)]
  · rw [zc_ne (by omega), zc_ne (by omega), zc_ne (by omega), zc_ne (by omega), zc_ne (by omega)]
theorem c_copyto0 {h : zH} : R_X6_copyFrom [.ref 8, .ref 1] h none (zc5 h 2 9) := r_X6_copyFromto0 _ _ _ rfl (t_X6_copyFromto0_0 _ _ ⟨_, ⟨2, 9, 30, 30, 0, 0, 30, rfl, rfl, rfl, by decide, by decide, by decide, by decide, by decide, rfl, rfl⟩, _, ⟨3, 10, 5, 5, 0, 0, 5, rfl, rfl, rfl, by decide, by decide, by decide, by decide, by decide, rfl, rfl⟩, _, ⟨4, 11, 12, 12, 0, 0, 12, rfl, rfl, rfl, by decide, by decide, by decide, by decide, by decide, rfl, rfl⟩, _, ⟨5, 12, 4, 4, 0, 0, 4, rfl, rfl, rfl, by decide, by decide, by decide, by decide, by decide, rfl, rfl⟩, _, ⟨6, 13, 12, 12, 0, 0, 12, rfl, rfl, rfl, by decide, by decide, by decide, by decide, by decide, rfl, rfl⟩, ⟨rfl, rfl⟩⟩)
theorem c_copyof0 {h : zH} : R_X6_copyFrom [.ref 1, .ref 8] h none (zc5 h 9 2) := r_X6_copyFromof0 _ _ _ rfl (t_X6_copyFromof0_0 _ _ ⟨_, ⟨9, 2, 30, 30, 0, 0, 30, rfl, rfl, rfl, by decide, by decide, by decide, by decide, by decide, rfl, rfl⟩, _, ⟨10, 3, 5, 5, 0, 0, 5, rfl, rfl, rfl, by decide, by decide, by decide, by decide, by decide, rfl, rfl⟩, _, ⟨11, 4, 12, 12, 0, 0, 12, rfl, rfl, rfl, by decide, by decide, by decide, by decide, by decide, rfl, rfl⟩, _, ⟨12, 5, 4, 4, 0, 0, 4, rfl, rfl, rfl, by decide, by decide, by decide, by decide, by decide, rfl, rfl⟩, _, ⟨13, 6, 12, 12, 0, 0, 12, rfl, rfl, rfl, by decide, by decide, by decide, by decide, by decide, rfl, rfl⟩, ⟨rfl, rfl⟩⟩)
theorem c_copyto1 {h : zH} : R_X6_copyFrom [.ref 14, .ref 1] h none (zc5 h 2 15) := r_X6_copyFromto1 _ _ _ rfl (t_X6_copyFromto1_0 _ _ ⟨_, ⟨2, 15, 30, 30, 0, 0, 30, rfl, rfl, rfl, by decide, by decide, by decide, by decide, by decide, rfl, rfl⟩, _, ⟨3, 16, 5, 5, 0, 0, 5, rfl, rfl, rfl, by decide, by decide, by decide, by decide, by decide, rfl, rfl⟩, _, ⟨4, 17, 12, 12, 0, 0, 12, rfl, rfl, rfl, by decide, by decide, by decide, by decide, by decide, rfl, rfl⟩, _, ⟨5, 18, 4, 4, 0, 0, 4, rfl, rfl, rfl, by decide, by decide, by decide, by decide, by decide, rfl, rfl⟩, _, ⟨6, 19, 12, 12, 0, 0, 12, rfl, rfl, rfl, by decide, by decide, by decide, by decide, by decide, rfl, rfl⟩, ⟨rfl, rfl⟩⟩)
theorem c_copyof1 {h : zH} : R_X6_copyFrom [.ref 1, .ref 14] h none (zc5 h 15 2) := r_X6_copyFromof1 _ _ _ rfl (t_X6_copyFromof1_0 _ _ ⟨_, ⟨15, 2, 30, 30, 0, 0, 30, rfl, rfl, rfl, by decide, by decide, by decide, by decide, by decide, rfl, rfl⟩, _, ⟨16, 3, 5, 5, 0, 0, 5, rfl, rfl, rfl, by decide, by decide, by decide, by decide, by decide, rfl, rfl⟩, _, ⟨17, 4, 12, 12, 0, 0, 12, rfl, rfl, rfl, by decide, by decide, by decide, by decide, by decide, rfl, rfl⟩, _, ⟨18, 5, 4, 4, 0, 0, 4, rfl, rfl, rfl, by decide, by decide, by decide, by decide, by decide, rfl, rfl⟩, _, ⟨19, 6, 12, 12, 0, 0, 12, rfl, rfl, rfl, by decide, by decide, by decide, by decide, by decide, rfl, rfl⟩, ⟨rfl, rfl⟩⟩)
theorem c_copyto2 {h : zH} : R_X6_copyFrom [.ref 20, .ref 1] h none (zc5 h 2 21) := r_X6_copyFromto2 _ _ _ rfl (t_X6_copyFromto2_0 _ _ ⟨_, ⟨2, 21, 30, 30, 0, 0, 30, rfl, rfl, rfl, by decide, by decide, by decide, by decide, by decide, rfl, rfl⟩, _, ⟨3, 22, 5, 5, 0, 0, 5, rfl, rfl, rfl, by decide, by decide, by decide, by decide, by decide, rfl, rfl⟩, _, ⟨4, 23, 12, 12, 0, 0, 12, rfl, rfl, rfl, by decide, by decide, by decide, by decide, by decide, rfl, rfl⟩, _, ⟨5, 24, 4, 4, 0, 0, 4, rfl, rfl, rfl, by decide, by decide, by decide, by decide, by decide, rfl, rfl⟩, _, ⟨6, 25, 12, 12, 0, 0, 12, rfl, rfl, rfl, by decide, by decide, by decide, by decide, by decide, rfl, rfl⟩, ⟨rfl, rfl⟩⟩)
theorem c_copyof2 {h : zH} : R_X6_copyFrom [.ref 1, .ref 20] h none (zc5 h 21 2) := r_X6_copyFromof2 _ _ _ rfl (t_X6_copyFromof2_0 _ _ ⟨_, ⟨21, 2, 30, 30, 0, 0, 30, rfl, rfl, rfl, by decide, by decide, by decide, by decide, by decide, rfl, rfl⟩, _, ⟨22, 3, 5, 5, 0, 0, 5, rfl, rfl, rfl, by decide, by decide, by decide, by decide, by decide, rfl, rfl⟩, _, ⟨23, 4, 12, 12, 0, 0, 12, rfl, rfl, rfl, by decide, by decide, by decide, by decide, by decide, rfl, rfl⟩, _, ⟨24, 5, 4, 4, 0, 0, 4, rfl, rfl, rfl, by decide, by decide, by decide, by decide, by decide, rfl, rfl⟩, _, ⟨25, 6, 12, 12, 0, 0, 12, rfl, rfl, rfl, by decide, by decide, by decide, by decide, by decide, rfl, rfl⟩, ⟨rfl, rfl⟩⟩)
theorem c_keep {h : zH} {k : Nat} (hk : k < 3) (h0 : h.1 0 2 = nI k) : ∃ h', R_X7_keep [.ref 0] h (some (.int (nI (k + 1)))) h' ∧ CP h h' 2 (9 + 6 * k) ∧ h'.1 0 2 = nI (k + 1) := by
  have h3 : h.1 0 2 < 3 := by rw [h0, q3, nI_ltI (by omega) (by omega)]; omega
  have fin : ∀ (h1 : zH), CP h h1 2 (9 + 6 * k) → CP h (zsi h1 0 2 (h1.1 0 2 + 1)) 2 (9 + 6 * k) ∧ (zsi h1 0 2 (h1.1 0 2 + 1)).1 0 2 = nI (k + 1) ∨ h1.1 0 2 ≠ h.1 0 2 := fun h1 ⟨a1, a2, a3, a4, a5, a6⟩ => by
    by_cases e : h1.1 0 2 = h.1 0 2
    · refine .inl ⟨⟨fun j hj => by rw [zr_ne (by omega)]; exact a1 j hj, fun j hj => by rw [zr_ne (by omega)]; exact a2 j hj, fun j hj => by rw [zr_ne (by omega)]; exact a3 j hj, fun j hj => by rw [zr_ne (by omega)]; exact a4 j hj, fun j hj => by rw [zr_ne (by omega)]; exact a5 j hj, fun a j h1 h2 => ?_⟩, by rw [zr_eq, e, h0, nI_1]⟩
      by_cases e0 : a = 0
      · subst e0; rw [zr_nj (by omega)]; exact a6 0 j h1 h2
      · rw [zr_ne e0]; exact a6 a j h1 h2
    · exact .inr e
  rcases (by omega : k = 0 ∨ k = 1 ∨ k = 2) with rfl | rfl | rfl
  · have cp := zc5_cp h (s := 2) (d := 9) (by omega)
    have e0 : (zc5 h 2 9).1 0 2 = h.1 0 2 := by unfold zc5; rw [zc_ne (by omega), zc_ne (by omega), zc_ne (by omega), zc_ne (by omega), zc_ne (by omega)]
    have f := (fin _ cp).resolve_right (fun z => z e0)
    refine ⟨_, r_X7_keep _ _ _ ⟨_, rfl⟩ (t_X7_keep_0 _ _ ⟨fun _ => ?_, fun z => absurd h3 z⟩), f⟩
    rw [h0]
    exact t_X7_keep_19_0 _ _ ⟨vp_in_nI (n := 0) (by omega) (by omega), _, c_copyto0, by rw [f.2], rfl⟩
  · have cp := zc5_cp h (s := 2) (d := 15) (by omega)
    have e0 : (zc5 h 2 15).1 0 2 = h.1 0 2 := by unfold zc5; rw [zc_ne (by omega), zc_ne (by omega), zc_ne (by omega), zc_ne (by omega), zc_ne (by omega)]
    have f := (fin _ cp).resolve_right (fun z => z e0)
    refine ⟨_, r_X7_keep _ _ _ ⟨_, rfl⟩ (t_X7_keep_0 _ _ ⟨fun _ => ?_, fun z => absurd h3 z⟩), f⟩
    rw [h0]
    exact t_X7_keep_19_1 _ _ ⟨vp_in_nI (n := 1) (by omega) (by omega), _, c_copyto1, by rw [f.2], rfl⟩
  · have cp := zc5_cp h (s := 2) (d := 21) (by omega)
    have e0 : (zc5 h 2 21).1 0 2 = h.1 0 2 := by unfold zc5; rw [zc_ne (by omega), zc_ne (by omega), zc_ne (by omega), zc_ne (by omega), zc_ne (by omega)]
    have f := (fin _ cp).resolve_right (fun z => z e0)
    refine ⟨_, r_X7_keep _ _ _ ⟨_, rfl⟩ (t_X7_keep_0 _ _ ⟨fun _ => ?_, fun z => absurd h3 z⟩), f⟩
    rw [h0]
    exact t_X7_keep_19_2 _ _ ⟨vp_in_nI (n := 2) (by omega) (by omega), _, c_copyto2, by rw [f.2], rfl⟩
theorem c_back {h : zH} {k : Nat} (hk : k < 3) (h0 : h.1 0 2 = nI (k + 1)) : ∃ h', R_X7_back [.ref 0] h (some (.int (nI k))) h' ∧ CP h h' (9 + 6 * k) 2 ∧ h'.1 0 2 = nI k := by
  have h3 : 0 < h.1 0 2 := by rw [h0, q0, nI_ltI (by omega) (by omega)]; omega
  have e1 : h.1 0 2 - 1 = nI k := by rw [h0, q1, pk_sub (by omega)]; rfl
  have fin : ∀ (h1 : zH), CP (zsi h 0 2 (h.1 0 2 - 1)) h1 (9 + 6 * k) 2 → CP h h1 (9 + 6 * k) 2 := fun h1 ⟨a1, a2, a3, a4, a5, a6⟩ => by
    refine ⟨fun j hj => by rw [a1 j hj, zr_ne (by omega)], fun j hj => by rw [a2 j hj, zr_ne (by omega)], fun j hj => by rw [a3 j hj, zr_ne (by omega)], fun j hj => by rw [a4 j hj, zr_ne (by omega)], fun j hj => by rw [a5 j hj, zr_ne (by omega)], fun a j h1 h2 => ?_⟩
    rw [a6 a j h1 h2]
    by_cases e0 : a = 0
    · subst e0; rw [zr_nj (by omega)]
    · rw [zr_ne e0]
  rcases (by omega : k = 0 ∨ k = 1 ∨ k = 2) with rfl | rfl | rfl
  · have cp := fin _ (zc5_cp (zsi h 0 2 (h.1 0 2 - 1)) (s := 9) (d := 2) (by omega))
    have e0 : (zc5 (zsi h 0 2 (h.1 0 2 - 1)) 9 2).1 0 2 = nI 0 := by unfold zc5; rw [zc_ne (by omega), zc_ne (by omega), zc_ne (by omega), zc_ne (by omega), zc_ne (by omega), zr_eq]; exact e1
    refine ⟨_, r_X7_back _ _ _ ⟨_, rfl⟩ (t_X7_back_0 _ _ ⟨fun _ => ?_, fun z => absurd h3 z⟩), cp, e0⟩
    rw [zr_eq, e1]
    rw [e1] at e0
    exact t_X7_back_32_0 _ _ ⟨vp_in_nI (n := 0) (by omega) (by omega), _, c_copyof0, by rw [e0], rfl⟩
  · have cp := fin _ (zc5_cp (zsi h 0 2 (h.1 0 2 - 1)) (s := 15) (d := 2) (by omega))
    have e0 : (zc5 (zsi h 0 2 (h.1 0 2 - 1)) 15 2).1 0 2 = nI 1 := by unfold zc5; rw [zc_ne (by omega), zc_ne (by omega), zc_ne (by omega), zc_ne (by omega), zc_ne (by omega), zr_eq]; exact e1
    refine ⟨_, r_X7_back _ _ _ ⟨_, rfl⟩ (t_X7_back_0 _ _ ⟨fun _ => ?_, fun z => absurd h3 z⟩), cp, e0⟩
    rw [zr_eq, e1]
    rw [e1] at e0
    exact t_X7_back_32_1 _ _ ⟨vp_in_nI (n := 1) (by omega) (by omega), _, c_copyof1, by rw [e0], rfl⟩
  · have cp := fin _ (zc5_cp (zsi h 0 2 (h.1 0 2 - 1)) (s := 21) (d := 2) (by omega))
    have e0 : (zc5 (zsi h 0 2 (h.1 0 2 - 1)) 21 2).1 0 2 = nI 2 := by unfold zc5; rw [zc_ne (by omega), zc_ne (by omega), zc_ne (by omega), zc_ne (by omega), zc_ne (by omega), zr_eq]; exact e1
    refine ⟨_, r_X7_back _ _ _ ⟨_, rfl⟩ (t_X7_back_0 _ _ ⟨fun _ => ?_, fun z => absurd h3 z⟩), cp, e0⟩
    rw [zr_eq, e1]
    rw [e1] at e0
    exact t_X7_back_32_2 _ _ ⟨vp_in_nI (n := 2) (by omega) (by omega), _, c_copyof2, by rw [e0], rfl⟩
/-- n of one row laid into another -/
def cy (h h' : zH) (a b s e n : Nat) : Prop := (∀ j, j < n → h'.1 a (b + j) = h.1 s (e + j)) ∧ ∀ x y, ¬ (x = a ∧ b ≤ y ∧ y < b + n) → h'.1 x y = h.1 x y
theorem cy_0 {h : zH} {a b s e : Nat} : cy h h a b s e 0 := ⟨fun j hj => absurd hj (by omega), fun _ _ _ => rfl⟩
theorem cy_s {h h' : zH} {a b s e n : Nat} (hc : cy h h' a b s e n) (hn : s ≠ a) : cy h (zsi h' a (b + n) (h'.1 s (e + n))) a b s e (n + 1) := by
  refine ⟨fun j hj => ?_, fun x y hx => ?_⟩
  · by_cases q : j = n
    · subst q; rw [zr_eq, hc.2 _ _ (by omega)]
    · rw [zr_nj (by omega)]; exact hc.1 j (by omega)
  · by_cases q : x = a
    · subst q; rw [zr_nj (by omega)]; exact hc.2 _ _ (by omega)
    · rw [zr_ne q]; exact hc.2 _ _ (by omega)
theorem l_keep_21 {h : zH} {k : Nat} (hk : k < 3) : ∃ h1, cy h h1 62 (51 * k + 0) 43 0 30 ∧ ∀ post : Option Value → zH → Prop, zG M_X8_keep post (zat M_X8_keep 49) [some (.ref 42), some (.int (nI (51 * k))), some (.int 0)] [] h1 → zG M_X8_keep post (zat M_X8_keep 21) [some (.ref 42), some (.int (nI (51 * k))), some (.int 0)] [] h := by
  have key : ∀ (d i : Nat) (h0 : zH), i + d = 30 → cy h h0 62 (51 * k + 0) 43 0 i → ∃ h1, cy h h1 62 (51 * k + 0) 43 0 30 ∧ ∀ post : Option Value → zH → Prop, zG M_X8_keep post (zat M_X8_keep 49) [some (.ref 42), some (.int (nI (51 * k))), some (.int 0)] [] h1 → zG M_X8_keep post (zat M_X8_keep 21) [some (.ref 42), some (.int (nI (51 * k))), some (.int (nI i))] [] h0 := by
    intro d
    induction d with
    | zero =>
      intro i h1 hi hc
      have : i = 30 := by omega
      subst this
      exact ⟨h1, hc, fun post g => t_X8_keep_21 _ _ _ _ ⟨fun _ => g, fun z => absurd (nI_le (a := 30) (b := 30) (by omega) (by omega)) z⟩⟩
    | succ d ih =>
      intro i h1 hi hc
      have ix : nI (51 * k) + nI i = nI (51 * k + 0 + i) := nI_add _ _
      have v1 : vp_in (nI i) 30 := vp_in_nI (by omega) (by omega)
      have v2 : vp_in (nI (51 * k) + nI i) 153 := by rw [ix]; exact vp_in_nI (by omega) (by omega)
      obtain ⟨h', c', g'⟩ := ih (i + 1) _ (by omega) (cy_s hc (by omega))
      refine ⟨h', c', fun post g => t_X8_keep_21 _ _ _ _ ⟨fun z => ?_, fun _ => ⟨v1, v2, ?_⟩⟩⟩
      · rw [show (30 : Int32) = nI 30 from rfl, nI_leI (by omega) (by omega)] at z; omega
      have g2 := g' post g
      rw [ix, nI_clamp (by omega), nI_clamp (by omega), nI_1]
      rw [Nat.zero_add] at g2
      exact g2
  exact key 30 0 h (by omega) cy_0
theorem l_keep_49 {h : zH} {k : Nat} (hk : k < 3) : ∃ h1, cy h h1 62 (51 * k + 30) 45 0 12 ∧ ∀ post : Option Value → zH → Prop, zG M_X8_keep post (zat M_X8_keep 80) [some (.ref 42), some (.int (nI (51 * k))), some (.int 0)] [] h1 → zG M_X8_keep post (zat M_X8_keep 49) [some (.ref 42), some (.int (nI (51 * k))), some (.int 0)] [] h := by
  have key : ∀ (d i : Nat) (h0 : zH), i + d = 12 → cy h h0 62 (51 * k + 30) 45 0 i → ∃ h1, cy h h1 62 (51 * k + 30) 45 0 12 ∧ ∀ post : Option Value → zH → Prop, zG M_X8_keep post (zat M_X8_keep 80) [some (.ref 42), some (.int (nI (51 * k))), some (.int 0)] [] h1 → zG M_X8_keep post (zat M_X8_keep 49) [some (.ref 42), some (.int (nI (51 * k))), some (.int (nI i))] [] h0 := by
    intro d
    induction d with
    | zero =>
      intro i h1 hi hc
      have : i = 12 := by omega
      subst this
      exact ⟨h1, hc, fun post g => t_X8_keep_49 _ _ _ _ ⟨fun _ => g, fun z => absurd (nI_le (a := 12) (b := 12) (by omega) (by omega)) z⟩⟩
    | succ d ih =>
      intro i h1 hi hc
      have ix : nI (51 * k) + 30 + nI i = nI (51 * k + 30 + i) := by rw [show (30 : Int32) = nI 30 from rfl, nI_add, nI_add]
      have v1 : vp_in (nI i) 12 := vp_in_nI (by omega) (by omega)
      have v2 : vp_in (nI (51 * k) + 30 + nI i) 153 := by rw [ix]; exact vp_in_nI (by omega) (by omega)
      obtain ⟨h', c', g'⟩ := ih (i + 1) _ (by omega) (cy_s hc (by omega))
      refine ⟨h', c', fun post g => t_X8_keep_49 _ _ _ _ ⟨fun z => ?_, fun _ => ⟨v1, v2, ?_⟩⟩⟩
      · rw [show (12 : Int32) = nI 12 from rfl, nI_leI (by omega) (by omega)] at z; omega
      have g2 := g' post g
      rw [ix, nI_clamp (by omega), nI_clamp (by omega), nI_1]
      rw [Nat.zero_add] at g2
      exact g2
  exact key 12 0 h (by omega) cy_0
theorem l_keep_80 {h : zH} {k : Nat} (hk : k < 3) : ∃ h1, cy h h1 62 (51 * k + 42) 44 0 4 ∧ ∀ post : Option Value → zH → Prop, (vp_in ((nI (51 * k)) + (46 : Int32)) 153 ∧ vp_in ((nI (51 * k)) + (47 : Int32)) 153 ∧ vp_in ((nI (51 * k)) + (48 : Int32)) 153 ∧ vp_in ((nI (51 * k)) + (49 : Int32)) 153 ∧ vp_in ((nI (51 * k)) + (50 : Int32)) 153 ∧ post (some (.int ((zsi (zsi (zsi (zsi (zsi (zsi h1 62 ((nI (51 * k)) + (46 : Int32)).toNatClampNeg (h1.1 42 1)) 62 ((nI (51 * k)) + (47 : Int32)).toNatClampNeg ((zsi h1 62 ((nI (51 * k)) + (46 : Int32)).toNatClampNeg (h1.1 42 1)).1 42 2)) 62 ((nI (51 * k)) + (48 : Int32)).toNatClampNeg ((zsi (zsi h1 62 ((nI (51 * k)) + (46 : Int32)).toNatClampNeg (h1.1 42 1)) 62 ((nI (51 * k)) + (47 : Int32)).toNatClampNeg ((zsi h1 62 ((nI (51 * k)) + (46 : Int32)).toNatClampNeg (h1.1 42 1)).1 42 2)).1 42 3)) 62 ((nI (51 * k)) + (49 : Int32)).toNatClampNeg ((zsi (zsi (zsi h1 62 ((nI (51 * k)) + (46 : Int32)).toNatClampNeg (h1.1 42 1)) 62 ((nI (51 * k)) + (47 : Int32)).toNatClampNeg ((zsi h1 62 ((nI (51 * k)) + (46 : Int32)).toNatClampNeg (h1.1 42 1)).1 42 2)) 62 ((nI (51 * k)) + (48 : Int32)).toNatClampNeg ((zsi (zsi h1 62 ((nI (51 * k)) + (46 : Int32)).toNatClampNeg (h1.1 42 1)) 62 ((nI (51 * k)) + (47 : Int32)).toNatClampNeg ((zsi h1 62 ((nI (51 * k)) + (46 : Int32)).toNatClampNeg (h1.1 42 1)).1 42 2)).1 42 3)).1 42 4)) 62 ((nI (51 * k)) + (50 : Int32)).toNatClampNeg ((zsi (zsi (zsi (zsi h1 62 ((nI (51 * k)) + (46 : Int32)).toNatClampNeg (h1.1 42 1)) 62 ((nI (51 * k)) + (47 : Int32)).toNatClampNeg ((zsi h1 62 ((nI (51 * k)) + (46 : Int32)).toNatClampNeg (h1.1 42 1)).1 42 2)) 62 ((nI (51 * k)) + (48 : Int32)).toNatClampNeg ((zsi (zsi h1 62 ((nI (51 * k)) + (46 : Int32)).toNatClampNeg (h1.1 42 1)) 62 ((nI (51 * k)) + (47 : Int32)).toNatClampNeg ((zsi h1 62 ((nI (51 * k)) + (46 : Int32)).toNatClampNeg (h1.1 42 1)).1 42 2)).1 42 3)) 62 ((nI (51 * k)) + (49 : Int32)).toNatClampNeg ((zsi (zsi (zsi h1 62 ((nI (51 * k)) + (46 : Int32)).toNatClampNeg (h1.1 42 1)) 62 ((nI (51 * k)) + (47 : Int32)).toNatClampNeg ((zsi h1 62 ((nI (51 * k)) + (46 : Int32)).toNatClampNeg (h1.1 42 1)).1 42 2)) 62 ((nI (51 * k)) + (48 : Int32)).toNatClampNeg ((zsi (zsi h1 62 ((nI (51 * k)) + (46 : Int32)).toNatClampNeg (h1.1 42 1)) 62 ((nI (51 * k)) + (47 : Int32)).toNatClampNeg ((zsi h1 62 ((nI (51 * k)) + (46 : Int32)).toNatClampNeg (h1.1 42 1)).1 42 2)).1 42 3)).1 42 4)).1 42 5)) 42 28 (((zsi (zsi (zsi (zsi (zsi h1 62 ((nI (51 * k)) + (46 : Int32)).toNatClampNeg (h1.1 42 1)) 62 ((nI (51 * k)) + (47 : Int32)).toNatClampNeg ((zsi h1 62 ((nI (51 * k)) + (46 : Int32)).toNatClampNeg (h1.1 42 1)).1 42 2)) 62 ((nI (51 * k)) + (48 : Int32)).toNatClampNeg ((zsi (zsi h1 62 ((nI (51 * k)) + (46 : Int32)).toNatClampNeg (h1.1 42 1)) 62 ((nI (51 * k)) + (47 : Int32)).toNatClampNeg ((zsi h1 62 ((nI (51 * k)) + (46 : Int32)).toNatClampNeg (h1.1 42 1)).1 42 2)).1 42 3)) 62 ((nI (51 * k)) + (49 : Int32)).toNatClampNeg ((zsi (zsi (zsi h1 62 ((nI (51 * k)) + (46 : Int32)).toNatClampNeg (h1.1 42 1)) 62 ((nI (51 * k)) + (47 : Int32)).toNatClampNeg ((zsi h1 62 ((nI (51 * k)) + (46 : Int32)).toNatClampNeg (h1.1 42 1)).1 42 2)) 62 ((nI (51 * k)) + (48 : Int32)).toNatClampNeg ((zsi (zsi h1 62 ((nI (51 * k)) + (46 : Int32)).toNatClampNeg (h1.1 42 1)) 62 ((nI (51 * k)) + (47 : Int32)).toNatClampNeg ((zsi h1 62 ((nI (51 * k)) + (46 : Int32)).toNatClampNeg (h1.1 42 1)).1 42 2)).1 42 3)).1 42 4)) 62 ((nI (51 * k)) + (50 : Int32)).toNatClampNeg ((zsi (zsi (zsi (zsi h1 62 ((nI (51 * k)) + (46 : Int32)).toNatClampNeg (h1.1 42 1)) 62 ((nI (51 * k)) + (47 : Int32)).toNatClampNeg ((zsi h1 62 ((nI (51 * k)) + (46 : Int32)).toNatClampNeg (h1.1 42 1)).1 42 2)) 62 ((nI (51 * k)) + (48 : Int32)).toNatClampNeg ((zsi (zsi h1 62 ((nI (51 * k)) + (46 : Int32)).toNatClampNeg (h1.1 42 1)) 62 ((nI (51 * k)) + (47 : Int32)).toNatClampNeg ((zsi h1 62 ((nI (51 * k)) + (46 : Int32)).toNatClampNeg (h1.1 42 1)).1 42 2)).1 42 3)) 62 ((nI (51 * k)) + (49 : Int32)).toNatClampNeg ((zsi (zsi (zsi h1 62 ((nI (51 * k)) + (46 : Int32)).toNatClampNeg (h1.1 42 1)) 62 ((nI (51 * k)) + (47 : Int32)).toNatClampNeg ((zsi h1 62 ((nI (51 * k)) + (46 : Int32)).toNatClampNeg (h1.1 42 1)).1 42 2)) 62 ((nI (51 * k)) + (48 : Int32)).toNatClampNeg ((zsi (zsi h1 62 ((nI (51 * k)) + (46 : Int32)).toNatClampNeg (h1.1 42 1)) 62 ((nI (51 * k)) + (47 : Int32)).toNatClampNeg ((zsi h1 62 ((nI (51 * k)) + (46 : Int32)).toNatClampNeg (h1.1 42 1)).1 42 2)).1 42 3)).1 42 4)).1 42 5)).1 42 28) + (1 : Int32))).1 42 28))) (zsi (zsi (zsi (zsi (zsi (zsi h1 62 ((nI (51 * k)) + (46 : Int32)).toNatClampNeg (h1.1 42 1)) 62 ((nI (51 * k)) + (47 : Int32)).toNatClampNeg ((zsi h1 62 ((nI (51 * k)) + (46 : Int32)).toNatClampNeg (h1.1 42 1)).1 42 2)) 62 ((nI (51 * k)) + (48 : Int32)).toNatClampNeg ((zsi (zsi h1 62 ((nI (51 * k)) + (46 : Int32)).toNatClampNeg (h1.1 42 1)) 62 ((nI (51 * k)) + (47 : Int32)).toNatClampNeg ((zsi h1 62 ((nI (51 * k)) + (46 : Int32)).toNatClampNeg (h1.1 42 1)).1 42 2)).1 42 3)) 62 ((nI (51 * k)) + (49 : Int32)).toNatClampNeg ((zsi (zsi (zsi h1 62 ((nI (51 * k)) + (46 : Int32)).toNatClampNeg (h1.1 42 1)) 62 ((nI (51 * k)) + (47 : Int32)).toNatClampNeg ((zsi h1 62 ((nI (51 * k)) + (46 : Int32)).toNatClampNeg (h1.1 42 1)).1 42 2)) 62 ((nI (51 * k)) + (48 : Int32)).toNatClampNeg ((zsi (zsi h1 62 ((nI (51 * k)) + (46 : Int32)).toNatClampNeg (h1.1 42 1)) 62 ((nI (51 * k)) + (47 : Int32)).toNatClampNeg ((zsi h1 62 ((nI (51 * k)) + (46 : Int32)).toNatClampNeg (h1.1 42 1)).1 42 2)).1 42 3)).1 42 4)) 62 ((nI (51 * k)) + (50 : Int32)).toNatClampNeg ((zsi (zsi (zsi (zsi h1 62 ((nI (51 * k)) + (46 : Int32)).toNatClampNeg (h1.1 42 1)) 62 ((nI (51 * k)) + (47 : Int32)).toNatClampNeg ((zsi h1 62 ((nI (51 * k)) + (46 : Int32)).toNatClampNeg (h1.1 42 1)).1 42 2)) 62 ((nI (51 * k)) + (48 : Int32)).toNatClampNeg ((zsi (zsi h1 62 ((nI (51 * k)) + (46 : Int32)).toNatClampNeg (h1.1 42 1)) 62 ((nI (51 * k)) + (47 : Int32)).toNatClampNeg ((zsi h1 62 ((nI (51 * k)) + (46 : Int32)).toNatClampNeg (h1.1 42 1)).1 42 2)).1 42 3)) 62 ((nI (51 * k)) + (49 : Int32)).toNatClampNeg ((zsi (zsi (zsi h1 62 ((nI (51 * k)) + (46 : Int32)).toNatClampNeg (h1.1 42 1)) 62 ((nI (51 * k)) + (47 : Int32)).toNatClampNeg ((zsi h1 62 ((nI (51 * k)) + (46 : Int32)).toNatClampNeg (h1.1 42 1)).1 42 2)) 62 ((nI (51 * k)) + (48 : Int32)).toNatClampNeg ((zsi (zsi h1 62 ((nI (51 * k)) + (46 : Int32)).toNatClampNeg (h1.1 42 1)) 62 ((nI (51 * k)) + (47 : Int32)).toNatClampNeg ((zsi h1 62 ((nI (51 * k)) + (46 : Int32)).toNatClampNeg (h1.1 42 1)).1 42 2)).1 42 3)).1 42 4)).1 42 5)) 42 28 (((zsi (zsi (zsi (zsi (zsi h1 62 ((nI (51 * k)) + (46 : Int32)).toNatClampNeg (h1.1 42 1)) 62 ((nI (51 * k)) + (47 : Int32)).toNatClampNeg ((zsi h1 62 ((nI (51 * k)) + (46 : Int32)).toNatClampNeg (h1.1 42 1)).1 42 2)) 62 ((nI (51 * k)) + (48 : Int32)).toNatClampNeg ((zsi (zsi h1 62 ((nI (51 * k)) + (46 : Int32)).toNatClampNeg (h1.1 42 1)) 62 ((nI (51 * k)) + (47 : Int32)).toNatClampNeg ((zsi h1 62 ((nI (51 * k)) + (46 : Int32)).toNatClampNeg (h1.1 42 1)).1 42 2)).1 42 3)) 62 ((nI (51 * k)) + (49 : Int32)).toNatClampNeg ((zsi (zsi (zsi h1 62 ((nI (51 * k)) + (46 : Int32)).toNatClampNeg (h1.1 42 1)) 62 ((nI (51 * k)) + (47 : Int32)).toNatClampNeg ((zsi h1 62 ((nI (51 * k)) + (46 : Int32)).toNatClampNeg (h1.1 42 1)).1 42 2)) 62 ((nI (51 * k)) + (48 : Int32)).toNatClampNeg ((zsi (zsi h1 62 ((nI (51 * k)) + (46 : Int32)).toNatClampNeg (h1.1 42 1)) 62 ((nI (51 * k)) + (47 : Int32)).toNatClampNeg ((zsi h1 62 ((nI (51 * k)) + (46 : Int32)).toNatClampNeg (h1.1 42 1)).1 42 2)).1 42 3)).1 42 4)) 62 ((nI (51 * k)) + (50 : Int32)).toNatClampNeg ((zsi (zsi (zsi (zsi h1 62 ((nI (51 * k)) + (46 : Int32)).toNatClampNeg (h1.1 42 1)) 62 ((nI (51 * k)) + (47 : Int32)).toNatClampNeg ((zsi h1 62 ((nI (51 * k)) + (46 : Int32)).toNatClampNeg (h1.1 42 1)).1 42 2)) 62 ((nI (51 * k)) + (48 : Int32)).toNatClampNeg ((zsi (zsi h1 62 ((nI (51 * k)) + (46 : Int32)).toNatClampNeg (h1.1 42 1)) 62 ((nI (51 * k)) + (47 : Int32)).toNatClampNeg ((zsi h1 62 ((nI (51 * k)) + (46 : Int32)).toNatClampNeg (h1.1 42 1)).1 42 2)).1 42 3)) 62 ((nI (51 * k)) + (49 : Int32)).toNatClampNeg ((zsi (zsi (zsi h1 62 ((nI (51 * k)) + (46 : Int32)).toNatClampNeg (h1.1 42 1)) 62 ((nI (51 * k)) + (47 : Int32)).toNatClampNeg ((zsi h1 62 ((nI (51 * k)) + (46 : Int32)).toNatClampNeg (h1.1 42 1)).1 42 2)) 62 ((nI (51 * k)) + (48 : Int32)).toNatClampNeg ((zsi (zsi h1 62 ((nI (51 * k)) + (46 : Int32)).toNatClampNeg (h1.1 42 1)) 62 ((nI (51 * k)) + (47 : Int32)).toNatClampNeg ((zsi h1 62 ((nI (51 * k)) + (46 : Int32)).toNatClampNeg (h1.1 42 1)).1 42 2)).1 42 3)).1 42 4)).1 42 5)).1 42 28) + (1 : Int32)))) → zG M_X8_keep post (zat M_X8_keep 80) [some (.ref 42), some (.int (nI (51 * k))), some (.int 0)] [] h := by
  have key : ∀ (d i : Nat) (h0 : zH), i + d = 4 → cy h h0 62 (51 * k + 42) 44 0 i → ∃ h1, cy h h1 62 (51 * k + 42) 44 0 4 ∧ ∀ post : Option Value → zH → Prop, (vp_in ((nI (51 * k)) + (46 : Int32)) 153 ∧ vp_in ((nI (51 * k)) + (47 : Int32)) 153 ∧ vp_in ((nI (51 * k)) + (48 : Int32)) 153 ∧ vp_in ((nI (51 * k)) + (49 : Int32)) 153 ∧ vp_in ((nI (51 * k)) + (50 : Int32)) 153 ∧ post (some (.int ((zsi (zsi (zsi (zsi (zsi (zsi h1 62 ((nI (51 * k)) + (46 : Int32)).toNatClampNeg (h1.1 42 1)) 62 ((nI (51 * k)) + (47 : Int32)).toNatClampNeg ((zsi h1 62 ((nI (51 * k)) + (46 : Int32)).toNatClampNeg (h1.1 42 1)).1 42 2)) 62 ((nI (51 * k)) + (48 : Int32)).toNatClampNeg ((zsi (zsi h1 62 ((nI (51 * k)) + (46 : Int32)).toNatClampNeg (h1.1 42 1)) 62 ((nI (51 * k)) + (47 : Int32)).toNatClampNeg ((zsi h1 62 ((nI (51 * k)) + (46 : Int32)).toNatClampNeg (h1.1 42 1)).1 42 2)).1 42 3)) 62 ((nI (51 * k)) + (49 : Int32)).toNatClampNeg ((zsi (zsi (zsi h1 62 ((nI (51 * k)) + (46 : Int32)).toNatClampNeg (h1.1 42 1)) 62 ((nI (51 * k)) + (47 : Int32)).toNatClampNeg ((zsi h1 62 ((nI (51 * k)) + (46 : Int32)).toNatClampNeg (h1.1 42 1)).1 42 2)) 62 ((nI (51 * k)) + (48 : Int32)).toNatClampNeg ((zsi (zsi h1 62 ((nI (51 * k)) + (46 : Int32)).toNatClampNeg (h1.1 42 1)) 62 ((nI (51 * k)) + (47 : Int32)).toNatClampNeg ((zsi h1 62 ((nI (51 * k)) + (46 : Int32)).toNatClampNeg (h1.1 42 1)).1 42 2)).1 42 3)).1 42 4)) 62 ((nI (51 * k)) + (50 : Int32)).toNatClampNeg ((zsi (zsi (zsi (zsi h1 62 ((nI (51 * k)) + (46 : Int32)).toNatClampNeg (h1.1 42 1)) 62 ((nI (51 * k)) + (47 : Int32)).toNatClampNeg ((zsi h1 62 ((nI (51 * k)) + (46 : Int32)).toNatClampNeg (h1.1 42 1)).1 42 2)) 62 ((nI (51 * k)) + (48 : Int32)).toNatClampNeg ((zsi (zsi h1 62 ((nI (51 * k)) + (46 : Int32)).toNatClampNeg (h1.1 42 1)) 62 ((nI (51 * k)) + (47 : Int32)).toNatClampNeg ((zsi h1 62 ((nI (51 * k)) + (46 : Int32)).toNatClampNeg (h1.1 42 1)).1 42 2)).1 42 3)) 62 ((nI (51 * k)) + (49 : Int32)).toNatClampNeg ((zsi (zsi (zsi h1 62 ((nI (51 * k)) + (46 : Int32)).toNatClampNeg (h1.1 42 1)) 62 ((nI (51 * k)) + (47 : Int32)).toNatClampNeg ((zsi h1 62 ((nI (51 * k)) + (46 : Int32)).toNatClampNeg (h1.1 42 1)).1 42 2)) 62 ((nI (51 * k)) + (48 : Int32)).toNatClampNeg ((zsi (zsi h1 62 ((nI (51 * k)) + (46 : Int32)).toNatClampNeg (h1.1 42 1)) 62 ((nI (51 * k)) + (47 : Int32)).toNatClampNeg ((zsi h1 62 ((nI (51 * k)) + (46 : Int32)).toNatClampNeg (h1.1 42 1)).1 42 2)).1 42 3)).1 42 4)).1 42 5)) 42 28 (((zsi (zsi (zsi (zsi (zsi h1 62 ((nI (51 * k)) + (46 : Int32)).toNatClampNeg (h1.1 42 1)) 62 ((nI (51 * k)) + (47 : Int32)).toNatClampNeg ((zsi h1 62 ((nI (51 * k)) + (46 : Int32)).toNatClampNeg (h1.1 42 1)).1 42 2)) 62 ((nI (51 * k)) + (48 : Int32)).toNatClampNeg ((zsi (zsi h1 62 ((nI (51 * k)) + (46 : Int32)).toNatClampNeg (h1.1 42 1)) 62 ((nI (51 * k)) + (47 : Int32)).toNatClampNeg ((zsi h1 62 ((nI (51 * k)) + (46 : Int32)).toNatClampNeg (h1.1 42 1)).1 42 2)).1 42 3)) 62 ((nI (51 * k)) + (49 : Int32)).toNatClampNeg ((zsi (zsi (zsi h1 62 ((nI (51 * k)) + (46 : Int32)).toNatClampNeg (h1.1 42 1)) 62 ((nI (51 * k)) + (47 : Int32)).toNatClampNeg ((zsi h1 62 ((nI (51 * k)) + (46 : Int32)).toNatClampNeg (h1.1 42 1)).1 42 2)) 62 ((nI (51 * k)) + (48 : Int32)).toNatClampNeg ((zsi (zsi h1 62 ((nI (51 * k)) + (46 : Int32)).toNatClampNeg (h1.1 42 1)) 62 ((nI (51 * k)) + (47 : Int32)).toNatClampNeg ((zsi h1 62 ((nI (51 * k)) + (46 : Int32)).toNatClampNeg (h1.1 42 1)).1 42 2)).1 42 3)).1 42 4)) 62 ((nI (51 * k)) + (50 : Int32)).toNatClampNeg ((zsi (zsi (zsi (zsi h1 62 ((nI (51 * k)) + (46 : Int32)).toNatClampNeg (h1.1 42 1)) 62 ((nI (51 * k)) + (47 : Int32)).toNatClampNeg ((zsi h1 62 ((nI (51 * k)) + (46 : Int32)).toNatClampNeg (h1.1 42 1)).1 42 2)) 62 ((nI (51 * k)) + (48 : Int32)).toNatClampNeg ((zsi (zsi h1 62 ((nI (51 * k)) + (46 : Int32)).toNatClampNeg (h1.1 42 1)) 62 ((nI (51 * k)) + (47 : Int32)).toNatClampNeg ((zsi h1 62 ((nI (51 * k)) + (46 : Int32)).toNatClampNeg (h1.1 42 1)).1 42 2)).1 42 3)) 62 ((nI (51 * k)) + (49 : Int32)).toNatClampNeg ((zsi (zsi (zsi h1 62 ((nI (51 * k)) + (46 : Int32)).toNatClampNeg (h1.1 42 1)) 62 ((nI (51 * k)) + (47 : Int32)).toNatClampNeg ((zsi h1 62 ((nI (51 * k)) + (46 : Int32)).toNatClampNeg (h1.1 42 1)).1 42 2)) 62 ((nI (51 * k)) + (48 : Int32)).toNatClampNeg ((zsi (zsi h1 62 ((nI (51 * k)) + (46 : Int32)).toNatClampNeg (h1.1 42 1)) 62 ((nI (51 * k)) + (47 : Int32)).toNatClampNeg ((zsi h1 62 ((nI (51 * k)) + (46 : Int32)).toNatClampNeg (h1.1 42 1)).1 42 2)).1 42 3)).1 42 4)).1 42 5)).1 42 28) + (1 : Int32))).1 42 28))) (zsi (zsi (zsi (zsi (zsi (zsi h1 62 ((nI (51 * k)) + (46 : Int32)).toNatClampNeg (h1.1 42 1)) 62 ((nI (51 * k)) + (47 : Int32)).toNatClampNeg ((zsi h1 62 ((nI (51 * k)) + (46 : Int32)).toNatClampNeg (h1.1 42 1)).1 42 2)) 62 ((nI (51 * k)) + (48 : Int32)).toNatClampNeg ((zsi (zsi h1 62 ((nI (51 * k)) + (46 : Int32)).toNatClampNeg (h1.1 42 1)) 62 ((nI (51 * k)) + (47 : Int32)).toNatClampNeg ((zsi h1 62 ((nI (51 * k)) + (46 : Int32)).toNatClampNeg (h1.1 42 1)).1 42 2)).1 42 3)) 62 ((nI (51 * k)) + (49 : Int32)).toNatClampNeg ((zsi (zsi (zsi h1 62 ((nI (51 * k)) + (46 : Int32)).toNatClampNeg (h1.1 42 1)) 62 ((nI (51 * k)) + (47 : Int32)).toNatClampNeg ((zsi h1 62 ((nI (51 * k)) + (46 : Int32)).toNatClampNeg (h1.1 42 1)).1 42 2)) 62 ((nI (51 * k)) + (48 : Int32)).toNatClampNeg ((zsi (zsi h1 62 ((nI (51 * k)) + (46 : Int32)).toNatClampNeg (h1.1 42 1)) 62 ((nI (51 * k)) + (47 : Int32)).toNatClampNeg ((zsi h1 62 ((nI (51 * k)) + (46 : Int32)).toNatClampNeg (h1.1 42 1)).1 42 2)).1 42 3)).1 42 4)) 62 ((nI (51 * k)) + (50 : Int32)).toNatClampNeg ((zsi (zsi (zsi (zsi h1 62 ((nI (51 * k)) + (46 : Int32)).toNatClampNeg (h1.1 42 1)) 62 ((nI (51 * k)) + (47 : Int32)).toNatClampNeg ((zsi h1 62 ((nI (51 * k)) + (46 : Int32)).toNatClampNeg (h1.1 42 1)).1 42 2)) 62 ((nI (51 * k)) + (48 : Int32)).toNatClampNeg ((zsi (zsi h1 62 ((nI (51 * k)) + (46 : Int32)).toNatClampNeg (h1.1 42 1)) 62 ((nI (51 * k)) + (47 : Int32)).toNatClampNeg ((zsi h1 62 ((nI (51 * k)) + (46 : Int32)).toNatClampNeg (h1.1 42 1)).1 42 2)).1 42 3)) 62 ((nI (51 * k)) + (49 : Int32)).toNatClampNeg ((zsi (zsi (zsi h1 62 ((nI (51 * k)) + (46 : Int32)).toNatClampNeg (h1.1 42 1)) 62 ((nI (51 * k)) + (47 : Int32)).toNatClampNeg ((zsi h1 62 ((nI (51 * k)) + (46 : Int32)).toNatClampNeg (h1.1 42 1)).1 42 2)) 62 ((nI (51 * k)) + (48 : Int32)).toNatClampNeg ((zsi (zsi h1 62 ((nI (51 * k)) + (46 : Int32)).toNatClampNeg (h1.1 42 1)) 62 ((nI (51 * k)) + (47 : Int32)).toNatClampNeg ((zsi h1 62 ((nI (51 * k)) + (46 : Int32)).toNatClampNeg (h1.1 42 1)).1 42 2)).1 42 3)).1 42 4)).1 42 5)) 42 28 (((zsi (zsi (zsi (zsi (zsi h1 62 ((nI (51 * k)) + (46 : Int32)).toNatClampNeg (h1.1 42 1)) 62 ((nI (51 * k)) + (47 : Int32)).toNatClampNeg ((zsi h1 62 ((nI (51 * k)) + (46 : Int32)).toNatClampNeg (h1.1 42 1)).1 42 2)) 62 ((nI (51 * k)) + (48 : Int32)).toNatClampNeg ((zsi (zsi h1 62 ((nI (51 * k)) + (46 : Int32)).toNatClampNeg (h1.1 42 1)) 62 ((nI (51 * k)) + (47 : Int32)).toNatClampNeg ((zsi h1 62 ((nI (51 * k)) + (46 : Int32)).toNatClampNeg (h1.1 42 1)).1 42 2)).1 42 3)) 62 ((nI (51 * k)) + (49 : Int32)).toNatClampNeg ((zsi (zsi (zsi h1 62 ((nI (51 * k)) + (46 : Int32)).toNatClampNeg (h1.1 42 1)) 62 ((nI (51 * k)) + (47 : Int32)).toNatClampNeg ((zsi h1 62 ((nI (51 * k)) + (46 : Int32)).toNatClampNeg (h1.1 42 1)).1 42 2)) 62 ((nI (51 * k)) + (48 : Int32)).toNatClampNeg ((zsi (zsi h1 62 ((nI (51 * k)) + (46 : Int32)).toNatClampNeg (h1.1 42 1)) 62 ((nI (51 * k)) + (47 : Int32)).toNatClampNeg ((zsi h1 62 ((nI (51 * k)) + (46 : Int32)).toNatClampNeg (h1.1 42 1)).1 42 2)).1 42 3)).1 42 4)) 62 ((nI (51 * k)) + (50 : Int32)).toNatClampNeg ((zsi (zsi (zsi (zsi h1 62 ((nI (51 * k)) + (46 : Int32)).toNatClampNeg (h1.1 42 1)) 62 ((nI (51 * k)) + (47 : Int32)).toNatClampNeg ((zsi h1 62 ((nI (51 * k)) + (46 : Int32)).toNatClampNeg (h1.1 42 1)).1 42 2)) 62 ((nI (51 * k)) + (48 : Int32)).toNatClampNeg ((zsi (zsi h1 62 ((nI (51 * k)) + (46 : Int32)).toNatClampNeg (h1.1 42 1)) 62 ((nI (51 * k)) + (47 : Int32)).toNatClampNeg ((zsi h1 62 ((nI (51 * k)) + (46 : Int32)).toNatClampNeg (h1.1 42 1)).1 42 2)).1 42 3)) 62 ((nI (51 * k)) + (49 : Int32)).toNatClampNeg ((zsi (zsi (zsi h1 62 ((nI (51 * k)) + (46 : Int32)).toNatClampNeg (h1.1 42 1)) 62 ((nI (51 * k)) + (47 : Int32)).toNatClampNeg ((zsi h1 62 ((nI (51 * k)) + (46 : Int32)).toNatClampNeg (h1.1 42 1)).1 42 2)) 62 ((nI (51 * k)) + (48 : Int32)).toNatClampNeg ((zsi (zsi h1 62 ((nI (51 * k)) + (46 : Int32)).toNatClampNeg (h1.1 42 1)) 62 ((nI (51 * k)) + (47 : Int32)).toNatClampNeg ((zsi h1 62 ((nI (51 * k)) + (46 : Int32)).toNatClampNeg (h1.1 42 1)).1 42 2)).1 42 3)).1 42 4)).1 42 5)).1 42 28) + (1 : Int32)))) → zG M_X8_keep post (zat M_X8_keep 80) [some (.ref 42), some (.int (nI (51 * k))), some (.int (nI i))] [] h0 := by
    intro d
    induction d with
    | zero =>
      intro i h1 hi hc
      have : i = 4 := by omega
      subst this
      exact ⟨h1, hc, fun post g => t_X8_keep_80 _ _ _ _ ⟨fun _ => g, fun z => absurd (nI_le (a := 4) (b := 4) (by omega) (by omega)) z⟩⟩
    | succ d ih =>
      intro i h1 hi hc
      have ix : nI (51 * k) + 42 + nI i = nI (51 * k + 42 + i) := by rw [show (42 : Int32) = nI 42 from rfl, nI_add, nI_add]
      have v1 : vp_in (nI i) 4 := vp_in_nI (by omega) (by omega)
      have v2 : vp_in (nI (51 * k) + 42 + nI i) 153 := by rw [ix]; exact vp_in_nI (by omega) (by omega)
      obtain ⟨h', c', g'⟩ := ih (i + 1) _ (by omega) (cy_s hc (by omega))
      refine ⟨h', c', fun post g => t_X8_keep_80 _ _ _ _ ⟨fun z => ?_, fun _ => ⟨v1, v2, ?_⟩⟩⟩
      · rw [show (4 : Int32) = nI 4 from rfl, nI_leI (by omega) (by omega)] at z; omega
      have g2 := g' post g
      rw [ix, nI_clamp (by omega), nI_clamp (by omega), nI_1]
      rw [Nat.zero_add] at g2
      exact g2
  exact key 4 0 h (by omega) cy_0
theorem l_back_30 {h : zH} {k : Nat} (hk : k < 3) : ∃ h1, cy h h1 43 0 62 (51 * k + 0) 30 ∧ ∀ post : Option Value → zH → Prop, zG M_X8_back post (zat M_X8_back 58) [some (.ref 42), some (.int (nI (51 * k))), some (.int 0)] [] h1 → zG M_X8_back post (zat M_X8_back 30) [some (.ref 42), some (.int (nI (51 * k))), some (.int 0)] [] h := by
  have key : ∀ (d i : Nat) (h0 : zH), i + d = 30 → cy h h0 43 0 62 (51 * k + 0) i → ∃ h1, cy h h1 43 0 62 (51 * k + 0) 30 ∧ ∀ post : Option Value → zH → Prop, zG M_X8_back post (zat M_X8_back 58) [some (.ref 42), some (.int (nI (51 * k))), some (.int 0)] [] h1 → zG M_X8_back post (zat M_X8_back 30) [some (.ref 42), some (.int (nI (51 * k))), some (.int (nI i))] [] h0 := by
    intro d
    induction d with
    | zero =>
      intro i h1 hi hc
      have : i = 30 := by omega
      subst this
      exact ⟨h1, hc, fun post g => t_X8_back_30 _ _ _ _ ⟨fun _ => g, fun z => absurd (nI_le (a := 30) (b := 30) (by omega) (by omega)) z⟩⟩
    | succ d ih =>
      intro i h1 hi hc
      have ix : nI (51 * k) + nI i = nI (51 * k + 0 + i) := nI_add _ _
      have v1 : vp_in (nI i) 30 := vp_in_nI (by omega) (by omega)
      have v2 : vp_in (nI (51 * k) + nI i) 153 := by rw [ix]; exact vp_in_nI (by omega) (by omega)
      obtain ⟨h', c', g'⟩ := ih (i + 1) _ (by omega) (cy_s hc (by omega))
      refine ⟨h', c', fun post g => t_X8_back_30 _ _ _ _ ⟨fun z => ?_, fun _ => ⟨v2, v1, ?_⟩⟩⟩
      · rw [show (30 : Int32) = nI 30 from rfl, nI_leI (by omega) (by omega)] at z; omega
      have g2 := g' post g
      rw [ix, nI_clamp (by omega), nI_clamp (by omega), nI_1]
      rw [Nat.zero_add] at g2
      exact g2
  exact key 30 0 h (by omega) cy_0
theorem l_back_58 {h : zH} {k : Nat} (hk : k < 3) : ∃ h1, cy h h1 45 0 62 (51 * k + 30) 12 ∧ ∀ post : Option Value → zH → Prop, zG M_X8_back post (zat M_X8_back 89) [some (.ref 42), some (.int (nI (51 * k))), some (.int 0)] [] h1 → zG M_X8_back post (zat M_X8_back 58) [some (.ref 42), some (.int (nI (51 * k))), some (.int 0)] [] h := by
  have key : ∀ (d i : Nat) (h0 : zH), i + d = 12 → cy h h0 45 0 62 (51 * k + 30) i → ∃ h1, cy h h1 45 0 62 (51 * k + 30) 12 ∧ ∀ post : Option Value → zH → Prop, zG M_X8_back post (zat M_X8_back 89) [some (.ref 42), some (.int (nI (51 * k))), some (.int 0)] [] h1 → zG M_X8_back post (zat M_X8_back 58) [some (.ref 42), some (.int (nI (51 * k))), some (.int (nI i))] [] h0 := by
    intro d
    induction d with
    | zero =>
      intro i h1 hi hc
      have : i = 12 := by omega
      subst this
      exact ⟨h1, hc, fun post g => t_X8_back_58 _ _ _ _ ⟨fun _ => g, fun z => absurd (nI_le (a := 12) (b := 12) (by omega) (by omega)) z⟩⟩
    | succ d ih =>
      intro i h1 hi hc
      have ix : nI (51 * k) + 30 + nI i = nI (51 * k + 30 + i) := by rw [show (30 : Int32) = nI 30 from rfl, nI_add, nI_add]
      have v1 : vp_in (nI i) 12 := vp_in_nI (by omega) (by omega)
      have v2 : vp_in (nI (51 * k) + 30 + nI i) 153 := by rw [ix]; exact vp_in_nI (by omega) (by omega)
      obtain ⟨h', c', g'⟩ := ih (i + 1) _ (by omega) (cy_s hc (by omega))
      refine ⟨h', c', fun post g => t_X8_back_58 _ _ _ _ ⟨fun z => ?_, fun _ => ⟨v2, v1, ?_⟩⟩⟩
      · rw [show (12 : Int32) = nI 12 from rfl, nI_leI (by omega) (by omega)] at z; omega
      have g2 := g' post g
      rw [ix, nI_clamp (by omega), nI_clamp (by omega), nI_1]
      rw [Nat.zero_add] at g2
      exact g2
  exact key 12 0 h (by omega) cy_0
theorem l_back_89 {h : zH} {k : Nat} (hk : k < 3) : ∃ h1, cy h h1 44 0 62 (51 * k + 42) 4 ∧ ∀ post : Option Value → zH → Prop, (vp_in ((nI (51 * k)) + (46 : Int32)) 153 ∧ vp_in ((nI (51 * k)) + (47 : Int32)) 153 ∧ vp_in ((nI (51 * k)) + (48 : Int32)) 153 ∧ vp_in ((nI (51 * k)) + (49 : Int32)) 153 ∧ vp_in ((nI (51 * k)) + (50 : Int32)) 153 ∧ post (some (.int ((zsi (zsi (zsi (zsi (zsi h1 42 1 (h1.1 62 ((nI (51 * k)) + (46 : Int32)).toNatClampNeg)) 42 2 ((zsi h1 42 1 (h1.1 62 ((nI (51 * k)) + (46 : Int32)).toNatClampNeg)).1 62 ((nI (51 * k)) + (47 : Int32)).toNatClampNeg)) 42 3 ((zsi (zsi h1 42 1 (h1.1 62 ((nI (51 * k)) + (46 : Int32)).toNatClampNeg)) 42 2 ((zsi h1 42 1 (h1.1 62 ((nI (51 * k)) + (46 : Int32)).toNatClampNeg)).1 62 ((nI (51 * k)) + (47 : Int32)).toNatClampNeg)).1 62 ((nI (51 * k)) + (48 : Int32)).toNatClampNeg)) 42 4 ((zsi (zsi (zsi h1 42 1 (h1.1 62 ((nI (51 * k)) + (46 : Int32)).toNatClampNeg)) 42 2 ((zsi h1 42 1 (h1.1 62 ((nI (51 * k)) + (46 : Int32)).toNatClampNeg)).1 62 ((nI (51 * k)) + (47 : Int32)).toNatClampNeg)) 42 3 ((zsi (zsi h1 42 1 (h1.1 62 ((nI (51 * k)) + (46 : Int32)).toNatClampNeg)) 42 2 ((zsi h1 42 1 (h1.1 62 ((nI (51 * k)) + (46 : Int32)).toNatClampNeg)).1 62 ((nI (51 * k)) + (47 : Int32)).toNatClampNeg)).1 62 ((nI (51 * k)) + (48 : Int32)).toNatClampNeg)).1 62 ((nI (51 * k)) + (49 : Int32)).toNatClampNeg)) 42 5 ((zsi (zsi (zsi (zsi h1 42 1 (h1.1 62 ((nI (51 * k)) + (46 : Int32)).toNatClampNeg)) 42 2 ((zsi h1 42 1 (h1.1 62 ((nI (51 * k)) + (46 : Int32)).toNatClampNeg)).1 62 ((nI (51 * k)) + (47 : Int32)).toNatClampNeg)) 42 3 ((zsi (zsi h1 42 1 (h1.1 62 ((nI (51 * k)) + (46 : Int32)).toNatClampNeg)) 42 2 ((zsi h1 42 1 (h1.1 62 ((nI (51 * k)) + (46 : Int32)).toNatClampNeg)).1 62 ((nI (51 * k)) + (47 : Int32)).toNatClampNeg)).1 62 ((nI (51 * k)) + (48 : Int32)).toNatClampNeg)) 42 4 ((zsi (zsi (zsi h1 42 1 (h1.1 62 ((nI (51 * k)) + (46 : Int32)).toNatClampNeg)) 42 2 ((zsi h1 42 1 (h1.1 62 ((nI (51 * k)) + (46 : Int32)).toNatClampNeg)).1 62 ((nI (51 * k)) + (47 : Int32)).toNatClampNeg)) 42 3 ((zsi (zsi h1 42 1 (h1.1 62 ((nI (51 * k)) + (46 : Int32)).toNatClampNeg)) 42 2 ((zsi h1 42 1 (h1.1 62 ((nI (51 * k)) + (46 : Int32)).toNatClampNeg)).1 62 ((nI (51 * k)) + (47 : Int32)).toNatClampNeg)).1 62 ((nI (51 * k)) + (48 : Int32)).toNatClampNeg)).1 62 ((nI (51 * k)) + (49 : Int32)).toNatClampNeg)).1 62 ((nI (51 * k)) + (50 : Int32)).toNatClampNeg)).1 42 28))) (zsi (zsi (zsi (zsi (zsi h1 42 1 (h1.1 62 ((nI (51 * k)) + (46 : Int32)).toNatClampNeg)) 42 2 ((zsi h1 42 1 (h1.1 62 ((nI (51 * k)) + (46 : Int32)).toNatClampNeg)).1 62 ((nI (51 * k)) + (47 : Int32)).toNatClampNeg)) 42 3 ((zsi (zsi h1 42 1 (h1.1 62 ((nI (51 * k)) + (46 : Int32)).toNatClampNeg)) 42 2 ((zsi h1 42 1 (h1.1 62 ((nI (51 * k)) + (46 : Int32)).toNatClampNeg)).1 62 ((nI (51 * k)) + (47 : Int32)).toNatClampNeg)).1 62 ((nI (51 * k)) + (48 : Int32)).toNatClampNeg)) 42 4 ((zsi (zsi (zsi h1 42 1 (h1.1 62 ((nI (51 * k)) + (46 : Int32)).toNatClampNeg)) 42 2 ((zsi h1 42 1 (h1.1 62 ((nI (51 * k)) + (46 : Int32)).toNatClampNeg)).1 62 ((nI (51 * k)) + (47 : Int32)).toNatClampNeg)) 42 3 ((zsi (zsi h1 42 1 (h1.1 62 ((nI (51 * k)) + (46 : Int32)).toNatClampNeg)) 42 2 ((zsi h1 42 1 (h1.1 62 ((nI (51 * k)) + (46 : Int32)).toNatClampNeg)).1 62 ((nI (51 * k)) + (47 : Int32)).toNatClampNeg)).1 62 ((nI (51 * k)) + (48 : Int32)).toNatClampNeg)).1 62 ((nI (51 * k)) + (49 : Int32)).toNatClampNeg)) 42 5 ((zsi (zsi (zsi (zsi h1 42 1 (h1.1 62 ((nI (51 * k)) + (46 : Int32)).toNatClampNeg)) 42 2 ((zsi h1 42 1 (h1.1 62 ((nI (51 * k)) + (46 : Int32)).toNatClampNeg)).1 62 ((nI (51 * k)) + (47 : Int32)).toNatClampNeg)) 42 3 ((zsi (zsi h1 42 1 (h1.1 62 ((nI (51 * k)) + (46 : Int32)).toNatClampNeg)) 42 2 ((zsi h1 42 1 (h1.1 62 ((nI (51 * k)) + (46 : Int32)).toNatClampNeg)).1 62 ((nI (51 * k)) + (47 : Int32)).toNatClampNeg)).1 62 ((nI (51 * k)) + (48 : Int32)).toNatClampNeg)) 42 4 ((zsi (zsi (zsi h1 42 1 (h1.1 62 ((nI (51 * k)) + (46 : Int32)).toNatClampNeg)) 42 2 ((zsi h1 42 1 (h1.1 62 ((nI (51 * k)) + (46 : Int32)).toNatClampNeg)).1 62 ((nI (51 * k)) + (47 : Int32)).toNatClampNeg)) 42 3 ((zsi (zsi h1 42 1 (h1.1 62 ((nI (51 * k)) + (46 : Int32)).toNatClampNeg)) 42 2 ((zsi h1 42 1 (h1.1 62 ((nI (51 * k)) + (46 : Int32)).toNatClampNeg)).1 62 ((nI (51 * k)) + (47 : Int32)).toNatClampNeg)).1 62 ((nI (51 * k)) + (48 : Int32)).toNatClampNeg)).1 62 ((nI (51 * k)) + (49 : Int32)).toNatClampNeg)).1 62 ((nI (51 * k)) + (50 : Int32)).toNatClampNeg))) → zG M_X8_back post (zat M_X8_back 89) [some (.ref 42), some (.int (nI (51 * k))), some (.int 0)] [] h := by
  have key : ∀ (d i : Nat) (h0 : zH), i + d = 4 → cy h h0 44 0 62 (51 * k + 42) i → ∃ h1, cy h h1 44 0 62 (51 * k + 42) 4 ∧ ∀ post : Option Value → zH → Prop, (vp_in ((nI (51 * k)) + (46 : Int32)) 153 ∧ vp_in ((nI (51 * k)) + (47 : Int32)) 153 ∧ vp_in ((nI (51 * k)) + (48 : Int32)) 153 ∧ vp_in ((nI (51 * k)) + (49 : Int32)) 153 ∧ vp_in ((nI (51 * k)) + (50 : Int32)) 153 ∧ post (some (.int ((zsi (zsi (zsi (zsi (zsi h1 42 1 (h1.1 62 ((nI (51 * k)) + (46 : Int32)).toNatClampNeg)) 42 2 ((zsi h1 42 1 (h1.1 62 ((nI (51 * k)) + (46 : Int32)).toNatClampNeg)).1 62 ((nI (51 * k)) + (47 : Int32)).toNatClampNeg)) 42 3 ((zsi (zsi h1 42 1 (h1.1 62 ((nI (51 * k)) + (46 : Int32)).toNatClampNeg)) 42 2 ((zsi h1 42 1 (h1.1 62 ((nI (51 * k)) + (46 : Int32)).toNatClampNeg)).1 62 ((nI (51 * k)) + (47 : Int32)).toNatClampNeg)).1 62 ((nI (51 * k)) + (48 : Int32)).toNatClampNeg)) 42 4 ((zsi (zsi (zsi h1 42 1 (h1.1 62 ((nI (51 * k)) + (46 : Int32)).toNatClampNeg)) 42 2 ((zsi h1 42 1 (h1.1 62 ((nI (51 * k)) + (46 : Int32)).toNatClampNeg)).1 62 ((nI (51 * k)) + (47 : Int32)).toNatClampNeg)) 42 3 ((zsi (zsi h1 42 1 (h1.1 62 ((nI (51 * k)) + (46 : Int32)).toNatClampNeg)) 42 2 ((zsi h1 42 1 (h1.1 62 ((nI (51 * k)) + (46 : Int32)).toNatClampNeg)).1 62 ((nI (51 * k)) + (47 : Int32)).toNatClampNeg)).1 62 ((nI (51 * k)) + (48 : Int32)).toNatClampNeg)).1 62 ((nI (51 * k)) + (49 : Int32)).toNatClampNeg)) 42 5 ((zsi (zsi (zsi (zsi h1 42 1 (h1.1 62 ((nI (51 * k)) + (46 : Int32)).toNatClampNeg)) 42 2 ((zsi h1 42 1 (h1.1 62 ((nI (51 * k)) + (46 : Int32)).toNatClampNeg)).1 62 ((nI (51 * k)) + (47 : Int32)).toNatClampNeg)) 42 3 ((zsi (zsi h1 42 1 (h1.1 62 ((nI (51 * k)) + (46 : Int32)).toNatClampNeg)) 42 2 ((zsi h1 42 1 (h1.1 62 ((nI (51 * k)) + (46 : Int32)).toNatClampNeg)).1 62 ((nI (51 * k)) + (47 : Int32)).toNatClampNeg)).1 62 ((nI (51 * k)) + (48 : Int32)).toNatClampNeg)) 42 4 ((zsi (zsi (zsi h1 42 1 (h1.1 62 ((nI (51 * k)) + (46 : Int32)).toNatClampNeg)) 42 2 ((zsi h1 42 1 (h1.1 62 ((nI (51 * k)) + (46 : Int32)).toNatClampNeg)).1 62 ((nI (51 * k)) + (47 : Int32)).toNatClampNeg)) 42 3 ((zsi (zsi h1 42 1 (h1.1 62 ((nI (51 * k)) + (46 : Int32)).toNatClampNeg)) 42 2 ((zsi h1 42 1 (h1.1 62 ((nI (51 * k)) + (46 : Int32)).toNatClampNeg)).1 62 ((nI (51 * k)) + (47 : Int32)).toNatClampNeg)).1 62 ((nI (51 * k)) + (48 : Int32)).toNatClampNeg)).1 62 ((nI (51 * k)) + (49 : Int32)).toNatClampNeg)).1 62 ((nI (51 * k)) + (50 : Int32)).toNatClampNeg)).1 42 28))) (zsi (zsi (zsi (zsi (zsi h1 42 1 (h1.1 62 ((nI (51 * k)) + (46 : Int32)).toNatClampNeg)) 42 2 ((zsi h1 42 1 (h1.1 62 ((nI (51 * k)) + (46 : Int32)).toNatClampNeg)).1 62 ((nI (51 * k)) + (47 : Int32)).toNatClampNeg)) 42 3 ((zsi (zsi h1 42 1 (h1.1 62 ((nI (51 * k)) + (46 : Int32)).toNatClampNeg)) 42 2 ((zsi h1 42 1 (h1.1 62 ((nI (51 * k)) + (46 : Int32)).toNatClampNeg)).1 62 ((nI (51 * k)) + (47 : Int32)).toNatClampNeg)).1 62 ((nI (51 * k)) + (48 : Int32)).toNatClampNeg)) 42 4 ((zsi (zsi (zsi h1 42 1 (h1.1 62 ((nI (51 * k)) + (46 : Int32)).toNatClampNeg)) 42 2 ((zsi h1 42 1 (h1.1 62 ((nI (51 * k)) + (46 : Int32)).toNatClampNeg)).1 62 ((nI (51 * k)) + (47 : Int32)).toNatClampNeg)) 42 3 ((zsi (zsi h1 42 1 (h1.1 62 ((nI (51 * k)) + (46 : Int32)).toNatClampNeg)) 42 2 ((zsi h1 42 1 (h1.1 62 ((nI (51 * k)) + (46 : Int32)).toNatClampNeg)).1 62 ((nI (51 * k)) + (47 : Int32)).toNatClampNeg)).1 62 ((nI (51 * k)) + (48 : Int32)).toNatClampNeg)).1 62 ((nI (51 * k)) + (49 : Int32)).toNatClampNeg)) 42 5 ((zsi (zsi (zsi (zsi h1 42 1 (h1.1 62 ((nI (51 * k)) + (46 : Int32)).toNatClampNeg)) 42 2 ((zsi h1 42 1 (h1.1 62 ((nI (51 * k)) + (46 : Int32)).toNatClampNeg)).1 62 ((nI (51 * k)) + (47 : Int32)).toNatClampNeg)) 42 3 ((zsi (zsi h1 42 1 (h1.1 62 ((nI (51 * k)) + (46 : Int32)).toNatClampNeg)) 42 2 ((zsi h1 42 1 (h1.1 62 ((nI (51 * k)) + (46 : Int32)).toNatClampNeg)).1 62 ((nI (51 * k)) + (47 : Int32)).toNatClampNeg)).1 62 ((nI (51 * k)) + (48 : Int32)).toNatClampNeg)) 42 4 ((zsi (zsi (zsi h1 42 1 (h1.1 62 ((nI (51 * k)) + (46 : Int32)).toNatClampNeg)) 42 2 ((zsi h1 42 1 (h1.1 62 ((nI (51 * k)) + (46 : Int32)).toNatClampNeg)).1 62 ((nI (51 * k)) + (47 : Int32)).toNatClampNeg)) 42 3 ((zsi (zsi h1 42 1 (h1.1 62 ((nI (51 * k)) + (46 : Int32)).toNatClampNeg)) 42 2 ((zsi h1 42 1 (h1.1 62 ((nI (51 * k)) + (46 : Int32)).toNatClampNeg)).1 62 ((nI (51 * k)) + (47 : Int32)).toNatClampNeg)).1 62 ((nI (51 * k)) + (48 : Int32)).toNatClampNeg)).1 62 ((nI (51 * k)) + (49 : Int32)).toNatClampNeg)).1 62 ((nI (51 * k)) + (50 : Int32)).toNatClampNeg))) → zG M_X8_back post (zat M_X8_back 89) [some (.ref 42), some (.int (nI (51 * k))), some (.int (nI i))] [] h0 := by
    intro d
    induction d with
    | zero =>
      intro i h1 hi hc
      have : i = 4 := by omega
      subst this
      exact ⟨h1, hc, fun post g => t_X8_back_89 _ _ _ _ ⟨fun _ => g, fun z => absurd (nI_le (a := 4) (b := 4) (by omega) (by omega)) z⟩⟩
    | succ d ih =>
      intro i h1 hi hc
      have ix : nI (51 * k) + 42 + nI i = nI (51 * k + 42 + i) := by rw [show (42 : Int32) = nI 42 from rfl, nI_add, nI_add]
      have v1 : vp_in (nI i) 4 := vp_in_nI (by omega) (by omega)
      have v2 : vp_in (nI (51 * k) + 42 + nI i) 153 := by rw [ix]; exact vp_in_nI (by omega) (by omega)
      obtain ⟨h', c', g'⟩ := ih (i + 1) _ (by omega) (cy_s hc (by omega))
      refine ⟨h', c', fun post g => t_X8_back_89 _ _ _ _ ⟨fun z => ?_, fun _ => ⟨v2, v1, ?_⟩⟩⟩
      · rw [show (4 : Int32) = nI 4 from rfl, nI_leI (by omega) (by omega)] at z; omega
      have g2 := g' post g
      rw [ix, nI_clamp (by omega), nI_clamp (by omega), nI_1]
      rw [Nat.zero_add] at g2
      exact g2
  exact key 4 0 h (by omega) cy_0
set_option maxHeartbeats 4000000 in
set_option maxRecDepth 100000 in
theorem m_keep {h : zH} {k : Nat} (hk : k < 3) (h28 : h.1 42 28 = nI k) : ∃ h', R_X8_keep [.ref 42] h (some (.int (nI (k + 1)))) h' ∧ (∀ j, j < 30 → h'.1 62 (51 * k + j) = h.1 43 j) ∧ (∀ j, j < 12 → h'.1 62 (51 * k + 30 + j) = h.1 45 j) ∧ (∀ j, j < 4 → h'.1 62 (51 * k + 42 + j) = h.1 44 j) ∧ (∀ j, j < 5 → h'.1 62 (51 * k + 46 + j) = h.1 42 (j + 1)) ∧ h'.1 42 28 = nI (k + 1) ∧ ∀ a j, ¬ (a = 62 ∧ 51 * k ≤ j) → ¬ (a = 42 ∧ j = 28) → h'.1 a j = h.1 a j := by
  have hn3 : ¬ h.1 42 28 = 3 := by rw [h28, q3, nI_eq (by omega) (by omega)]; omega
  have i46 : nI (51 * k) + 46 = nI (51 * k + 46) := nI_add _ _
  have c46 : (nI (51 * k) + 46).toNatClampNeg = 51 * k + 46 := by rw [i46]; exact nI_clamp (by omega)
  have v46 : vp_in (nI (51 * k) + 46) 153 := by rw [i46]; exact vp_in_nI (by omega) (by omega)
  have i47 : nI (51 * k) + 47 = nI (51 * k + 47) := nI_add _ _
  have c47 : (nI (51 * k) + 47).toNatClampNeg = 51 * k + 47 := by rw [i47]; exact nI_clamp (by omega)
  have v47 : vp_in (nI (51 * k) + 47) 153 := by rw [i47]; exact vp_in_nI (by omega) (by omega)
  have i48 : nI (51 * k) + 48 = nI (51 * k + 48) := nI_add _ _
  have c48 : (nI (51 * k) + 48).toNatClampNeg = 51 * k + 48 := by rw [i48]; exact nI_clamp (by omega)
  have v48 : vp_in (nI (51 * k) + 48) 153 := by rw [i48]; exact vp_in_nI (by omega) (by omega)
  have i49 : nI (51 * k) + 49 = nI (51 * k + 49) := nI_add _ _
  have c49 : (nI (51 * k) + 49).toNatClampNeg = 51 * k + 49 := by rw [i49]; exact nI_clamp (by omega)
  have v49 : vp_in (nI (51 * k) + 49) 153 := by rw [i49]; exact vp_in_nI (by omega) (by omega)
  have i50 : nI (51 * k) + 50 = nI (51 * k + 50) := nI_add _ _
  have c50 : (nI (51 * k) + 50).toNatClampNeg = 51 * k + 50 := by rw [i50]; exact nI_clamp (by omega)
  have v50 : vp_in (nI (51 * k) + 50) 153 := by rw [i50]; exact vp_in_nI (by omega) (by omega)
  obtain ⟨h1, y1, g1⟩ := l_keep_21 (h := h) hk
  obtain ⟨h2, y2, g2⟩ := l_keep_49 (h := h1) hk
  obtain ⟨h3, y3, g3⟩ := l_keep_80 (h := h2) hk
  have n62 : (42 : Nat) ≠ 62 := by omega
  simp only [c46, c47, c48, c49, c50, zr_ne n62, zr_eq] at g3
  have fr : ∀ a j, ¬ (a = 62 ∧ 51 * k ≤ j) → h3.1 a j = h.1 a j := fun a j hn => by rw [y3.2 a j (by omega), y2.2 a j (by omega), y1.2 a j (by omega)]
  have e28 : h3.1 42 28 + 1 = nI (k + 1) := by rw [fr 42 28 (by omega), h28, nI_1]
  rw [e28] at g3
  refine ⟨zsi (zsi (zsi (zsi (zsi (zsi h3 62 (51 * k + 46) (h3.1 42 1)) 62 (51 * k + 47) (h3.1 42 2)) 62 (51 * k + 48) (h3.1 42 3)) 62 (51 * k + 49) (h3.1 42 4)) 62 (51 * k + 50) (h3.1 42 5)) 42 28 (nI (k + 1)), r_X8_keep _ _ _ ⟨_, rfl⟩ (t_X8_keep_0 _ _ ⟨fun _ => ?_, fun z => absurd hn3 z⟩), ?_, ?_, ?_, ?_, ?_, ?_⟩
  · rw [h28, q51, pk_mul]
    exact g1 _ (g2 _ (g3 _ ⟨v46, v47, v48, v49, v50, rfl, rfl⟩))
  · intro j hj
    rw [zr_ne (by omega), zr_nj (by omega), zr_nj (by omega), zr_nj (by omega), zr_nj (by omega), zr_nj (by omega), y3.2 _ _ (by omega), y2.2 _ _ (by omega)]
    have := y1.1 j hj
    simpa using this
  · intro j hj
    rw [zr_ne (by omega), zr_nj (by omega), zr_nj (by omega), zr_nj (by omega), zr_nj (by omega), zr_nj (by omega), y3.2 _ _ (by omega), y2.1 j hj, Nat.zero_add, y1.2 _ _ (by omega)]
  · intro j hj
    rw [zr_ne (by omega), zr_nj (by omega), zr_nj (by omega), zr_nj (by omega), zr_nj (by omega), zr_nj (by omega), y3.1 j hj, Nat.zero_add, y2.2 _ _ (by omega), y1.2 _ _ (by omega)]
  · intro j hj
    rw [zr_ne (by omega)]
    rcases (by omega : j = 0 ∨ j = 1 ∨ j = 2 ∨ j = 3 ∨ j = 4) with rfl | rfl | rfl | rfl | rfl
    · rw [zr_nj (by omega), zr_nj (by omega), zr_nj (by omega), zr_nj (by omega)]; exact zr_eq.trans (fr 42 _ (by omega))
    · rw [zr_nj (by omega), zr_nj (by omega), zr_nj (by omega)]; exact zr_eq.trans (fr 42 _ (by omega))
    · rw [zr_nj (by omega), zr_nj (by omega)]; exact zr_eq.trans (fr 42 _ (by omega))
    · rw [zr_nj (by omega)]; exact zr_eq.trans (fr 42 _ (by omega))
    · exact zr_eq.trans (fr 42 _ (by omega))
  · exact zr_eq
  · intro a j n1 n2
    have q : ∀ (H : zH) (i : Nat) (x : Int32), 51 * k ≤ i → (zsi H 62 i x).1 a j = H.1 a j := fun H i x hi => by
      by_cases e : a = 62
      · subst e; exact zr_nj (by omega)
      · exact zr_ne e
    have q2 : ∀ (H : zH) (x : Int32), (zsi H 42 28 x).1 a j = H.1 a j := fun H x => by
      by_cases e : a = 42
      · subst e; exact zr_nj (by omega)
      · exact zr_ne e
    rw [q2, q _ _ _ (by omega), q _ _ _ (by omega), q _ _ _ (by omega), q _ _ _ (by omega), q _ _ _ (by omega)]
    exact fr a j n1
set_option maxHeartbeats 4000000 in
set_option maxRecDepth 100000 in
theorem m_back {h : zH} {k : Nat} (hk : k < 3) (h28 : h.1 42 28 = nI (k + 1)) : ∃ h', R_X8_back [.ref 42] h (some (.int (nI k))) h' ∧ (∀ j, j < 30 → h'.1 43 j = h.1 62 (51 * k + j)) ∧ (∀ j, j < 12 → h'.1 45 j = h.1 62 (51 * k + 30 + j)) ∧ (∀ j, j < 4 → h'.1 44 j = h.1 62 (51 * k + 42 + j)) ∧ (∀ j, j < 5 → h'.1 42 (j + 1) = h.1 62 (51 * k + 46 + j)) ∧ h'.1 42 28 = nI k ∧ ∀ a j, a ≠ 43 → a ≠ 44 → a ≠ 45 → ¬ (a = 42 ∧ (j = 28 ∨ (1 ≤ j ∧ j ≤ 5))) → h'.1 a j = h.1 a j := by
  have hn3 : ¬ h.1 42 28 = 0 := by rw [h28, q0, nI_eq (by omega) (by omega)]; omega
  have e1 : h.1 42 28 - 1 = nI k := by rw [h28, q1, pk_sub (by omega)]; rfl
  have i46 : nI (51 * k) + 46 = nI (51 * k + 46) := nI_add _ _
  have c46 : (nI (51 * k) + 46).toNatClampNeg = 51 * k + 46 := by rw [i46]; exact nI_clamp (by omega)
  have v46 : vp_in (nI (51 * k) + 46) 153 := by rw [i46]; exact vp_in_nI (by omega) (by omega)
  have i47 : nI (51 * k) + 47 = nI (51 * k + 47) := nI_add _ _
  have c47 : (nI (51 * k) + 47).toNatClampNeg = 51 * k + 47 := by rw [i47]; exact nI_clamp (by omega)
  have v47 : vp_in (nI (51 * k) + 47) 153 := by rw [i47]; exact vp_in_nI (by omega) (by omega)
  have i48 : nI (51 * k) + 48 = nI (51 * k + 48) := nI_add _ _
  have c48 : (nI (51 * k) + 48).toNatClampNeg = 51 * k + 48 := by rw [i48]; exact nI_clamp (by omega)
  have v48 : vp_in (nI (51 * k) + 48) 153 := by rw [i48]; exact vp_in_nI (by omega) (by omega)
  have i49 : nI (51 * k) + 49 = nI (51 * k + 49) := nI_add _ _
  have c49 : (nI (51 * k) + 49).toNatClampNeg = 51 * k + 49 := by rw [i49]; exact nI_clamp (by omega)
  have v49 : vp_in (nI (51 * k) + 49) 153 := by rw [i49]; exact vp_in_nI (by omega) (by omega)
  have i50 : nI (51 * k) + 50 = nI (51 * k + 50) := nI_add _ _
  have c50 : (nI (51 * k) + 50).toNatClampNeg = 51 * k + 50 := by rw [i50]; exact nI_clamp (by omega)
  have v50 : vp_in (nI (51 * k) + 50) 153 := by rw [i50]; exact vp_in_nI (by omega) (by omega)
  obtain ⟨h1, y1, g1⟩ := l_back_30 (h := zsi h 42 28 (h.1 42 28 - 1)) hk
  obtain ⟨h2, y2, g2⟩ := l_back_58 (h := h1) hk
  obtain ⟨h3, y3, g3⟩ := l_back_89 (h := h2) hk
  have n62 : (62 : Nat) ≠ 42 := by omega
  simp only [c46, c47, c48, c49, c50, zr_ne n62] at g3
  have fr0 : ∀ a j, a ≠ 43 → a ≠ 44 → a ≠ 45 → h3.1 a j = (zsi h 42 28 (h.1 42 28 - 1)).1 a j := fun a j a3 a4 a5 => by rw [y3.2 a j (by omega), y2.2 a j (by omega), y1.2 a j (by omega)]
  have fr : ∀ a j, a ≠ 43 → a ≠ 44 → a ≠ 45 → ¬ (a = 42 ∧ j = 28) → h3.1 a j = h.1 a j := fun a j a3 a4 a5 a6 => by
    rw [fr0 a j a3 a4 a5]
    by_cases e : a = 42
    · subst e; exact zr_nj (by omega)
    · exact zr_ne e
  have e28 : h3.1 42 28 = nI k := by rw [fr0 42 28 (by omega) (by omega) (by omega), zr_eq]; exact e1
  have r28 : ∀ (H : zH) (i : Nat) (x : Int32), i ≠ 28 → (zsi H 42 i x).1 42 28 = H.1 42 28 := fun H i x hi => zr_nj (by omega)
  simp only [r28 _ 1 _ (by omega), r28 _ 2 _ (by omega), r28 _ 3 _ (by omega), r28 _ 4 _ (by omega), r28 _ 5 _ (by omega), e28] at g3
  refine ⟨zsi (zsi (zsi (zsi (zsi h3 42 1 (h3.1 62 (51 * k + 46))) 42 2 (h3.1 62 (51 * k + 47))) 42 3 (h3.1 62 (51 * k + 48))) 42 4 (h3.1 62 (51 * k + 49))) 42 5 (h3.1 62 (51 * k + 50)), r_X8_back _ _ _ ⟨_, rfl⟩ (t_X8_back_0 _ _ ⟨fun _ => ?_, fun z => absurd hn3 z⟩), ?_, ?_, ?_, ?_, ?_, ?_⟩
  · rw [zr_eq, e1, q51, pk_mul]
    rw [e1] at g1
    exact g1 _ (g2 _ (g3 _ ⟨v46, v47, v48, v49, v50, rfl, rfl⟩))
  · intro j hj
    rw [zr_ne (by omega), zr_ne (by omega), zr_ne (by omega), zr_ne (by omega), zr_ne (by omega), y3.2 _ _ (by omega), y2.2 _ _ (by omega)]
    have := y1.1 j hj
    rw [Nat.zero_add, zr_ne (by omega)] at this
    exact this
  · intro j hj
    rw [zr_ne (by omega), zr_ne (by omega), zr_ne (by omega), zr_ne (by omega), zr_ne (by omega), y3.2 _ _ (by omega)]
    have := y2.1 j hj
    rw [Nat.zero_add, y1.2 _ _ (by omega), zr_ne (by omega)] at this
    exact this
  · intro j hj
    rw [zr_ne (by omega), zr_ne (by omega), zr_ne (by omega), zr_ne (by omega), zr_ne (by omega)]
    have := y3.1 j hj
    rw [Nat.zero_add, y2.2 _ _ (by omega), y1.2 _ _ (by omega), zr_ne (by omega)] at this
    exact this
  · intro j hj
    rcases (by omega : j = 0 ∨ j = 1 ∨ j = 2 ∨ j = 3 ∨ j = 4) with rfl | rfl | rfl | rfl | rfl
    · rw [zr_nj (by omega), zr_nj (by omega), zr_nj (by omega), zr_nj (by omega)]; exact zr_eq.trans (fr 62 _ (by omega) (by omega) (by omega) (by omega))
    · rw [zr_nj (by omega), zr_nj (by omega), zr_nj (by omega)]; exact zr_eq.trans (fr 62 _ (by omega) (by omega) (by omega) (by omega))
    · rw [zr_nj (by omega), zr_nj (by omega)]; exact zr_eq.trans (fr 62 _ (by omega) (by omega) (by omega) (by omega))
    · rw [zr_nj (by omega)]; exact zr_eq.trans (fr 62 _ (by omega) (by omega) (by omega) (by omega))
    · exact zr_eq.trans (fr 62 _ (by omega) (by omega) (by omega) (by omega))
  · rw [zr_nj (by omega), zr_nj (by omega), zr_nj (by omega), zr_nj (by omega), zr_nj (by omega)]; exact e28
  · intro a j a3 a4 a5 a6
    have q : ∀ (H : zH) (i : Nat) (x : Int32), 1 ≤ i → i ≤ 5 → (zsi H 42 i x).1 a j = H.1 a j := fun H i x h1 h2 => by
      by_cases e : a = 42
      · subst e; exact zr_nj (by omega)
      · exact zr_ne e
    rw [q _ _ _ (by omega) (by omega), q _ _ _ (by omega) (by omega), q _ _ _ (by omega) (by omega), q _ _ _ (by omega) (by omega), q _ _ _ (by omega) (by omega)]
    exact fr a j a3 a4 a5 (by omega)
theorem kk {i p : Nat} : 9 + i + 6 * p = 9 + 6 * p + i := by omega
set_option maxHeartbeats 4000000 in
set_option maxRecDepth 100000 in
theorem p_keep {h : zH} (hi : Inv h) : Pair R_X7_keep R_X8_keep [] h := by
  obtain ⟨t, f, sh, sk, n, w, hs⟩ := hi.1
  obtain ⟨k, k0, k1, k2, k3⟩ := hi.2.2.2.2
  by_cases hk : k < 3
  · obtain ⟨h1, r1, ⟨a1, a2, a3, a4, a5, a6⟩, a7⟩ := c_keep hk k1
    have k2' : h1.1 42 28 = nI k := by rw [a6 42 28 (by omega) (by omega)]; exact k2
    obtain ⟨h2, r2, b1, b2, b3, b4, b5, b6⟩ := m_keep hk k2'
    have he : ∀ a j, ¬ (9 + 6 * k ≤ a ∧ a ≤ 9 + 6 * k + 4) → ¬ (a = 0 ∧ j = 2) → ¬ (a = 62 ∧ 51 * k ≤ j) → ¬ (a = 42 ∧ j = 28) → h2.1 a j = h.1 a j := fun a j u1 u2 u3 u4 => by rw [b6 a j u3 u4, a6 a j u1 u2]
    refine ⟨_, h1, h2, r1, r2, ⟨t, f, sh, sk, n, w, hs.cg' (fun a j hg => he a j (by unfold gS at hg; omega) (by unfold gS at hg; omega) (by unfold gS at hg; omega) (by unfold gS at hg; omega)) (fun k' hk' i hi' => by rw [he 6 _ (by omega) (by omega) (by omega) (by omega)]; exact hs.rk k' hk' i hi')⟩, hi.2.1.cg (fun a j hg => he a j (by unfold gM at hg; omega) (by unfold gM at hg; omega) (by unfold gM at hg; omega) (by unfold gM at hg; omega)), hi.2.2.1.cg (fun a j hg => he a j (by unfold gP at hg; omega) (by unfold gP at hg; omega) (by unfold gP at hg; omega) (by unfold gP at hg; omega)), hi.2.2.2.1.cg (fun a j hg => he a j (by unfold gD at hg; omega) (by unfold gD at hg; omega) (by unfold gD at hg; omega) (by unfold gD at hg; omega)), k + 1, by omega, by rw [b6 0 2 (by omega) (by omega)]; exact a7, b5, fun p hp => ?_⟩
    by_cases e : p = k
    · subst e
      have up : ∀ a j, 9 ≤ a → a ≤ 25 → h2.1 a j = h1.1 a j := fun a j u1 u2 => b6 a j (by omega) (by omega)
      have dn : ∀ a j, 43 ≤ a → a ≤ 45 → h1.1 a j = h.1 a j := fun a j u1 u2 => a6 a j (by omega) (by omega)
      refine ⟨t, f, sh, sk, n, w, SX.cg hs (fun j hj => ?_) (fun j hj => ?_) (fun j hj => ?_) (fun j hj => ?_) (fun j hj => ?_) (fun j hj => ?_) (fun j hj => ?_) (fun j hj => ?_) (fun j hj => ?_)⟩
      · rw [up _ _ (by omega) (by omega)]; exact a1 j hj
      · rw [up _ _ (by omega) (by omega), show 10 + 6 * p = 9 + 6 * p + 1 by omega]; exact a2 j hj
      · rw [up _ _ (by omega) (by omega), show 11 + 6 * p = 9 + 6 * p + 2 by omega]; exact a3 j hj
      · rw [up _ _ (by omega) (by omega), show 12 + 6 * p = 9 + 6 * p + 3 by omega]; exact a4 j hj
      · rw [up _ _ (by omega) (by omega), show 13 + 6 * p = 9 + 6 * p + 4 by omega]; exact a5 j hj
      · rw [b1 j hj]; exact dn _ _ (by omega) (by omega)
      · rw [b4 j hj]; exact a6 _ _ (by omega) (by omega)
      · rw [b2 j hj]; exact dn _ _ (by omega) (by omega)
      · rw [b3 j hj]; exact dn _ _ (by omega) (by omega)
    · obtain ⟨t, f, sh, sk, n, w, hk2⟩ := k3 p (by omega)
      have e1 : ∀ i j, i < 5 → h2.1 (9 + i + 6 * p) j = h.1 (9 + i + 6 * p) j := fun i j hi' => he _ _ (by omega) (by omega) (by omega) (by omega)
      have e2 : ∀ j, j < 51 → h2.1 62 (51 * p + j) = h.1 62 (51 * p + j) := fun j hj => he _ _ (by omega) (by omega) (by omega) (by omega)
      refine ⟨t, f, sh, sk, n, w, SX.cg hk2 (fun j _ => e1 0 j (by omega)) (fun j _ => e1 1 j (by omega)) (fun j _ => e1 2 j (by omega)) (fun j _ => e1 3 j (by omega)) (fun j _ => e1 4 j (by omega)) (fun j hj => e2 j (by omega)) (fun j hj => ?_) (fun j hj => ?_) (fun j hj => ?_)⟩
      · rw [Nat.add_assoc]; exact e2 _ (by omega)
      · rw [Nat.add_assoc]; exact e2 _ (by omega)
      · rw [Nat.add_assoc]; exact e2 _ (by omega)
  · have e3 : k = 3 := by omega
    subst e3
    refine ⟨.int (-3), h, h, r_X7_keep _ _ _ ⟨_, rfl⟩ (t_X7_keep_0 _ _ ⟨fun z => ?_, fun _ => ⟨rfl, rfl⟩⟩), r_X8_keep _ _ _ ⟨_, rfl⟩ (t_X8_keep_0 _ _ ⟨fun z => absurd k2 z, fun _ => ⟨rfl, rfl⟩⟩), hi⟩
    rw [k1] at z; exact absurd z (by decide)
set_option maxHeartbeats 4000000 in
set_option maxRecDepth 100000 in
theorem p_back {h : zH} (hi : Inv h) : Pair R_X7_back R_X8_back [] h := by
  obtain ⟨k', k0, k1, k2, k3⟩ := hi.2.2.2.2
  by_cases hk : k' = 0
  · subst hk
    refine ⟨.int (-2), h, h, r_X7_back _ _ _ ⟨_, rfl⟩ (t_X7_back_0 _ _ ⟨fun z => ?_, fun _ => ⟨rfl, rfl⟩⟩), r_X8_back _ _ _ ⟨_, rfl⟩ (t_X8_back_0 _ _ ⟨fun z => absurd k2 z, fun _ => ⟨rfl, rfl⟩⟩), hi⟩
    rw [k1] at z; exact absurd z (by decide)
  · obtain ⟨k, rfl⟩ : ∃ k, k' = k + 1 := ⟨k' - 1, by omega⟩
    obtain ⟨h1, r1, ⟨a1, a2, a3, a4, a5, a6⟩, a7⟩ := c_back (k := k) (by omega) k1
    have k2' : h1.1 42 28 = nI (k + 1) := by rw [a6 42 28 (by omega) (by omega)]; exact k2
    obtain ⟨h2, r2, b1, b2, b3, b4, b5, b6⟩ := m_back (k := k) (by omega) k2'
    have he : ∀ a j, ¬ (2 ≤ a ∧ a ≤ 6) → ¬ (a = 0 ∧ j = 2) → a ≠ 43 → a ≠ 44 → a ≠ 45 → ¬ (a = 42 ∧ (j = 28 ∨ (1 ≤ j ∧ j ≤ 5))) → h2.1 a j = h.1 a j := fun a j u1 u2 u3 u4 u5 u6 => by rw [b6 a j u3 u4 u5 u6, a6 a j u1 u2]
    obtain ⟨t, f, sh, sk, n, w, hs⟩ := k3 k (by omega)
    have up : ∀ a j, 2 ≤ a → a ≤ 6 → h2.1 a j = h1.1 a j := fun a j u1 u2 => b6 a j (by omega) (by omega) (by omega) (by omega)
    have dn : ∀ j, h1.1 62 j = h.1 62 j := fun j => a6 62 j (by omega) (by omega)
    refine ⟨_, h1, h2, r1, r2, ⟨t, f, sh, sk, n, w, SX.cg hs (fun j hj => ?_) (fun j hj => ?_) (fun j hj => ?_) (fun j hj => ?_) (fun j hj => ?_) (fun j hj => ?_) (fun j hj => ?_) (fun j hj => ?_) (fun j hj => ?_)⟩, hi.2.1.cg (fun a j hg => he a j (by unfold gM at hg; omega) (by unfold gM at hg; omega) (by unfold gM at hg; omega) (by unfold gM at hg; omega) (by unfold gM at hg; omega) (by unfold gM at hg; omega)), hi.2.2.1.cg (fun a j hg => he a j (by unfold gP at hg; omega) (by unfold gP at hg; omega) (by unfold gP at hg; omega) (by unfold gP at hg; omega) (by unfold gP at hg; omega) (by unfold gP at hg; omega)), hi.2.2.2.1.cg (fun a j hg => he a j (by unfold gD at hg; omega) (by unfold gD at hg; omega) (by unfold gD at hg; omega) (by unfold gD at hg; omega) (by unfold gD at hg; omega) (by unfold gD at hg; omega)), k, by omega, by rw [b6 0 2 (by omega) (by omega) (by omega) (by omega)]; exact a7, b5, fun p hp => ?_⟩
    · rw [up _ _ (by omega) (by omega)]; exact a1 j hj
    · rw [up _ _ (by omega) (by omega), show 10 + 6 * k = 9 + 6 * k + 1 by omega]; exact a2 j hj
    · rw [up _ _ (by omega) (by omega), show 11 + 6 * k = 9 + 6 * k + 2 by omega]; exact a3 j hj
    · rw [up _ _ (by omega) (by omega), show 12 + 6 * k = 9 + 6 * k + 3 by omega]; exact a4 j hj
    · rw [up _ _ (by omega) (by omega), show 13 + 6 * k = 9 + 6 * k + 4 by omega]; exact a5 j hj
    · rw [b1 j hj]; exact dn _
    · rw [b4 j hj]; exact dn _
    · rw [b2 j hj]; exact dn _
    · rw [b3 j hj]; exact dn _
    · obtain ⟨t, f, sh, sk, n, w, hk2⟩ := k3 p (by omega)
      have e1 : ∀ i j, i < 5 → h2.1 (9 + i + 6 * p) j = h.1 (9 + i + 6 * p) j := fun i j hi' => he _ _ (by omega) (by omega) (by omega) (by omega) (by omega) (by omega)
      have e2 : ∀ j, h2.1 62 j = h.1 62 j := fun j => he _ _ (by omega) (by omega) (by omega) (by omega) (by omega) (by omega)
      exact ⟨t, f, sh, sk, n, w, SX.cg hk2 (fun j _ => e1 0 j (by omega)) (fun j _ => e1 1 j (by omega)) (fun j _ => e1 2 j (by omega)) (fun j _ => e1 3 j (by omega)) (fun j _ => e1 4 j (by omega)) (fun j hj => e2 _) (fun j hj => e2 _) (fun j hj => e2 _) (fun j hj => e2 _)⟩
