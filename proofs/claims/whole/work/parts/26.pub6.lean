/-! ===== dark ===== -/
def wdN (S1 S2 : Nat → Nat) : Nat → Nat → Nat → Nat → Nat
  | 0, _, wide, _ => wide
  | m + 1, d, wide, row => if S1 d = 0 ∧ S2 d = 0 then wdN S1 S2 m (d + 1) (if wide < row + 1 then row + 1 else wide) (row + 1) else wdN S1 S2 m (d + 1) wide 0
theorem wdN_snoc {S1 S2 : Nat → Nat} : ∀ (m d wide row : Nat), ¬ (S1 (d + m) = 0 ∧ S2 (d + m) = 0) → wdN S1 S2 (m + 1) d wide row = wdN S1 S2 m d wide row
  | 0, d, wide, row, h => by
    show (if S1 d = 0 ∧ S2 d = 0 then _ else wdN S1 S2 0 (d + 1) wide 0) = wide
    rw [if_neg (by simpa using h)]; rfl
  | m + 1, d, wide, row, h => by
    have h' : ¬ (S1 (d + 1 + m) = 0 ∧ S2 (d + 1 + m) = 0) := by rw [show d + 1 + m = d + (m + 1) by omega]; exact h
    show (if S1 d = 0 ∧ S2 d = 0 then wdN S1 S2 (m + 1) (d + 1) (if wide < row + 1 then row + 1 else wide) (row + 1) else wdN S1 S2 (m + 1) (d + 1) wide 0) = (if S1 d = 0 ∧ S2 d = 0 then wdN S1 S2 m (d + 1) (if wide < row + 1 then row + 1 else wide) (row + 1) else wdN S1 S2 m (d + 1) wide 0)
    rw [wdN_snoc m (d + 1) _ _ h', wdN_snoc m (d + 1) _ _ h']
/-- the places of the bows themselves are lit: whether they are looked at makes no difference -/
theorem wdN_ends {S1 S2 : Nat → Nat} {lo hi : Nat} (hl : lo ≤ hi) (h1 : ¬ (S1 lo = 0 ∧ S2 lo = 0)) (h2 : ¬ (S1 hi = 0 ∧ S2 hi = 0)) : wdN S1 S2 (hi + 1 - lo) lo 0 0 = wdN S1 S2 (hi - (lo + 1)) (lo + 1) 0 0 := by
  obtain ⟨m, rfl⟩ : ∃ m, hi = lo + m := ⟨hi - lo, by omega⟩
  cases m with
  | zero =>
    rw [show lo + 0 + 1 - lo = 1 by omega, show lo + 0 - (lo + 1) = 0 by omega]
    show (if S1 lo = 0 ∧ S2 lo = 0 then _ else wdN S1 S2 0 (lo + 1) 0 0) = 0
    rw [if_neg h1]; rfl
  | succ m =>
    rw [show lo + (m + 1) + 1 - lo = (m + 1) + 1 by omega, show lo + (m + 1) - (lo + 1) = m by omega]
    show (if S1 lo = 0 ∧ S2 lo = 0 then _ else wdN S1 S2 (m + 1) (lo + 1) 0 0) = _
    rw [if_neg h1, wdN_snoc m (lo + 1) 0 0 (by rw [show lo + 1 + m = lo + (m + 1) by omega]; exact h2)]
theorem c_min {h : zH} {a b : Nat} (ha : a < 2 ^ 31) (hb : b < 2 ^ 31) : R_J9_min_7cf53 [.int (nI a), .int (nI b)] h (some (.int (nI (if b < a then b else a)))) h := by
  refine r_J9_min_7cf53 _ _ _ _ _ ⟨_, rfl⟩ (t_J9_min_7cf53_0 _ _ _ _ ?_)
  rw [nI_ltI hb ha]
  exact ⟨fun z => ⟨by rw [if_pos z], rfl⟩, fun z => ⟨by rw [if_neg z], rfl⟩⟩
theorem c_maxN {h : zH} {a b : Nat} (ha : a < 2 ^ 31) (hb : b < 2 ^ 31) : R_J9_max_7cf53 [.int (nI a), .int (nI b)] h (some (.int (nI (if a < b then b else a)))) h := by
  have := c_max (h := h) (nI a) (nI b)
  by_cases e : a < b
  · rw [if_pos ((nI_ltI ha hb).mpr e)] at this
    rw [if_pos e]; exact this
  · rw [if_neg (fun q => e ((nI_ltI ha hb).mp q))] at this
    rw [if_neg e]; exact this
section DK
variable {t : Nat → Nat} {f sh : Nat} {sq : Int32}
set_option maxHeartbeats 4000000 in
set_option maxRecDepth 100000 in
theorem c_widestDark {h : zH} (hd : DC h t f sh sq) {a b : Nat} (ha : a ≤ 5) (hb : b ≤ 5) : ∃ h', h'.1 = h.1 ∧
    ((bwV (skN t f sh sq a 0 181) = -4 ∨ bwV (skN t f sh sq b 0 181) = -4) → R_X3_widestDark [.ref 26, .int (nI a), .int (nI b)] h (some (.int (-2))) h') ∧
    (∀ x y, x < 181 → y < 181 → bwV (skN t f sh sq a 0 181) = nI x → bwV (skN t f sh sq b 0 181) = nI y → R_X3_widestDark [.ref 26, .int (nI a), .int (nI b)] h (some (.int (nI (wdN (skN t f sh sq a 0 181) (skN t f sh sq b 0 181) ((if x < y then y else x) + 1 - (if y < x then y else x)) (if y < x then y else x) 0 0)))) h') := by
  obtain ⟨h1, r1, f1, s1⟩ := c_fillSkya hd ha (c := 0) (by omega)
  obtain ⟨h2, r2, f2, s2⟩ := c_fillSkyb (hd.of f1.1) hb (c := 0) (by omega)
  have hs := hd.2.1
  have hS1 : ∀ d, d < 181 → skN t f sh sq a 0 181 d < 2 ^ 30 ∧ h2.2 27 d = lN (skN t f sh sq a 0 181 d) := fun d hd => ⟨skN_30 hs a 0 d, by rw [f2.2 27 (by omega)]; exact s1 d hd⟩
  have hS2 : ∀ d, d < 181 → skN t f sh sq b 0 181 d < 2 ^ 30 ∧ h2.2 28 d = lN (skN t f sh sq b 0 181 d) := fun d hd => ⟨skN_30 hs b 0 d, s2 d hd⟩
  have cA := c_brightesta (h := h2) (S := skN t f sh sq a 0 181) (fun d hd => ⟨by have := (hS1 d hd).1; omega, (hS1 d hd).2⟩)
  have cB := c_brightestb (h := h2) (S := skN t f sh sq b 0 181) (fun d hd => ⟨by have := (hS2 d hd).1; omega, (hS2 d hd).2⟩)
  generalize skN t f sh sq a 0 181 = S1 at *
  generalize skN t f sh sq b 0 181 = S2 at *
  refine ⟨h2, f2.1.trans f1.1, fun hno => ?_, fun x y hx hy ex ey => ?_⟩
  · refine r_X3_widestDark _ _ _ _ _ ⟨_, rfl⟩ (t_X3_widestDark_0 _ _ _ _ ⟨_, r1, _, r2, _, _, cA, _, _, cB, fun _ => ⟨rfl, rfl⟩, fun z => ⟨fun z2 => absurd (hno.resolve_left z) z2, fun _ => ⟨rfl, rfl⟩⟩⟩)
  · rw [ex] at cA
    rw [ey] at cB
    refine r_X3_widestDark _ _ _ _ _ ⟨_, rfl⟩ (t_X3_widestDark_0 _ _ _ _ ⟨_, r1, _, r2, _, _, cA, _, _, cB, fun z => absurd z (nI_n4 (by omega)), fun z => ⟨fun z2 => ⟨_, _, c_min (by omega) (by omega), ?_⟩, fun z2 => absurd (nI_n4 (by omega)) z2⟩⟩)
    have hlo : (if y < x then y else x) ≤ (if x < y then y else x) := by split <;> split <;> omega
    have hhi : (if x < y then y else x) < 181 := by split <;> omega
    generalize hH : (if x < y then y else x) = H at *
    generalize (if y < x then y else x) = L0 at *
    have key : ∀ (m d wide row : Nat), d + m = H + 1 → wide ≤ 181 → row ≤ d → zG M_X3_widestDark (fun r1 h3 => r1 = some (.int (nI (wdN S1 S2 m d wide row))) ∧ h3 = h2) (zat M_X3_widestDark 69) [some (.ref 26), some (.int (nI a)), some (.int (nI b)), some (.int (nI x)), some (.int (nI y)), some (.int (nI wide)), some (.int (nI row)), some (.int (nI d))] [] h2 := by
      intro m
      induction m with
      | zero =>
        intro d wide row hm hw hr
        have cm := c_maxN (h := h2) (a := x) (b := y) (by omega) (by omega)
        rw [hH] at cm
        refine t_X3_widestDark_69 _ _ _ _ _ _ _ _ _ ⟨_, _, cm, fun _ => ⟨rfl, rfl⟩, fun z => absurd ?_ z⟩
        rw [nI_ltI (by omega) (by omega)]; omega
      | succ m ih =>
        intro d wide row hm hw hr
        have cm := c_maxN (h := h2) (a := x) (b := y) (by omega) (by omega)
        rw [hH] at cm
        obtain ⟨u1, u2⟩ := hS1 d (by omega)
        obtain ⟨u3, u4⟩ := hS2 d (by omega)
        have vp : vp_in (nI d) 181 := vp_in_nI (by omega) (by omega)
        have m0 := c_maxN (h := h2) (a := wide) (b := 0) (by omega) (by omega)
        rw [if_neg (by omega)] at m0
        have m1 := c_maxN (h := h2) (a := wide) (b := row + 1) (by omega) (by omega)
        refine t_X3_widestDark_69 _ _ _ _ _ _ _ _ _ ⟨_, _, cm, fun z => ?_, fun _ => ⟨vp, ?_⟩⟩
        · rw [nI_ltI (by omega) (by omega)] at z; omega
        rw [nI_clamp (by omega), u2, u4, lg_cmp_eq, lg_cmp_eq, show (0 : Int64) = lN 0 from rfl, lN_eq (by omega) (by omega), lN_eq (by omega) (by omega), nI_1, nI_1]
        refine ⟨fun z => ⟨_, _, m0, ?_⟩, fun z => ⟨vp, fun z2 => ⟨_, _, m0, ?_⟩, fun z2 => ⟨_, _, m1, ?_⟩⟩⟩
        · have := ih (d + 1) wide 0 (by omega) hw (by omega)
          rw [wdN, if_neg (fun q => z q.1)]; exact this
        · have := ih (d + 1) wide 0 (by omega) hw (by omega)
          rw [wdN, if_neg (fun q => z2 q.2)]; exact this
        · have := ih (d + 1) (if wide < row + 1 then row + 1 else wide) (row + 1) (by omega) (by split <;> omega) (by omega)
          rw [wdN, if_pos ⟨Classical.not_not.mp z, Classical.not_not.mp z2⟩]; exact this
    exact key (H + 1 - L0) L0 0 0 (by omega) (by omega) (by omega)
def s55 (a _b : Nat) : Bool := a == 55
theorem s55_A : ∀ x y, sA x y = false → s55 x y = false := by
  intro x y h
  simp only [sA, sK, sN, Bool.or_eq_false_iff, Bool.and_eq_false_iff, beq_eq_false_iff_ne] at h
  simp only [s55, beq_eq_false_iff_ne]; omega
set_option maxHeartbeats 4000000 in
set_option maxRecDepth 100000 in
theorem m_dark {h : zH} (hd : DM h t f sh sq) {a b : Nat} (ha : a ≤ 5) (hb : b ≤ 5) (hab : a ≠ b) : ∃ h', Fr s55 h h' ∧
    ((bwV (skN t f sh sq a 0 181) = -4 ∨ bwV (skN t f sh sq b 0 181) = -4) → R_X8_dark [.ref 42, .int (nI a), .int (nI b)] h (some (.int (-2))) h') ∧
    (∀ x y, x < 181 → y < 181 → bwV (skN t f sh sq a 0 181) = nI x → bwV (skN t f sh sq b 0 181) = nI y → R_X8_dark [.ref 42, .int (nI a), .int (nI b)] h (some (.int (nI (wdN (skN t f sh sq a 0 181) (skN t f sh sq b 0 181) ((if x < y then y else x) - ((if y < x then y else x) + 1)) ((if y < x then y else x) + 1) 0 0)))) h') := by
  obtain ⟨h1, r1, f1, s1⟩ := m_layMap hd ha (c := 0) (by omega)
  have hs := hd.2.1
  have hS1 : ∀ d, d < 181 → skN t f sh sq a 0 181 d < 2 ^ 30 ∧ h1.2 54 d = lN (skN t f sh sq a 0 181 d) := fun d hd => ⟨skN_30 hs a 0 d, s1 d hd⟩
  have mA := m_bowOf (h := h1) (S := skN t f sh sq a 0 181) (fun d hd => ⟨by have := (hS1 d hd).1; omega, (hS1 d hd).2⟩)
  have hne : ¬ nI a = nI b := by rw [nI_eq (by omega) (by omega)]; exact hab
  have va : 0 ≤ nI a ∧ nI a ≤ 5 := ⟨nI_pos' (by omega), nI_le (b := 5) ha (by omega)⟩
  have vb : 0 ≤ nI b ∧ nI b ≤ 5 := ⟨nI_pos' (by omega), nI_le (b := 5) hb (by omega)⟩
  -- the lit places of the first map are laid down
  have lay : ∀ (post : Option Value → zH → Prop) (hp : zH), Fr s55 h1 hp → hp.2 = h1.2 → (∀ d, d < 181 → hp.1 55 d = bI (decide (0 < skN t f sh sq a 0 181 d))) → zG M_X8_dark post (zat M_X8_dark 39) [some (.ref 42), some (.int (nI a)), some (.int (nI b)), some (.int (bwV (skN t f sh sq a 0 181))), some (.int 181), none, none, none, none, none] [] hp → ∃ h2, Fr s55 h1 h2 ∧ h2.2 = h1.2 ∧ (∀ d, d < 181 → h2.1 55 d = bI (decide (0 < skN t f sh sq a 0 181 d))) := fun _ hp e1 e2 e3 _ => ⟨hp, e1, e2, e3⟩
  have loop : ∀ (m i : Nat) (h2 : zH), i + m = 181 → Fr s55 h1 h2 → h2.2 = h1.2 → (∀ d, d < i → h2.1 55 d = bI (decide (0 < skN t f sh sq a 0 181 d))) → ∃ h3, Fr s55 h1 h3 ∧ h3.2 = h1.2 ∧ (∀ d, d < 181 → h3.1 55 d = bI (decide (0 < skN t f sh sq a 0 181 d))) ∧ ∀ post, zG M_X8_dark post (zat M_X8_dark 39) [some (.ref 42), some (.int (nI a)), some (.int (nI b)), some (.int (bwV (skN t f sh sq a 0 181))), some (.int (nI 181)), none, none, none, none, none] [] h3 → zG M_X8_dark post (zat M_X8_dark 39) [some (.ref 42), some (.int (nI a)), some (.int (nI b)), some (.int (bwV (skN t f sh sq a 0 181))), some (.int (nI i)), none, none, none, none, none] [] h2 := by
    intro m
    induction m with
    | zero =>
      intro i h2 hi e1 e2 e3
      have : i = 181 := by omega
      subst this
      exact ⟨h2, e1, e2, e3, fun _ g => g⟩
    | succ m ih =>
      intro i h2 hi e1 e2 e3
      obtain ⟨u1, u2⟩ := hS1 i (by omega)
      have vp : vp_in (nI i) 181 := vp_in_nI (by omega) (by omega)
      obtain ⟨h3, g1, g2, g3, g4⟩ := ih (i + 1) (zsi h2 55 i (bI (decide (0 < skN t f sh sq a 0 181 i)))) (by omega) (e1.si rfl) e2 (fun d hd => by
        by_cases e : d = i
        · subst e; rw [zr_eq]
        · rw [zr_nj e]; exact e3 d (by omega))
      refine ⟨h3, g1, g2, g3, fun post g => ?_⟩
      have g5 := g4 post g
      refine t_X8_dark_39 _ _ _ _ _ _ ⟨fun z => ?_, fun _ => ⟨vp, ?_⟩⟩
      · rw [q181, nI_leI (by omega) (by omega)] at z; omega
      rw [nI_clamp (by omega), e2, u2, lg_cmp_le, show (0 : Int64) = lN 0 from rfl, lN_le (by omega) (by omega), nI_1]
      refine ⟨fun z => ⟨vp, ?_⟩, fun z => ⟨vp, ?_⟩⟩
      · rw [decide_eq_false (by omega)] at g5; exact g5
      · rw [decide_eq_true (by omega)] at g5; exact g5
  obtain ⟨h3, g1, g2, g3, g4⟩ := loop 181 0 h1 (by omega) Fr.rf rfl (fun d hd => by omega)
  have hd3 : DM h3 t f sh sq := by
    have e : ∀ x j, x ≠ 55 → h3.1 x j = h.1 x j := fun x j hx => by rw [g1 x j (by simp [s55, hx]), f1.1]
    obtain ⟨⟨b1, b2, b3, b4⟩, b5, b6, b7⟩ := hd
    exact ⟨⟨b1, b2, fun j hj => by rw [e 43 j (by omega)]; exact b3 j hj, by rw [e 42 1 (by omega)]; exact b4⟩, b5, by rw [e 42 3 (by omega)]; exact b6, by rw [e 42 2 (by omega)]; exact b7⟩
  obtain ⟨h4, r4, f4, s4⟩ := m_layMap hd3 hb (c := 0) (by omega)
  have hS2 : ∀ d, d < 181 → skN t f sh sq b 0 181 d < 2 ^ 30 ∧ h4.2 54 d = lN (skN t f sh sq b 0 181 d) := fun d hd => ⟨skN_30 hs b 0 d, s4 d hd⟩
  have mB := m_bowOf (h := h4) (S := skN t f sh sq b 0 181) (fun d hd => ⟨by have := (hS2 d hd).1; omega, (hS2 d hd).2⟩)
  have lit : ∀ d, d < 181 → h4.1 55 d = bI (decide (0 < skN t f sh sq a 0 181 d)) := fun d hd => by rw [f4.1]; exact g3 d hd
  have frame : Fr s55 h h4 := fun x j hx => by rw [f4.1, g1 x j hx, f1.1]
  generalize skN t f sh sq a 0 181 = S1 at *
  generalize skN t f sh sq b 0 181 = S2 at *
  refine ⟨h4, frame, fun hno => ?_, fun x y hx hy ex ey => ?_⟩
  · refine r_X8_dark _ _ _ _ _ ⟨_, rfl⟩ (t_X8_dark_0 _ _ _ _ (ge (fun z => absurd va z) (fun _ _ => ge (fun z => absurd vb z) (fun _ _ => ⟨fun _ => ⟨_, r1, _, _, mA, g4 _ ?_⟩, fun z => absurd hne z⟩))))
    refine t_X8_dark_39 _ _ _ _ _ _ ⟨fun _ => ⟨_, r4, _, _, mB, fun _ => ⟨rfl, rfl⟩, fun z => ⟨fun z2 => absurd (hno.resolve_left z) z2, fun _ => ⟨rfl, rfl⟩⟩⟩, fun z => absurd (by decide) z⟩
  · rw [ex] at mA g4
    rw [ey] at mB
    refine r_X8_dark _ _ _ _ _ ⟨_, rfl⟩ (t_X8_dark_0 _ _ _ _ (ge (fun z => absurd va z) (fun _ _ => ge (fun z => absurd vb z) (fun _ _ => ⟨fun _ => ⟨_, r1, _, _, mA, g4 _ ?_⟩, fun z => absurd hne z⟩))))
    have key : ∀ (H L0 : Nat), H < 181 → ∀ (m d wide row : Nat), m = H - d → d ≤ 181 → wide ≤ 181 → row ≤ d → zG M_X8_dark (fun r1 h3 => r1 = some (.int (nI (wdN S1 S2 m d wide row))) ∧ h3 = h4) (zat M_X8_dark 145) [some (.ref 42), some (.int (nI a)), some (.int (nI b)), some (.int (nI x)), some (.int (nI y)), some (.int (nI L0)), some (.int (nI H)), some (.int (nI wide)), some (.int (nI row)), some (.int (nI d))] [] h4 := by
      intro H L0 hH m
      induction m with
      | zero =>
        intro d wide row hm hd1 hw hr
        refine t_X8_dark_145 _ _ _ _ _ _ _ _ _ _ _ ⟨fun _ => ⟨rfl, rfl⟩, fun z => ?_⟩
        exfalso
        rw [nI_leI (by omega) (by omega)] at z; omega
      | succ m ih =>
        intro d wide row hm hd1 hw hr
        obtain ⟨u3, u4⟩ := hS2 d (by omega)
        have u1 := lit d (by omega)
        have vp : vp_in (nI d) 181 := vp_in_nI (by omega) (by omega)
        refine t_X8_dark_145 _ _ _ _ _ _ _ _ _ _ _ ⟨fun z => ?_, fun _ => ⟨vp, ?_⟩⟩
        · rw [nI_leI (by omega) (by omega)] at z; omega
        rw [nI_clamp (by omega), u1, u4, lg_cmp_le, show (0 : Int64) = lN 0 from rfl, lN_le (by omega) (by omega), nI_1, nI_1, nI_leI (by omega) (by omega), bI_0, decide_eq_false_iff_not]
        have pos : (0 : Int32) ≤ nI wide := nI_pos' (by omega)
        refine ⟨fun z => ⟨fun _ => ?_, fun z2 => absurd pos z2⟩, fun z => ⟨vp, fun z2 => ⟨fun z3 => ?_, fun z3 => ?_⟩, fun z2 => ⟨fun _ => ?_, fun z3 => absurd pos z3⟩⟩⟩
        · have := ih (d + 1) wide 0 (by omega) (by omega) hw (by omega)
          rw [wdN, if_neg (fun q => by omega)]; exact this
        · have := ih (d + 1) (if wide < row + 1 then row + 1 else wide) (row + 1) (by omega) (by omega) (by split <;> omega) (by omega)
          rw [if_neg (by omega)] at this
          rw [wdN, if_pos ⟨by omega, by omega⟩, if_neg (by omega)]; exact this
        · have := ih (d + 1) (if wide < row + 1 then row + 1 else wide) (row + 1) (by omega) (by omega) (by split <;> omega) (by omega)
          rw [if_pos (by omega)] at this
          rw [wdN, if_pos ⟨by omega, by omega⟩, if_pos (by omega)]; exact this
        · have := ih (d + 1) wide 0 (by omega) (by omega) hw (by omega)
          rw [wdN, if_neg (fun q => by omega)]; exact this
    refine t_X8_dark_39 _ _ _ _ _ _ ⟨fun _ => ⟨_, r4, _, _, mB, fun z => absurd z (nI_n4 (by omega)), fun z => ⟨fun z2 => ?_, fun z2 => absurd (nI_n4 (by omega)) z2⟩⟩, fun z => absurd (by decide) z⟩
    rw [nI_leI (by omega) (by omega), nI_1, nI_1]
    by_cases hxy : y ≤ x
    · have e1 : (if x < y then y else x) = x := if_neg (by omega)
      have e2 : (if y < x then y else x) = y := by split <;> omega
      rw [e1, e2]
      exact ⟨fun _ => ⟨fun _ => key x y hx (x - (y + 1)) (y + 1) 0 0 rfl (by omega) (by omega) (by omega), fun z3 => absurd hxy z3⟩, fun z3 => absurd hxy z3⟩
    · have e1 : (if x < y then y else x) = y := if_pos (by omega)
      have e2 : (if y < x then y else x) = x := if_neg (by omega)
      rw [e1, e2]
      exact ⟨fun z3 => absurd z3 hxy, fun _ => ⟨fun z3 => absurd z3 hxy, fun _ => key y x hy (y - (x + 1)) (x + 1) 0 0 rfl (by omega) (by omega) (by omega)⟩⟩
end DK
set_option maxHeartbeats 4000000 in
set_option maxRecDepth 100000 in
theorem p_dark {h : zH} (hi : Inv h) (a b : Int32) : Pair R_X7_dark R_X8_dark [.int a, .int b] h := by
  obtain ⟨t, f, sh, sk, n, w, hs⟩ := hi.1
  by_cases hv : (0 ≤ a ∧ a ≤ 5) ∧ (0 ≤ b ∧ b ≤ 5) ∧ ¬ a = b
  · obtain ⟨va, vb, vn⟩ := hv
    obtain ⟨k, hk1, rfl⟩ := in_n (b := 5) (by omega) va.1 va.2
    obtain ⟨u, hu1, rfl⟩ := in_n (b := 5) (by omega) vb.1 vb.2
    have hne : k ≠ u := fun e => vn (by rw [e])
    obtain ⟨h1, e1, c1, c2⟩ := c_widestDark hs.dc hk1 hu1
    obtain ⟨h2, f2, m1, m2⟩ := m_dark (hs.dm.of e1) hk1 hu1 hne
    have hI : Inv h2 := by
      have hs1 : SXc t f sh sk n w h1 := by
        have hf : Fr sA h h1 := fun x j _ => by rw [e1]
        exact hs.fr hf (by unfold RK; rw [e1]; exact hs.rk)
      exact (hi.of e1).q hs1 (f2.wk s55_A) (hs1.rk.fr f2 (fun _ => rfl))
    have fin : ∀ v : Int32, R_X3_widestDark [.ref 26, .int (nI k), .int (nI u)] h (some (.int v)) h1 → R_X8_dark [.ref 42, .int (nI k), .int (nI u)] h1 (some (.int v)) h2 → Pair R_X7_dark R_X8_dark [.int (nI k), .int (nI u)] h := fun v A B => ⟨.int v, h1, h2, r_X7_dark _ _ _ _ _ ⟨_, rfl⟩ (t_X7_dark_0 _ _ _ _ (gd_isMirrors (fun z => absurd va z) (fun _ _ => gd_isMirrors (fun z => absurd vb z) (fun _ _ => ⟨fun _ => ⟨_, _, A, rfl, rfl⟩, fun z => absurd vn z⟩)))), B, hI⟩
    rcases bwV_cases (skN t f sh (h.1 3 1) k 0 181) with ea | ⟨pa, ea⟩
    · exact fin _ (c1 (Or.inl ea)) (m1 (Or.inl ea))
    · rcases bwV_cases (skN t f sh (h.1 3 1) u 0 181) with eb | ⟨pb, eb⟩
      · exact fin _ (c1 (Or.inr eb)) (m1 (Or.inr eb))
      · have la := agN_lt (skN t f sh (h.1 3 1) k 0 181) 181 (by omega)
        have lb := agN_lt (skN t f sh (h.1 3 1) u 0 181) 181 (by omega)
        have A := c2 _ _ la lb ea eb
        have B := m2 _ _ la lb ea eb
        generalize agN (skN t f sh (h.1 3 1) k 0 181) 181 = xx at *
        generalize agN (skN t f sh (h.1 3 1) u 0 181) 181 = yy at *
        rw [wdN_ends (lo := if yy < xx then yy else xx) (hi := if xx < yy then yy else xx) (by split <;> split <;> omega) (by split <;> omega) (by split <;> omega)] at A
        exact fin _ A B
  · exact ⟨.int (-1), h, h, r_X7_dark _ _ _ _ _ ⟨_, rfl⟩ (t_X7_dark_0 _ _ _ _ (gd_isMirrors (fun _ => ⟨rfl, rfl⟩) (fun u0 w0 => gd_isMirrors (fun _ => ⟨rfl, rfl⟩) (fun u1 w1 => ⟨fun z => absurd ⟨⟨u0, w0⟩, ⟨u1, w1⟩, z⟩ hv, fun _ => ⟨rfl, rfl⟩⟩)))), r_X8_dark _ _ _ _ _ ⟨_, rfl⟩ (t_X8_dark_0 _ _ _ _ (ge (fun _ => ⟨rfl, rfl⟩) (fun u0 w0 => ge (fun _ => ⟨rfl, rfl⟩) (fun u1 w1 => ⟨fun z => absurd ⟨⟨u0, w0⟩, ⟨u1, w1⟩, z⟩ hv, fun _ => ⟨rfl, rfl⟩⟩)))), hi⟩
