/-! ===== bending: INSIDE and OUTSIDE, of both ===== -/
/-- the tables and the fan of both hold t and f -/
def BT (h : zH) (t : Nat → Nat) (f : Nat) : Prop := TV t ∧ f ≤ 20 ∧ (∀ j, j < 30 → h.1 2 j = nI (t j)) ∧ h.1 3 0 = nI f
def BM (h : zH) (t : Nat → Nat) (f : Nat) : Prop := TV t ∧ f ≤ 20 ∧ (∀ j, j < 30 → h.1 43 j = nI (t j)) ∧ h.1 42 1 = nI f
theorem bt_val {t : Nat → Nat} (hv : TV t) {f s c i : Nat} (hs : s ≤ 2) (hc : c ≤ 3) (hf : f ≤ 20) (hi : i ≤ 900) : (nI (t (10 * s + i / 100)) + (nI (t (10 * s + i / 100 + 1)) - nI (t (10 * s + i / 100))) * nI (i % 100) / nI 100) - (nI (t (10 * s + i / 100)) + (nI (t (10 * s + i / 100 + 1)) - nI (t (10 * s + i / 100))) * nI (i % 100) / nI 100) * nI f * nI c / nI 1000 = nI (bn t f s c i) ∨ ¬ i < 900 := by
  by_cases h9 : i < 900
  · left
    obtain ⟨-, h2, h3⟩ := hv s (by omega)
    have a1 := h2 (i / 100) (by omega)
    have a3 := h3 (i / 100 + 1) (by omega)
    have a0 := h3 (i / 100) (by omega)
    rw [← Nat.add_assoc] at a1 a3
    have a4 := bp_le hv (s := s) (i := i) (by omega) hi
    rw [bn_eq]
    unfold bp at a4 ⊢
    generalize t (10 * s + i / 100) = u at *
    generalize t (10 * s + i / 100 + 1) = w at *
    have m1 : (w - u) * (i % 100) ≤ 1000 * 100 := Nat.mul_le_mul (by omega) (by omega)
    have m2 : (u + (w - u) * (i % 100) / 100) * f ≤ 900 * 20 := Nat.mul_le_mul (by omega) (by omega)
    have m3 : (u + (w - u) * (i % 100) / 100) * f * c ≤ 18000 * 3 := Nat.mul_le_mul (by omega) (by omega)
    have m4 : (u + (w - u) * (i % 100) / 100) * f * c / 1000 ≤ u + (w - u) * (i % 100) / 100 := by
      have : (u + (w - u) * (i % 100) / 100) * (f * c) ≤ (u + (w - u) * (i % 100) / 100) * 60 := Nat.mul_le_mul_left _ (by have := Nat.mul_le_mul hf hc; omega)
      rw [Nat.mul_assoc]; omega
    rw [pk_sub a1, pk_mul, pk_div (by omega) (by omega) (by omega), nI_add, pk_mul, pk_mul, pk_div (by omega) (by omega) (by omega), pk_sub m4]
  · exact Or.inr h9
theorem bt_val0 {t : Nat → Nat} (hv : TV t) {f s c i : Nat} (hs : s ≤ 2) (hc : c ≤ 3) (hf : f ≤ 20) (hi : i ≤ 900) (h0 : i % 100 = 0) : nI (t (10 * s + i / 100)) - nI (t (10 * s + i / 100)) * nI f * nI c / nI 1000 = nI (bn t f s c i) := by
  obtain ⟨-, -, h3⟩ := hv s (by omega)
  have a0 := h3 (i / 100) (by omega)
  have e : bn t f s c i = t (10 * s + i / 100) - t (10 * s + i / 100) * f * c / 1000 := by
    rw [bn_eq]; unfold bp; rw [h0]; simp
  rw [e]
  generalize t (10 * s + i / 100) = u at *
  have m2 : u * f ≤ 900 * 20 := Nat.mul_le_mul (by omega) (by omega)
  have m3 : u * f * c ≤ 18000 * 3 := Nat.mul_le_mul (by omega) (by omega)
  have m4 : u * f * c / 1000 ≤ u := by
    have : u * (f * c) ≤ u * 60 := Nat.mul_le_mul_left _ (by have := Nat.mul_le_mul hf hc; omega)
    rw [Nat.mul_assoc]; omega
  rw [pk_mul, pk_mul, pk_div (by omega) (by omega) (by omega), pk_sub m4]
theorem ix_c {s i : Nat} (hi : i ≤ 900) : nI s * 10 + nI i / 100 = nI (10 * s + i / 100) := by
  rw [q10, q100, pk_mul, pk_div (by omega) (by omega) (by omega), nI_add, Nat.mul_comm]
theorem ix_m {s i : Nat} (hi : i ≤ 900) : 10 * nI s + nI i / 100 = nI (10 * s + i / 100) := by
  rw [q10, q100, pk_mul, pk_div (by omega) (by omega) (by omega), nI_add]
theorem ix_r {i : Nat} (hi : i ≤ 900) : nI i - nI i / 100 * 100 = nI (i % 100) := by
  rw [q100, q_rem (by omega) (by omega) (by omega)]
theorem c_bent {h : zH} {t : Nat → Nat} {f s c i : Nat} (hb : BT h t f) (hs : s ≤ 2) (hc : c ≤ 3) (hi : i ≤ 900) : R_X6_bent [.ref 1, .int (nI s), .int (nI c), .int (nI i)] h (some (.int (nI (bn t f s c i)))) h := by
  obtain ⟨hv, hf, ht, hfan⟩ := hb
  refine r_X6_bent _ _ _ _ _ _ ⟨_, rfl⟩ (t_X6_bent_0 _ _ _ _ _ ?_)
  rw [ix_c hi, ix_r hi, show (0 : Int32).toNatClampNeg = 0 from rfl, hfan, nI_clamp (by omega), ht _ (by omega)]
  refine ⟨by decide, vp_in_nI (by omega) (by omega), fun h9 => ⟨vp0 (by omega) (by omega), by decide, ?_⟩, fun h9 => ?_⟩
  · rw [q900, nI_leI (by omega) (by omega)] at h9
    exact ⟨by rw [q1000, bt_val0 hv hs hc hf hi (by omega)], rfl⟩
  · rw [q900, nI_leI (by omega) (by omega)] at h9
    rw [nI_1, nI_clamp (by omega), ht _ (by omega)]
    refine ⟨vp_in_nI (by omega) (by omega), by decide, by decide, vp0 (by omega) (by omega), by decide, ?_, rfl⟩
    rw [q1000, q100]
    rcases bt_val hv hs hc hf hi with e | e
    · rw [e]
    · exact absurd (by omega) e
theorem m_bent {h : zH} {t : Nat → Nat} {f s c i : Nat} (hb : BM h t f) (hs : s ≤ 2) (hc : c ≤ 3) (hi : i ≤ 900) : R_X8_bent [.ref 42, .int (nI s), .int (nI c), .int (nI i)] h (some (.int (nI (bn t f s c i)))) h := by
  obtain ⟨hv, hf, ht, hfan⟩ := hb
  refine r_X8_bent _ _ _ _ _ _ ⟨_, rfl⟩ (t_X8_bent_0 _ _ _ _ _ ?_)
  rw [ix_m hi, ix_r hi, hfan, nI_clamp (by omega), ht _ (by omega)]
  refine ⟨by decide, vp_in_nI (by omega) (by omega), by decide, fun h9 => ⟨by decide, ?_⟩, fun h9 => ?_⟩
  · rw [q0, nI_leI (by omega) (by omega)] at h9
    exact ⟨by rw [q1000, bt_val0 hv hs hc hf hi (by omega)], rfl⟩
  · rw [q0, nI_leI (by omega) (by omega)] at h9
    rw [nI_1, nI_clamp (by omega), ht _ (by omega)]
    refine ⟨vp_in_nI (by omega) (by omega), by decide, by decide, by decide, ?_, rfl⟩
    rw [q1000, q100]
    rcases bt_val hv hs hc hf hi with e | e
    · rw [e]
    · exact absurd (by omega) e
/-! OUTSIDE -/
def IsLo (g : Nat → Nat) (r e : Nat) : Prop := e ≤ 901 ∧ (∀ j, j < e → g j < r) ∧ (e ≤ 900 → r ≤ g e)
theorem lo_ex (g : Nat → Nat) (r : Nat) : ∃ e, IsLo g r e := by
  obtain ⟨k, h1, h2⟩ := pk_least (fun e => e = 901 ∨ (e ≤ 900 ∧ r ≤ g e)) ⟨901, Or.inl rfl⟩
  refine ⟨k, by omega, fun j hj => ?_, fun hk => ?_⟩
  · have := h2 j hj
    have hjk : j ≤ 900 := by omega
    exact Nat.not_le.mp (fun q => this (Or.inr ⟨hjk, q⟩))
  · rcases h1 with h | h
    · omega
    · exact h.2
theorem lo_uniq {g : Nat → Nat} {r a b : Nat} (ha : IsLo g r a) (hb : IsLo g r b) : a = b := by
  rcases Nat.lt_trichotomy a b with h | h | h
  · have h1 := hb.2.1 a h
    have h2 := ha.2.2 (by have := hb.1; omega)
    omega
  · exact h
  · have h1 := ha.2.1 b h
    have h2 := hb.2.2 (by have := ha.1; omega)
    omega
noncomputable def lof (g : Nat → Nat) (r : Nat) : Nat := Classical.choose (lo_ex g r)
theorem lof_is (g : Nat → Nat) (r : Nat) : IsLo g r (lof g r) := Classical.choose_spec (lo_ex g r)
def valE (e : Nat) : Int32 := if e ≤ 900 then nI e else -4
theorem nI_half {a : Nat} (ha : a < 2 ^ 31) : nI a / 2 = nI (a / 2) := by rw [q2, pk_div ha (by omega) (by omega)]
theorem c_unbent_loop {h : zH} {t : Nat → Nat} {f s c r : Nat} (hb : BT h t f) (hs : s ≤ 2) (hc : c ≤ 3) (hr : r < 10000) {post : Option Value → zH → Prop} (hp : post (some (.int (valE (lof (bn t f s c) r)))) h) :
    ∀ (k a : Nat), k ≤ 9 → a ≤ lof (bn t f s c) r → lof (bn t f s c) r < a + 2 * 2 ^ k → zG M_X6_unbent post (zat M_X6_unbent 8) [some (.ref 1), some (.int (nI s)), some (.int (nI c)), some (.int (nI r)), some (.int (nI a)), some (.int (nI (2 ^ k))), none] [] h := by
  have he := lof_is (bn t f s c) r
  generalize lof (bn t f s c) r = e at *
  have fin : ∀ {a : Nat}, a = e → zG M_X6_unbent post (zat M_X6_unbent 8) [some (.ref 1), some (.int (nI s)), some (.int (nI c)), some (.int (nI r)), some (.int (nI a)), some (.int (nI 0)), none] [] h := by
    intro a ha
    subst ha
    have hle := he.1
    refine t_X6_unbent_8 _ _ _ _ _ _ _ ⟨fun _ => ⟨fun h9 => ?_, fun h9 => ?_⟩, fun hn => absurd (by decide) hn⟩
    · rw [q900, nI_ltI (by omega) (by omega)] at h9
      rw [valE, if_neg (by omega)] at hp
      exact hp
    · rw [q900, nI_ltI (by omega) (by omega)] at h9
      rw [valE, if_pos (by omega)] at hp
      exact hp
  intro k
  induction k with
  | zero =>
    intro a hk h1 h2
    have hle := he.1
    refine t_X6_unbent_8 _ _ _ _ _ _ _ ⟨fun hz => absurd hz (by decide), fun _ => ?_⟩
    rw [show nI (2 ^ 0) = nI 1 from rfl, nI_add, q901, nI_ltI (by omega) (by omega), show nI 1 / 2 = nI 0 from rfl]
    refine ⟨fun h9 => ⟨by decide, fin (by omega)⟩, fun h9 => ?_⟩
    rw [q1, show nI (a + 1) - nI 1 = nI a from by rw [pk_sub (by omega)]; rfl]
    refine ⟨_, _, c_bent hb hs hc (by omega), fun hx => ⟨by decide, fin ?_⟩, fun hx => ⟨by decide, fin ?_⟩⟩
    · have hbn := bn_le hb.1 (f := f) (s := s) (c := c) (i := a) (by omega) (by omega)
      rw [nI_leI (by omega) (by omega)] at hx
      rcases Nat.lt_or_ge a e with q | q
      · have := he.2.1 a q; omega
      · omega
    · have hbn := bn_le hb.1 (f := f) (s := s) (c := c) (i := a) (by omega) (by omega)
      rw [nI_leI (by omega) (by omega)] at hx
      rcases Nat.lt_or_ge a e with q | q
      · omega
      · have : e = a := by omega
        subst this
        have := he.2.2 (by omega); omega
  | succ k ih =>
    intro a hk h1 h2
    have hle := he.1
    have hpk : 2 ^ (k + 1) = 2 * 2 ^ k := by rw [Nat.pow_succ]; omega
    have hpos : 0 < 2 ^ k := Nat.pow_pos (by omega)
    have hp9 : 2 ^ k ≤ 2 ^ 8 := Nat.pow_le_pow_right (by omega) (by omega)
    refine t_X6_unbent_8 _ _ _ _ _ _ _ ⟨fun hz => ?_, fun _ => ?_⟩
    · rw [q0, nI_leI (by omega) (by omega)] at hz; omega
    rw [nI_add, q901, nI_ltI (by omega) (by omega), nI_half (by omega), show 2 ^ (k + 1) / 2 = 2 ^ k from by omega]
    refine ⟨fun h9 => ⟨by decide, ih a (by omega) (by omega) (by omega)⟩, fun h9 => ?_⟩
    rw [q1, pk_sub (by omega)]
    have hbn := bn_le hb.1 (f := f) (s := s) (c := c) (i := a + 2 ^ (k + 1) - 1) (by omega) (by omega)
    refine ⟨_, _, c_bent hb hs hc (by omega), fun hx => ⟨by decide, ih a (by omega) (by omega) ?_⟩, fun hx => ⟨by decide, ih (a + 2 ^ (k + 1)) (by omega) ?_ (by omega)⟩⟩
    · rw [nI_leI (by omega) (by omega)] at hx
      rcases Nat.lt_or_ge (a + 2 ^ (k + 1) - 1) e with q | q
      · have := he.2.1 _ q; omega
      · omega
    · rw [nI_leI (by omega) (by omega)] at hx
      rcases Nat.lt_or_ge (a + 2 ^ (k + 1) - 1) e with q | q
      · omega
      · have h3 := he.2.2 (by omega)
        have h4 := bn_mono hb.1 (f := f) (s := s) (c := c) (i := e) (j := a + 2 ^ (k + 1) - 1) (by omega) hb.2.1 hc q (by omega)
        omega
theorem c_unbent {h : zH} {t : Nat → Nat} {f s c r : Nat} (hb : BT h t f) (hs : s ≤ 2) (hc : c ≤ 3) (hr : r < 10000) : R_X6_unbent [.ref 1, .int (nI s), .int (nI c), .int (nI r)] h (some (.int (valE (lof (bn t f s c) r)))) h := by
  refine r_X6_unbent _ _ _ _ _ _ ⟨_, rfl⟩ (t_X6_unbent_0 _ _ _ _ _ ?_)
  exact c_unbent_loop hb hs hc hr ⟨rfl, rfl⟩ 9 0 (by omega) (by omega) (by have := (lof_is (bn t f s c) r).1; omega)
theorem m_least_loop {h : zH} {t : Nat → Nat} {f s c r : Nat} (hb : BM h t f) (hs : s ≤ 2) (hc : c ≤ 3) (hr : r < 10000) {post : Option Value → zH → Prop} (he9 : lof (bn t f s c) r ≤ 900) (hp : post (some (.int (nI (lof (bn t f s c) r)))) h) :
    ∀ (n a b : Nat), b - a ≤ n → a ≤ lof (bn t f s c) r → lof (bn t f s c) r ≤ b → b ≤ 900 → zG M_X8_least post (zat M_X8_least 24) [some (.ref 42), some (.int (nI s)), some (.int (nI c)), some (.int (nI r)), some (.int (nI a)), some (.int (nI b)), none] [] h := by
  have he := lof_is (bn t f s c) r
  generalize lof (bn t f s c) r = e at *
  intro n
  induction n with
  | zero =>
    intro a b hn h1 h2 h3
    refine t_X8_least_24 _ _ _ _ _ _ _ ⟨fun _ => ?_, fun hx => absurd (nI_le (by omega) (by omega)) hx⟩
    have : a = e := by omega
    subst this
    exact hp
  | succ n ih =>
    intro a b hn h1 h2 h3
    refine t_X8_least_24 _ _ _ _ _ _ _ ⟨fun hx => ?_, fun hx => ?_⟩
    · rw [nI_leI (by omega) (by omega)] at hx
      have : a = e := by omega
      subst this
      exact hp
    · rw [nI_leI (by omega) (by omega)] at hx
      rw [nI_add, nI_half (by omega), nI_1]
      have hbn := bn_le hb.1 (f := f) (s := s) (c := c) (i := (a + b) / 2) (by omega) (by omega)
      refine ⟨by decide, _, _, m_bent hb hs hc (by omega), fun hy => ih _ _ (by omega) ?_ h2 h3, fun hy => ih _ _ (by omega) h1 ?_ (by omega)⟩
      · rw [nI_ltI (by omega) (by omega)] at hy
        rcases Nat.lt_or_ge ((a + b) / 2) e with q | q
        · omega
        · have h5 := he.2.2 (by omega)
          have h4 := bn_mono hb.1 (f := f) (s := s) (c := c) (i := e) (j := (a + b) / 2) (by omega) hb.2.1 hc q (by omega)
          omega
      · rw [nI_ltI (by omega) (by omega)] at hy
        rcases Nat.lt_or_ge ((a + b) / 2) e with q | q
        · have := he.2.1 _ q; omega
        · exact q
theorem m_least {h : zH} {t : Nat → Nat} {f s c r : Nat} (hb : BM h t f) (hs : s ≤ 2) (hc : c ≤ 3) (hr : r < 10000) : R_X8_least [.ref 42, .int (nI s), .int (nI c), .int (nI r)] h (some (.int (valE (lof (bn t f s c) r)))) h := by
  refine r_X8_least _ _ _ _ _ _ ⟨_, rfl⟩ (t_X8_least_0 _ _ _ _ _ ?_)
  have he := lof_is (bn t f s c) r
  have hbn := bn_le hb.1 (f := f) (s := s) (c := c) (i := 900) (by omega) (by omega)
  refine ⟨_, _, m_bent hb hs hc (i := 900) (by omega), fun hx => ?_, fun hx => ?_⟩
  · rw [nI_leI (by omega) (by omega)] at hx
    have h9 : lof (bn t f s c) r ≤ 900 := by
      rcases Nat.lt_or_ge 900 (lof (bn t f s c) r) with q | q
      · have := he.2.1 _ q; omega
      · exact q
    have e : valE (lof (bn t f s c) r) = nI (lof (bn t f s c) r) := by rw [valE, if_pos h9]
    exact m_least_loop hb hs hc hr h9 ⟨by rw [e], rfl⟩ 900 0 900 (by omega) (by omega) h9 (by omega)
  · rw [nI_leI (by omega) (by omega)] at hx
    have h9 : ¬ lof (bn t f s c) r ≤ 900 := by
      intro q
      have h5 := he.2.2 q
      have h4 := bn_mono hb.1 (f := f) (s := s) (c := c) (i := lof (bn t f s c) r) (j := 900) (by omega) hb.2.1 hc q (by omega)
      omega
    exact ⟨by rw [valE, if_neg h9], rfl⟩
