/-! ===== ray, map, bow, dark ===== -/
set_option maxHeartbeats 4000000 in
set_option maxRecDepth 100000 in
theorem p_ray {h : zH} (hi : Inv h) (a b c d : Int32) : Pair R_X7_ray R_X8_ray [.int a, .int b, .int c, .int d] h := by
  obtain ⟨t, f, sh, sk, n, w, hs⟩ := hi.1
  by_cases hv : (0 ≤ a ∧ a ≤ 5) ∧ (0 ≤ b ∧ b ≤ 3) ∧ (0 ≤ c ∧ c ≤ 900) ∧ (0 ≤ d ∧ d ≤ 4)
  · obtain ⟨k, hk1, rfl⟩ := in_n (b := 5) (by omega) hv.1.1 hv.1.2
    obtain ⟨u, hu1, rfl⟩ := in_n (b := 3) (by omega) hv.2.1.1 hv.2.1.2
    obtain ⟨i, hi1, rfl⟩ := in_n (b := 900) (by omega) hv.2.2.1.1 hv.2.2.1.2
    obtain ⟨q, hq1, rfl⟩ := in_n (b := 4) (by omega) hv.2.2.2.1 hv.2.2.2.2
    have eq : (nI q).toInt = (q : Int) := nI_toInt (by omega)
    have hl := liN_le hi1
    have ho := ouN_le (k := k) hs.dc.2.1 hi1
    rcases (by omega : q = 0 ∨ q = 1 ∨ q = 2 ∨ q = 3 ∨ q = 4) with e | e | e | e | e
    · subst e
      refine ⟨.int (tuV t f (h.1 3 1) k u i), h, h, r_X7_ray _ _ _ _ _ _ _ ⟨_, rfl⟩ (t_X7_ray_0 _ _ _ _ _ _ (gd_isMirrors (fun z => absurd hv.1 z) (fun _ _ => gd_isColour (fun z => absurd hv.2.1 z) (fun _ _ => gd_isRight (fun z => absurd hv.2.2.1 z) (fun _ _ => gd' (fun _ _ => ?_) (fun z => absurd hv.2.2.2 z)))))), r_X8_ray _ _ _ _ _ _ _ ⟨_, rfl⟩ (t_X8_ray_0 _ _ _ _ _ _ (ge (fun z => absurd hv.1 z) (fun _ _ => ge (fun z => absurd hv.2.1 z) (fun _ _ => ge (fun z => absurd hv.2.2.1 z) (fun _ _ => ge' (fun _ _ => ?_) (fun z => absurd hv.2.2.2 z)))))), hi⟩
      · rw [eq]; exact ⟨fun z => absurd z (by omega), fun z => ⟨_, _, c_dturn hs.dc hu1 hi1, rfl, rfl⟩, fun z => absurd z (by omega), fun z => absurd z (by omega), fun z => absurd z (by omega), trivial⟩
      · rw [eq]; exact ⟨fun z => absurd z (by omega), fun z => ⟨_, _, m_dturn hs.dm hu1 hi1, rfl, rfl⟩, fun z => absurd z (by omega), fun z => absurd z (by omega), fun z => absurd z (by omega), trivial⟩
    · subst e
      refine ⟨.int (nI (fsN (tuV t f (h.1 3 1) k u i))), h, h, r_X7_ray _ _ _ _ _ _ _ ⟨_, rfl⟩ (t_X7_ray_0 _ _ _ _ _ _ (gd_isMirrors (fun z => absurd hv.1 z) (fun _ _ => gd_isColour (fun z => absurd hv.2.1 z) (fun _ _ => gd_isRight (fun z => absurd hv.2.2.1 z) (fun _ _ => gd' (fun _ _ => ?_) (fun z => absurd hv.2.2.2 z)))))), r_X8_ray _ _ _ _ _ _ _ ⟨_, rfl⟩ (t_X8_ray_0 _ _ _ _ _ _ (ge (fun z => absurd hv.1 z) (fun _ _ => ge (fun z => absurd hv.2.1 z) (fun _ _ => ge (fun z => absurd hv.2.2.1 z) (fun _ _ => ge' (fun _ _ => ?_) (fun z => absurd hv.2.2.2 z)))))), hi⟩
      · rw [eq]; exact ⟨fun z => absurd z (by omega), fun z => absurd z (by omega), fun z => ⟨_, _, c_fromSun hs.dc hu1 hi1, rfl, rfl⟩, fun z => absurd z (by omega), fun z => absurd z (by omega), trivial⟩
      · rw [eq]; exact ⟨fun z => absurd z (by omega), fun z => absurd z (by omega), fun z => ⟨_, _, m_from hs.dm hu1 hi1, rfl, rfl⟩, fun z => absurd z (by omega), fun z => absurd z (by omega), trivial⟩
    · subst e
      refine ⟨.int (nI (liN i)), h, h, r_X7_ray _ _ _ _ _ _ _ ⟨_, rfl⟩ (t_X7_ray_0 _ _ _ _ _ _ (gd_isMirrors (fun z => absurd hv.1 z) (fun _ _ => gd_isColour (fun z => absurd hv.2.1 z) (fun _ _ => gd_isRight (fun z => absurd hv.2.2.1 z) (fun _ _ => gd' (fun _ _ => ?_) (fun z => absurd hv.2.2.2 z)))))), r_X8_ray _ _ _ _ _ _ _ ⟨_, rfl⟩ (t_X8_ray_0 _ _ _ _ _ _ (ge (fun z => absurd hv.1 z) (fun _ _ => ge (fun z => absurd hv.2.1 z) (fun _ _ => ge (fun z => absurd hv.2.2.1 z) (fun _ _ => ge' (fun _ _ => ?_) (fun z => absurd hv.2.2.2 z)))))), hi⟩
      · rw [eq]; exact ⟨fun z => absurd z (by omega), fun z => absurd z (by omega), fun z => absurd z (by omega), fun z => ⟨_, _, c_lightIn hi1, rfl, rfl⟩, fun z => absurd z (by omega), trivial⟩
      · rw [eq]; exact ⟨fun z => absurd z (by omega), fun z => absurd z (by omega), fun z => absurd z (by omega), fun z => ⟨by rw [li_val hi1], rfl⟩, fun z => absurd z (by omega), trivial⟩
    · subst e
      refine ⟨.int (nI (ouN sh k i)), h, h, r_X7_ray _ _ _ _ _ _ _ ⟨_, rfl⟩ (t_X7_ray_0 _ _ _ _ _ _ (gd_isMirrors (fun z => absurd hv.1 z) (fun _ _ => gd_isColour (fun z => absurd hv.2.1 z) (fun _ _ => gd_isRight (fun z => absurd hv.2.2.1 z) (fun _ _ => gd' (fun _ _ => ?_) (fun z => absurd hv.2.2.2 z)))))), r_X8_ray _ _ _ _ _ _ _ ⟨_, rfl⟩ (t_X8_ray_0 _ _ _ _ _ _ (ge (fun z => absurd hv.1 z) (fun _ _ => ge (fun z => absurd hv.2.1 z) (fun _ _ => ge (fun z => absurd hv.2.2.1 z) (fun _ _ => ge' (fun _ _ => ?_) (fun z => absurd hv.2.2.2 z)))))), hi⟩
      · rw [eq]; exact ⟨fun z => absurd z (by omega), fun z => absurd z (by omega), fun z => absurd z (by omega), fun z => absurd z (by omega), fun z => ⟨_, _, c_lightOut hs.dc hk1 hi1, rfl, rfl⟩, trivial⟩
      · rw [eq]; exact ⟨fun z => absurd z (by omega), fun z => absurd z (by omega), fun z => absurd z (by omega), fun z => absurd z (by omega), fun z => ⟨_, _, m_out hs.dm hk1 hi1, rfl, rfl⟩, trivial⟩
    · subst e
      refine ⟨.int (nI (liN i) - nI (ouN sh k i)), h, h, r_X7_ray _ _ _ _ _ _ _ ⟨_, rfl⟩ (t_X7_ray_0 _ _ _ _ _ _ (gd_isMirrors (fun z => absurd hv.1 z) (fun _ _ => gd_isColour (fun z => absurd hv.2.1 z) (fun _ _ => gd_isRight (fun z => absurd hv.2.2.1 z) (fun _ _ => gd' (fun _ _ => ?_) (fun z => absurd hv.2.2.2 z)))))), r_X8_ray _ _ _ _ _ _ _ ⟨_, rfl⟩ (t_X8_ray_0 _ _ _ _ _ _ (ge (fun z => absurd hv.1 z) (fun _ _ => ge (fun z => absurd hv.2.1 z) (fun _ _ => ge (fun z => absurd hv.2.2.1 z) (fun _ _ => ge' (fun _ _ => ?_) (fun z => absurd hv.2.2.2 z)))))), hi⟩
      · rw [eq]; exact ⟨fun _ => ⟨_, _, c_lightIn hi1, _, _, c_lightOut hs.dc hk1 hi1, rfl, rfl⟩, fun z => absurd z (by omega), fun z => absurd z (by omega), fun z => absurd z (by omega), fun z => absurd z (by omega), trivial⟩
      · rw [eq]; exact ⟨fun _ => ⟨_, _, m_out hs.dm hk1 hi1, by rw [li_val hi1], rfl⟩, fun z => absurd z (by omega), fun z => absurd z (by omega), fun z => absurd z (by omega), fun z => absurd z (by omega), trivial⟩
  · exact ⟨.int (-100000), h, h, r_X7_ray _ _ _ _ _ _ _ ⟨_, rfl⟩ (t_X7_ray_0 _ _ _ _ _ _ (gd_isMirrors (fun _ => ⟨rfl, rfl⟩) (fun u0 w0 => gd_isColour (fun _ => ⟨rfl, rfl⟩) (fun u1 w1 => gd_isRight (fun _ => ⟨rfl, rfl⟩) (fun u2 w2 => gd' (fun u3 w3 => absurd ⟨⟨u0, w0⟩, ⟨u1, w1⟩, ⟨u2, w2⟩, u3, w3⟩ hv) (fun _ => ⟨rfl, rfl⟩)))))), r_X8_ray _ _ _ _ _ _ _ ⟨_, rfl⟩ (t_X8_ray_0 _ _ _ _ _ _ (ge (fun _ => ⟨rfl, rfl⟩) (fun u0 w0 => ge (fun _ => ⟨rfl, rfl⟩) (fun u1 w1 => ge (fun _ => ⟨rfl, rfl⟩) (fun u2 w2 => ge' (fun u3 w3 => absurd ⟨⟨u0, w0⟩, ⟨u1, w1⟩, ⟨u2, w2⟩, u3, w3⟩ hv) (fun _ => ⟨rfl, rfl⟩)))))), hi⟩
set_option maxHeartbeats 4000000 in
set_option maxRecDepth 100000 in
theorem p_map {h : zH} (hi : Inv h) (a b c : Int32) : Pair R_X7_map R_X8_map [.int a, .int b, .int c] h := by
  obtain ⟨t, f, sh, sk, n, w, hs⟩ := hi.1
  by_cases hv : (0 ≤ a ∧ a ≤ 5) ∧ (0 ≤ b ∧ b ≤ 3) ∧ (0 ≤ c ∧ c ≤ 180)
  · obtain ⟨k, hk1, rfl⟩ := in_n (b := 5) (by omega) hv.1.1 hv.1.2
    obtain ⟨u, hu1, rfl⟩ := in_n (b := 3) (by omega) hv.2.1.1 hv.2.1.2
    obtain ⟨d, hd1, rfl⟩ := in_n (b := 180) (by omega) hv.2.2.1 hv.2.2.2
    obtain ⟨h1, r1, f1, s1⟩ := c_fillSkya hs.dc hk1 hu1
    obtain ⟨h2, r2, f2, s2⟩ := m_layMap (hs.dm.of f1.1) hk1 hu1
    have vp : vp_in (nI d) 181 := vp_in_nI (by omega) (by omega)
    have cd : (nI d).toNatClampNeg = d := nI_clamp (by omega)
    refine ⟨.long (lN (skN t f sh (h.1 3 1) k u 181 d)), h1, h2, r_X7_map _ _ _ _ _ _ ⟨_, rfl⟩ (t_X7_map_0 _ _ _ _ _ (gd_isMirrors (fun z => absurd hv.1 z) (fun _ _ => gd_isColour (fun z => absurd hv.2.1 z) (fun _ _ => gd' (fun _ _ => ⟨_, r1, ?_⟩) (fun z => absurd hv.2.2 z))))), r_X8_map _ _ _ _ _ _ ⟨_, rfl⟩ (t_X8_map_0 _ _ _ _ _ (ge (fun z => absurd hv.1 z) (fun _ _ => ge (fun z => absurd hv.2.1 z) (fun _ _ => ge' (fun _ _ => ⟨_, r2, ?_⟩) (fun z => absurd hv.2.2 z))))), hi.of (f2.1.trans f1.1)⟩
    · rw [cd, s1 d (by omega)]; exact ⟨vp, rfl, rfl⟩
    · rw [cd, s2 d (by omega)]; exact ⟨vp, rfl, rfl⟩
  · exact ⟨.long (-1), h, h, r_X7_map _ _ _ _ _ _ ⟨_, rfl⟩ (t_X7_map_0 _ _ _ _ _ (gd_isMirrors (fun _ => ⟨rfl, rfl⟩) (fun u0 w0 => gd_isColour (fun _ => ⟨rfl, rfl⟩) (fun u1 w1 => gd' (fun u2 w2 => absurd ⟨⟨u0, w0⟩, ⟨u1, w1⟩, u2, w2⟩ hv) (fun _ => ⟨rfl, rfl⟩))))), r_X8_map _ _ _ _ _ _ ⟨_, rfl⟩ (t_X8_map_0 _ _ _ _ _ (ge (fun _ => ⟨rfl, rfl⟩) (fun u0 w0 => ge (fun _ => ⟨rfl, rfl⟩) (fun u1 w1 => ge' (fun u2 w2 => absurd ⟨⟨u0, w0⟩, ⟨u1, w1⟩, u2, w2⟩ hv) (fun _ => ⟨rfl, rfl⟩))))), hi⟩
/-! how broad -/
def dnN (S : Nat → Nat) (b : Nat) : Nat → Nat
  | 0 => 0
  | x + 1 => if 2 * S x < S b then x + 1 else dnN S b x
def upN (S : Nat → Nat) (b : Nat) : Nat → Nat → Nat
  | 0, x => x
  | d + 1, x => if 2 * S (x + 1) < S b then x else upN S b d (x + 1)
theorem dnN_le (S : Nat → Nat) (b : Nat) : ∀ x, dnN S b x ≤ x
  | 0 => Nat.le_refl _
  | x + 1 => by
    have := dnN_le S b x
    unfold dnN
    split <;> omega
theorem upN_ge (S : Nat → Nat) (b : Nat) : ∀ d x, x ≤ upN S b d x ∧ upN S b d x ≤ x + d
  | 0, x => by simp [upN]
  | d + 1, x => by
    have := upN_ge S b d (x + 1)
    unfold upN
    split <;> omega
def brV (S : Nat → Nat) (b : Nat) : Int32 := nI (upN S b (180 - b) b - dnN S b b + 1)
theorem l2 (a : Nat) : (2 : Int64) * lN a = lN (2 * a) := lN_mul 2 a
set_option maxHeartbeats 4000000 in
set_option maxRecDepth 100000 in
theorem c_broad_l {h : zH} {S : Nat → Nat} (hS : ∀ d, d < 181 → S d < 2 ^ 30 ∧ h.2 27 d = lN (S d)) {b : Nat} (hb : b < 181) : zG M_X3_broad (fun r1 h1 => r1 = some (.int (brV S b)) ∧ h1 = h) (zat M_X3_broad 2) [some (.ref 26), some (.ref 27), some (.int (nI b)), some (.int (nI b)), none] [] h := by
  have sb := hS b hb
  have up : ∀ (d x lo : Nat), x + d = 180 → lo ≤ b → b ≤ x → nI (upN S b d x - lo + 1) = brV S b → zG M_X3_broad (fun r1 h1 => r1 = some (.int (brV S b)) ∧ h1 = h) (zat M_X3_broad 31) [some (.ref 26), some (.ref 27), some (.int (nI b)), some (.int (nI lo)), some (.int (nI x))] [] h := by
    intro d
    induction d with
    | zero =>
      intro x lo hx hlo hbx he
      have : x = 180 := by omega
      subst this
      refine t_X3_broad_31  _ _ _ _ _ ⟨fun _ => ⟨?_, rfl⟩, fun z => absurd (by decide) z⟩
      rw [pk_sub (by omega), nI_1, ← he]; rfl
    | succ d ih =>
      intro x lo hx hlo hbx he
      have sx := hS (x + 1) (by omega)
      refine t_X3_broad_31  _ _ _ _ _ ⟨fun z => ?_, fun _ => ?_⟩
      · rw [q180, nI_leI (by omega) (by omega)] at z; omega
      rw [nI_1, nI_clamp (by omega), nI_clamp (by omega), sx.2, sb.2, l2, lg_cmp_lt, lN_lt (by omega) (by omega)]
      refine ⟨vp_in_nI (by omega) (by omega), vp_in_nI (by omega) (by omega), fun z => ⟨?_, rfl⟩, fun z => ih (x + 1) lo (by omega) hlo (by omega) ?_⟩
      · rw [← he, upN, if_pos z, pk_sub (by omega), nI_1]
      · rw [← he, upN, if_neg z]
  have down : ∀ x, x ≤ b → dnN S b x = dnN S b b → zG M_X3_broad (fun r1 h1 => r1 = some (.int (brV S b)) ∧ h1 = h) (zat M_X3_broad 2) [some (.ref 26), some (.ref 27), some (.int (nI b)), some (.int (nI x)), none] [] h := by
    intro x
    induction x with
    | zero =>
      intro hx he
      refine t_X3_broad_2  _ _ _ _ ⟨fun _ => up (180 - b) b 0 (by omega) (by omega) (by omega) (by rw [brV, ← he]; rfl), fun z => absurd (by decide) z⟩
    | succ x ih =>
      intro hx he
      have sx := hS x (by omega)
      refine t_X3_broad_2  _ _ _ _ ⟨fun z => ?_, fun _ => ?_⟩
      · rw [q0, nI_leI (by omega) (by omega)] at z; omega
      rw [nI_pred, pk_m1, nI_clamp (by omega), nI_clamp (by omega), sx.2, sb.2, l2, lg_cmp_lt, lN_lt (by omega) (by omega)]
      refine ⟨vp_in_nI (by omega) (by omega), vp_in_nI (by omega) (by omega), fun z => up (180 - b) b (x + 1) (by omega) (by omega) (by omega) ?_, fun z => ih (by omega) ?_⟩
      · rw [brV, ← he, dnN, if_pos z]
      · rw [← he, dnN, if_neg z]
  exact down b (Nat.le_refl _) rfl
theorem c_broad {h : zH} {S : Nat → Nat} (hS : ∀ d, d < 181 → S d < 2 ^ 30 ∧ h.2 27 d = lN (S d)) {b : Nat} (hb : b < 181) : R_X3_broad [.ref 26, .ref 27, .int (nI b)] h (some (.int (brV S b))) h := r_X3_broad _ _ _ _ ⟨_, rfl⟩ (t_X3_broad_0 _ _ _ (c_broad_l hS hb))
set_option maxHeartbeats 4000000 in
set_option maxRecDepth 100000 in
theorem m_broad_l {h : zH} {S : Nat → Nat} (hS : ∀ d, d < 181 → S d < 2 ^ 30 ∧ h.2 54 d = lN (S d)) {b : Nat} (hb : b < 181) (y1 y2 y3 y4 : Int32) : zG M_X8_bow (fun r1 h1 => r1 = some (.int (brV S b)) ∧ h1 = h) (zat M_X8_bow 116) [some (.ref 42), some (.int y1), some (.int y2), some (.int y3), some (.int y4), some (.int (nI b)), some (.int (nI b)), none] [] h := by
  have sb := hS b hb
  have up : ∀ (d x lo : Nat), x + d = 180 → lo ≤ b → b ≤ x → nI (upN S b d x - lo + 1) = brV S b → zG M_X8_bow (fun r1 h1 => r1 = some (.int (brV S b)) ∧ h1 = h) (zat M_X8_bow 155) [some (.ref 42), some (.int y1), some (.int y2), some (.int y3), some (.int y4), some (.int (nI b)), some (.int (nI lo)), some (.int (nI x))] [] h := by
    intro d
    induction d with
    | zero =>
      intro x lo hx hlo hbx he
      have : x = 180 := by omega
      subst this
      refine t_X8_bow_155 _ _ _ _ _ _ _ _ _ ⟨fun _ => ⟨?_, rfl⟩, fun z => absurd (by decide) z⟩
      rw [pk_sub (by omega), nI_1, ← he]; rfl
    | succ d ih =>
      intro x lo hx hlo hbx he
      have sx := hS (x + 1) (by omega)
      refine t_X8_bow_155 _ _ _ _ _ _ _ _ _ ⟨fun z => ?_, fun _ => ?_⟩
      · rw [q180, nI_leI (by omega) (by omega)] at z; omega
      rw [nI_1, nI_clamp (by omega), nI_clamp (by omega), sx.2, sb.2, l2, lg_cmp_lt, lN_lt (by omega) (by omega)]
      refine ⟨vp_in_nI (by omega) (by omega), vp_in_nI (by omega) (by omega), fun z => ⟨?_, rfl⟩, fun z => ih (x + 1) lo (by omega) hlo (by omega) ?_⟩
      · rw [← he, upN, if_pos z, pk_sub (by omega), nI_1]
      · rw [← he, upN, if_neg z]
  have down : ∀ x, x ≤ b → dnN S b x = dnN S b b → zG M_X8_bow (fun r1 h1 => r1 = some (.int (brV S b)) ∧ h1 = h) (zat M_X8_bow 116) [some (.ref 42), some (.int y1), some (.int y2), some (.int y3), some (.int y4), some (.int (nI b)), some (.int (nI x)), none] [] h := by
    intro x
    induction x with
    | zero =>
      intro hx he
      refine t_X8_bow_116 _ _ _ _ _ _ _ _ ⟨fun _ => up (180 - b) b 0 (by omega) (by omega) (by omega) (by rw [brV, ← he]; rfl), fun z => absurd (by decide) z⟩
    | succ x ih =>
      intro hx he
      have sx := hS x (by omega)
      refine t_X8_bow_116 _ _ _ _ _ _ _ _ ⟨fun z => ?_, fun _ => ?_⟩
      · rw [q0, nI_leI (by omega) (by omega)] at z; omega
      rw [nI_pred, pk_m1, nI_clamp (by omega), nI_clamp (by omega), sx.2, sb.2, l2, lg_cmp_lt, lN_lt (by omega) (by omega)]
      refine ⟨vp_in_nI (by omega) (by omega), vp_in_nI (by omega) (by omega), fun z => up (180 - b) b (x + 1) (by omega) (by omega) (by omega) ?_, fun z => ih (by omega) ?_⟩
      · rw [brV, ← he, dnN, if_pos z]
      · rw [← he, dnN, if_neg z]
  exact down b (Nat.le_refl _) rfl
theorem skN_30 {t : Nat → Nat} {f sh : Nat} {sq : Int32} (hs : sh ≤ 100) (k c d : Nat) : skN t f sh sq k c 181 d < 2 ^ 30 := by
  have := skN_le (t := t) (f := f) (sq := sq) hs (k := k) (c := c) 181 (by omega) d
  omega
theorem bwV_cases (S : Nat → Nat) : (bwV S = -4) ∨ (0 < S (agN S 181) ∧ bwV S = nI (agN S 181)) := by
  unfold bwV
  split
  · next h => exact Or.inr ⟨h, rfl⟩
  · exact Or.inl rfl
theorem nI_n4 {a : Nat} (h : a < 2 ^ 31) : ¬ nI a = -4 := by
  intro z
  have z2 := congrArg Int32.toInt z
  rw [nI_toInt h] at z2
  have : (-4 : Int32).toInt = -4 := rfl
  omega
set_option maxHeartbeats 4000000 in
set_option maxRecDepth 100000 in
theorem p_bow {h : zH} (hi : Inv h) (a b c d : Int32) : Pair R_X7_bow R_X8_bow [.int a, .int b, .int c, .int d] h := by
  obtain ⟨t, f, sh, sk, n, w, hs⟩ := hi.1
  by_cases hv : (0 ≤ a ∧ a ≤ 5) ∧ (0 ≤ b ∧ b ≤ 3) ∧ (0 ≤ c ∧ c ≤ 900) ∧ (0 ≤ d ∧ d ≤ 2)
  · obtain ⟨k, hk1, rfl⟩ := in_n (b := 5) (by omega) hv.1.1 hv.1.2
    obtain ⟨u, hu1, rfl⟩ := in_n (b := 3) (by omega) hv.2.1.1 hv.2.1.2
    obtain ⟨q, hq1, rfl⟩ := in_n (b := 2) (by omega) hv.2.2.2.1 hv.2.2.2.2
    obtain ⟨h1, r1, f1, s1⟩ := c_fillSkya hs.dc hk1 hu1
    obtain ⟨h2, r2, f2, s2⟩ := m_layMap (hs.dm.of f1.1) hk1 hu1
    have hS1 : ∀ d, d < 181 → skN t f sh (h.1 3 1) k u 181 d < 2 ^ 30 ∧ h1.2 27 d = lN (skN t f sh (h.1 3 1) k u 181 d) := fun d hd => ⟨skN_30 hs.dc.2.1 k u d, s1 d hd⟩
    have hS2 : ∀ d, d < 181 → skN t f sh (h.1 3 1) k u 181 d < 2 ^ 30 ∧ h2.2 54 d = lN (skN t f sh (h.1 3 1) k u 181 d) := fun d hd => ⟨skN_30 hs.dc.2.1 k u d, s2 d hd⟩
    have cB := c_brightesta (h := h1) (S := skN t f sh (h.1 3 1) k u 181) (fun d hd => ⟨by have := (hS1 d hd).1; omega, (hS1 d hd).2⟩)
    have mB := m_bowOf (h := h2) (S := skN t f sh (h.1 3 1) k u 181) (fun d hd => ⟨by have := (hS2 d hd).1; omega, (hS2 d hd).2⟩)
    have hI : Inv h2 := hi.of (f2.1.trans f1.1)
    have ha := agN_lt (skN t f sh (h.1 3 1) k u 181) 181 (by omega)
    rcases bwV_cases (skN t f sh (h.1 3 1) k u 181) with e | ⟨e0, e⟩
    · rw [e] at cB mB
      rcases (by omega : q = 0 ∨ q = 1 ∨ q = 2) with rfl | rfl | rfl
      · exact ⟨.int (-4), h1, h2, r_X7_bow _ _ _ _ _ _ _ ⟨_, rfl⟩ (t_X7_bow_0 _ _ _ _ _ _ (gd_isMirrors (fun z => absurd hv.1 z) (fun _ _ => gd_isColour (fun z => absurd hv.2.1 z) (fun _ _ => gd_isRight (fun z => absurd hv.2.2.1 z) (fun _ _ => gd' (fun _ _ => ⟨_, r1, _, _, cB, fun _ => ⟨fun _ => ⟨rfl, rfl⟩, fun z => absurd rfl z⟩, fun z => absurd (by decide) z⟩) (fun z => absurd hv.2.2.2 z)))))), r_X8_bow _ _ _ _ _ _ _ ⟨_, rfl⟩ (t_X8_bow_0 _ _ _ _ _ _ (ge (fun z => absurd hv.1 z) (fun _ _ => ge (fun z => absurd hv.2.1 z) (fun _ _ => ge (fun z => absurd hv.2.2.1 z) (fun _ _ => ge' (fun _ _ => ⟨_, r2, _, _, mB, fun _ => ⟨fun _ => ⟨rfl, rfl⟩, fun z => absurd rfl z⟩, fun z => absurd (by decide) z⟩) (fun z => absurd hv.2.2.2 z)))))), hI⟩
      · exact ⟨.int (-4), h1, h2, r_X7_bow _ _ _ _ _ _ _ ⟨_, rfl⟩ (t_X7_bow_0 _ _ _ _ _ _ (gd_isMirrors (fun z => absurd hv.1 z) (fun _ _ => gd_isColour (fun z => absurd hv.2.1 z) (fun _ _ => gd_isRight (fun z => absurd hv.2.2.1 z) (fun _ _ => gd' (fun _ _ => ⟨_, r1, _, _, cB, fun _ => ⟨fun _ => ⟨rfl, rfl⟩, fun z => absurd rfl z⟩, fun z => absurd (by decide) z⟩) (fun z => absurd hv.2.2.2 z)))))), r_X8_bow _ _ _ _ _ _ _ ⟨_, rfl⟩ (t_X8_bow_0 _ _ _ _ _ _ (ge (fun z => absurd hv.1 z) (fun _ _ => ge (fun z => absurd hv.2.1 z) (fun _ _ => ge (fun z => absurd hv.2.2.1 z) (fun _ _ => ge' (fun _ _ => ⟨_, r2, _, _, mB, fun _ => ⟨fun _ => ⟨rfl, rfl⟩, fun z => absurd rfl z⟩, fun z => absurd (by decide) z⟩) (fun z => absurd hv.2.2.2 z)))))), hI⟩
      · exact ⟨.int (-100000), h1, h2, r_X7_bow _ _ _ _ _ _ _ ⟨_, rfl⟩ (t_X7_bow_0 _ _ _ _ _ _ (gd_isMirrors (fun z => absurd hv.1 z) (fun _ _ => gd_isColour (fun z => absurd hv.2.1 z) (fun _ _ => gd_isRight (fun z => absurd hv.2.2.1 z) (fun _ _ => gd' (fun _ _ => ⟨_, r1, _, _, cB, fun z => absurd rfl z, fun _ => ⟨fun _ => ⟨rfl, rfl⟩, fun z => absurd rfl z⟩⟩) (fun z => absurd hv.2.2.2 z)))))), r_X8_bow _ _ _ _ _ _ _ ⟨_, rfl⟩ (t_X8_bow_0 _ _ _ _ _ _ (ge (fun z => absurd hv.1 z) (fun _ _ => ge (fun z => absurd hv.2.1 z) (fun _ _ => ge (fun z => absurd hv.2.2.1 z) (fun _ _ => ge' (fun _ _ => ⟨_, r2, _, _, mB, fun z => absurd rfl z, fun _ => ⟨fun z => absurd rfl z, fun _ => ⟨fun z => absurd z (by decide), fun _ => ⟨rfl, rfl⟩⟩⟩⟩) (fun z => absurd hv.2.2.2 z)))))), hI⟩
    · rw [e] at cB mB
      have hne := nI_n4 (a := agN (skN t f sh (h.1 3 1) k u 181) 181) (by omega)
      rcases (by omega : q = 0 ∨ q = 1 ∨ q = 2) with rfl | rfl | rfl
      · exact ⟨.int (nI (agN (skN t f sh (h.1 3 1) k u 181) 181)), h1, h2, r_X7_bow _ _ _ _ _ _ _ ⟨_, rfl⟩ (t_X7_bow_0 _ _ _ _ _ _ (gd_isMirrors (fun z => absurd hv.1 z) (fun _ _ => gd_isColour (fun z => absurd hv.2.1 z) (fun _ _ => gd_isRight (fun z => absurd hv.2.2.1 z) (fun _ _ => gd' (fun _ _ => ⟨_, r1, _, _, cB, fun _ => ⟨fun z => absurd z hne, fun _ => ⟨fun z => absurd rfl z, fun _ => ⟨rfl, rfl⟩⟩⟩, fun z => absurd (by decide) z⟩) (fun z => absurd hv.2.2.2 z)))))), r_X8_bow _ _ _ _ _ _ _ ⟨_, rfl⟩ (t_X8_bow_0 _ _ _ _ _ _ (ge (fun z => absurd hv.1 z) (fun _ _ => ge (fun z => absurd hv.2.1 z) (fun _ _ => ge (fun z => absurd hv.2.2.1 z) (fun _ _ => ge' (fun _ _ => ⟨_, r2, _, _, mB, fun _ => ⟨fun z => absurd z hne, fun _ => ⟨fun z => absurd rfl z, fun _ => ⟨rfl, rfl⟩⟩⟩, fun z => absurd (by decide) z⟩) (fun z => absurd hv.2.2.2 z)))))), hI⟩
      · exact ⟨.int (brV (skN t f sh (h.1 3 1) k u 181) (agN (skN t f sh (h.1 3 1) k u 181) 181)), h1, h2, r_X7_bow _ _ _ _ _ _ _ ⟨_, rfl⟩ (t_X7_bow_0 _ _ _ _ _ _ (gd_isMirrors (fun z => absurd hv.1 z) (fun _ _ => gd_isColour (fun z => absurd hv.2.1 z) (fun _ _ => gd_isRight (fun z => absurd hv.2.2.1 z) (fun _ _ => gd' (fun _ _ => ⟨_, r1, _, _, cB, fun _ => ⟨fun z => absurd z hne, fun _ => ⟨fun _ => ⟨_, _, c_broad hS1 ha, rfl, rfl⟩, fun z => absurd (by decide) z⟩⟩, fun z => absurd (by decide) z⟩) (fun z => absurd hv.2.2.2 z)))))), r_X8_bow _ _ _ _ _ _ _ ⟨_, rfl⟩ (t_X8_bow_0 _ _ _ _ _ _ (ge (fun z => absurd hv.1 z) (fun _ _ => ge (fun z => absurd hv.2.1 z) (fun _ _ => ge (fun z => absurd hv.2.2.1 z) (fun _ _ => ge' (fun _ _ => ⟨_, r2, _, _, mB, fun _ => ⟨fun z => absurd z hne, fun _ => ⟨fun _ => m_broad_l hS2 ha _ _ _ _, fun z => absurd (by decide) z⟩⟩, fun z => absurd (by decide) z⟩) (fun z => absurd hv.2.2.2 z)))))), hI⟩
      · by_cases ht : 0 ≤ (1800 - (10 * nI (agN (skN t f sh (h.1 3 1) k u 181) 181))) - c
        · exact ⟨.int ((1800 - (10 * nI (agN (skN t f sh (h.1 3 1) k u 181) 181))) - c), h1, h2, r_X7_bow _ _ _ _ _ _ _ ⟨_, rfl⟩ (t_X7_bow_0 _ _ _ _ _ _ (gd_isMirrors (fun z => absurd hv.1 z) (fun _ _ => gd_isColour (fun z => absurd hv.2.1 z) (fun _ _ => gd_isRight (fun z => absurd hv.2.2.1 z) (fun _ _ => gd' (fun _ _ => ⟨_, r1, _, _, cB, fun z => absurd rfl z, fun _ => ⟨fun z => absurd z hne, fun _ => ⟨fun _ => ⟨rfl, rfl⟩, fun z => absurd ht z⟩⟩⟩) (fun z => absurd hv.2.2.2 z)))))), r_X8_bow _ _ _ _ _ _ _ ⟨_, rfl⟩ (t_X8_bow_0 _ _ _ _ _ _ (ge (fun z => absurd hv.1 z) (fun _ _ => ge (fun z => absurd hv.2.1 z) (fun _ _ => ge (fun z => absurd hv.2.2.1 z) (fun _ _ => ge' (fun _ _ => ⟨_, r2, _, _, mB, fun z => absurd rfl z, fun _ => ⟨fun _ => ⟨fun _ => ⟨rfl, rfl⟩, fun z => absurd ht z⟩, fun z => absurd hne z⟩⟩) (fun z => absurd hv.2.2.2 z)))))), hI⟩
        · exact ⟨.int (-100000), h1, h2, r_X7_bow _ _ _ _ _ _ _ ⟨_, rfl⟩ (t_X7_bow_0 _ _ _ _ _ _ (gd_isMirrors (fun z => absurd hv.1 z) (fun _ _ => gd_isColour (fun z => absurd hv.2.1 z) (fun _ _ => gd_isRight (fun z => absurd hv.2.2.1 z) (fun _ _ => gd' (fun _ _ => ⟨_, r1, _, _, cB, fun z => absurd rfl z, fun _ => ⟨fun z => absurd z hne, fun _ => ⟨fun z => absurd z ht, fun _ => ⟨rfl, rfl⟩⟩⟩⟩) (fun z => absurd hv.2.2.2 z)))))), r_X8_bow _ _ _ _ _ _ _ ⟨_, rfl⟩ (t_X8_bow_0 _ _ _ _ _ _ (ge (fun z => absurd hv.1 z) (fun _ _ => ge (fun z => absurd hv.2.1 z) (fun _ _ => ge (fun z => absurd hv.2.2.1 z) (fun _ _ => ge' (fun _ _ => ⟨_, r2, _, _, mB, fun z => absurd rfl z, fun _ => ⟨fun _ => ⟨fun z => absurd z ht, fun _ => ⟨rfl, rfl⟩⟩, fun z => absurd hne z⟩⟩) (fun z => absurd hv.2.2.2 z)))))), hI⟩
  · exact ⟨.int (-1000000), h, h, r_X7_bow _ _ _ _ _ _ _ ⟨_, rfl⟩ (t_X7_bow_0 _ _ _ _ _ _ (gd_isMirrors (fun _ => ⟨rfl, rfl⟩) (fun u0 w0 => gd_isColour (fun _ => ⟨rfl, rfl⟩) (fun u1 w1 => gd_isRight (fun _ => ⟨rfl, rfl⟩) (fun u2 w2 => gd' (fun u3 w3 => absurd ⟨⟨u0, w0⟩, ⟨u1, w1⟩, ⟨u2, w2⟩, u3, w3⟩ hv) (fun _ => ⟨rfl, rfl⟩)))))), r_X8_bow _ _ _ _ _ _ _ ⟨_, rfl⟩ (t_X8_bow_0 _ _ _ _ _ _ (ge (fun _ => ⟨rfl, rfl⟩) (fun u0 w0 => ge (fun _ => ⟨rfl, rfl⟩) (fun u1 w1 => ge (fun _ => ⟨rfl, rfl⟩) (fun u2 w2 => ge' (fun u3 w3 => absurd ⟨⟨u0, w0⟩, ⟨u1, w1⟩, ⟨u2, w2⟩, u3, w3⟩ hv) (fun _ => ⟨rfl, rfl⟩)))))), hi⟩
