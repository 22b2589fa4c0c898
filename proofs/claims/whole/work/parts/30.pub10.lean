/-! ===== the cut ===== -/
def spB (l : LT) (p : Nat) : Bool := decide (l.1 = 2) && (decide (l.2.1 = 1) && nearB l (nI (150 * p)) 75)
def spN (L : List LT) : Nat := bm (fun p => L.any (fun l => spB l p)) 12
noncomputable def spM (t n w : Nat → Nat) (sk : Nat) (sw : Int32) (hh c : Nat) : Nat := spN (LTS t n w sk sw c hh)
theorem bm_orp (a b : Nat → Bool) (n : Nat) : bm (fun p => a p || b p) n = bm a n ||| bm b n := by
  apply Nat.eq_of_testBit_eq
  intro i
  rw [Nat.testBit_or, bm_bit, bm_bit, bm_bit]
  cases decide (i < n) <;> simp
theorem spN_take {L : List LT} {j : Nat} {l : LT} (hj : L[j]? = some l) : spN (L.take (j + 1)) = spN (L.take j) ||| bm (spB l) 12 := by
  unfold spN
  rw [← bm_orp]
  apply bm_congr
  intro p _
  rw [List.take_add_one, hj, List.any_append]
  simp
theorem spN_0 : spN [] = 0 := by
  unfold spN
  apply Nat.eq_of_testBit_eq; intro i; rw [bm_bit]; simp
theorem spN_lt (L : List LT) : spN L < 2 ^ 12 := bm_lt _ _
theorem bm_false (n : Nat) : bm (fun _ => false) n = 0 := by
  apply Nat.eq_of_testBit_eq; intro i; rw [bm_bit]; simp
theorem bm_s (p : Nat → Bool) (n : Nat) : bm p (n + 1) = bm p n ||| (if p n then 2 ^ n else 0) := rfl
theorem c_placesNear {h : zH} {L : List LT} (hL : HasC h L) (hn : L.length ≤ 7) {j : Nat} {l : LT} (hj : L[j]? = some l) : R_X0_placesNear [.ref 35, .int (nI j)] h (some (.int (nI (bm (fun p => nearB l (nI (150 * p)) 75) 12)))) h := by
  refine r_X0_placesNear _ _ _ _ ⟨_, rfl⟩ (t_X0_placesNear_0 _ _ _ ?_)
  have key : ∀ (m i : Nat), i + m = 12 → zG M_X0_placesNear (fun r1 h1 => r1 = some (.int (nI (bm (fun p => nearB l (nI (150 * p)) 75) 12))) ∧ h1 = h) (zat M_X0_placesNear 4) [some (.ref 35), some (.int (nI j)), some (.int (nI (bm (fun p => nearB l (nI (150 * p)) 75) i))), some (.int (nI i))] [] h := by
    intro m
    induction m with
    | zero =>
      intro i hi
      have : i = 12 := by omega
      subst this
      exact t_X0_placesNear_4 _ _ _ _ _ ⟨fun _ => ⟨rfl, rfl⟩, fun z => absurd (nI_le (a := 12) (b := 12) (by omega) (by omega)) z⟩
    | succ m ih =>
      intro i hi
      have ih2 := ih (i + 1) (by omega)
      rw [bm_s _ i] at ih2
      have cn := c_isNear hL hn hj (nI (150 * i)) 75
      rw [← pk_mul, ← q150] at cn
      refine t_X0_placesNear_4 _ _ _ _ _ ⟨fun z => ?_, fun _ => ⟨_, _, cn, ?_⟩⟩
      · rw [q12, nI_leI (by omega) (by omega)] at z; omega
      rw [nI_1, n_shl (by omega), n_or, q150, pk_mul]
      refine ⟨fun z => ?_, fun z => ?_⟩
      · rw [if_neg (by rw [bI_0.mp z]; decide), Nat.or_zero] at ih2; exact ih2
      · have : nearB l (nI (150 * i)) 75 = true := by
          cases hb : nearB l (nI (150 * i)) 75 with
          | false => rw [hb] at z; exact absurd rfl z
          | true => rfl
        rw [if_pos this] at ih2; exact ih2
  exact key 12 0 (by omega)
section CU
variable {t n w : Nat → Nat} {f sk : Nat} {sw : Int32}
set_option maxHeartbeats 4000000 in
set_option maxRecDepth 100000 in
theorem c_placesMet {h : zH} (hb : CS h t f n w sk sw) (hr : RK h t n w) {c hh : Nat} (hc : c < 16) (hh9 : hh ≤ 900) : ∃ h', R_X0_placesMet [.ref 35, .int (nI c), .int (nI hh)] h (some (.int (nI (spM t n w sk sw hh c)))) h' ∧ Fr sI h h' ∧ RK h' t n w := by
  obtain ⟨h1, r1, hL, hf, hr1⟩ := c_lightUp hb hr hc hh9
  have hlen : (LTS t n w sk sw c hh).length ≤ 7 := LTS_len (hb.2.1.1 _ (by omega)).1
  refine ⟨h1, r_X0_placesMet _ _ _ _ _ ⟨_, rfl⟩ (t_X0_placesMet_0 _ _ _ _ ⟨_, r1, ?_⟩), hf, hr1⟩
  unfold spM
  generalize LTS t n w sk sw c hh = L at *
  have key : ∀ (m j : Nat), j + m = L.length → zG M_X0_placesMet (fun r1 h2 => r1 = some (.int (nI (spN L))) ∧ h2 = h1) (zat M_X0_placesMet 14) [some (.ref 35), some (.int (nI c)), some (.int (nI hh)), some (.int (nI (spN (L.take j)))), some (.int (nI j))] [] h1 := by
    intro m
    induction m with
    | zero =>
      intro j hj
      have : j = L.length := by omega
      subst this
      rw [List.take_length]
      refine t_X0_placesMet_14 _ _ _ _ _ _ ⟨fun _ => ⟨rfl, rfl⟩, fun z => absurd ?_ z⟩
      rw [hL.len]; exact nI_le (Nat.le_refl _) (by omega)
    | succ m ih =>
      intro j hj
      have hjl : L[j]? = some L[j] := List.getElem?_eq_getElem (by omega)
      obtain ⟨p0, p1, -, -⟩ := c_part hL hlen hjl
      have ih2 := ih (j + 1) (by omega)
      rw [spN_take hjl] at ih2
      have pn := c_placesNear hL hlen hjl
      refine t_X0_placesMet_14 _ _ _ _ _ _ ⟨fun z => ?_, fun _ => ⟨_, _, p0, ?_⟩⟩
      · rw [hL.len, nI_leI (by omega) (by omega)] at z; omega
      rw [nI_1]
      generalize L[j] = l at *
      refine ⟨fun z => ?_, fun z => ⟨_, _, p1, fun z2 => ?_, fun z2 => ⟨_, _, pn, ?_⟩⟩⟩
      · rw [bm_congr (p := spB l) (q := fun _ => false) (fun p _ => by simp [spB, z]), bm_false, Nat.or_zero] at ih2
        exact ih2
      · rw [bm_congr (p := spB l) (q := fun _ => false) (fun p _ => by simp [spB, z2]), bm_false, Nat.or_zero] at ih2
        exact ih2
      · rw [bm_congr (p := spB l) (q := fun p => nearB l (nI (150 * p)) 75) (fun p _ => by simp [spB, Classical.not_not.mp z, Classical.not_not.mp z2])] at ih2
        rw [n_or]; exact ih2
  have := key L.length 0 (by omega)
  rw [List.take_zero, spN_0] at this
  exact this
set_option maxHeartbeats 4000000 in
set_option maxRecDepth 100000 in
theorem m_spots {h : zH} (hb : MS h t f n w sk sw) (hr : RM h t n w) {c hh : Nat} (hc : c < 16) (hh9 : hh ≤ 900) : ∃ h', R_X8_spots [.ref 42, .int (nI c), .int (nI hh)] h (some (.int (nI (spM t n w sk sw hh c)))) h' ∧ Fr sM h h' := by
  obtain ⟨h1, r1, hL, hf⟩ := m_layLights hb hr hc hh9
  have hlen : (LTS t n w sk sw c hh).length ≤ 7 := LTS_len (hb.2.1.1 _ (by omega)).1
  refine ⟨h1, r_X8_spots _ _ _ _ _ ⟨_, rfl⟩ (t_X8_spots_0 _ _ _ _ ⟨_, r1, ?_⟩), hf⟩
  unfold spM
  generalize LTS t n w sk sw c hh = L at *
  have key : ∀ (m j : Nat), j + m = L.length → zG M_X8_spots (fun r1 h2 => r1 = some (.int (nI (spN L))) ∧ h2 = h1) (zat M_X8_spots 11) [some (.ref 42), some (.int (nI c)), some (.int (nI hh)), some (.int (nI (spN (L.take j)))), some (.int (nI j)), none, none] [] h1 := by
    intro m
    induction m with
    | zero =>
      intro j hj
      have : j = L.length := by omega
      subst this
      rw [List.take_length]
      refine t_X8_spots_11 _ _ _ _ _ _ ⟨fun _ => ⟨rfl, rfl⟩, fun z => absurd ?_ z⟩
      rw [hL.1]; exact nI_le (Nat.le_refl _) (by omega)
    | succ m ih =>
      intro j hj
      have hjl : L[j]? = some L[j] := List.getElem?_eq_getElem (by omega)
      obtain ⟨a0, a1, a2, a3⟩ := hL.2 j _ hjl
      have ih2 := ih (j + 1) (by omega)
      rw [spN_take hjl] at ih2
      refine t_X8_spots_11 _ _ _ _ _ _ ⟨fun z => ?_, fun _ => ?_⟩
      · rw [hL.1, nI_leI (by omega) (by omega)] at z; omega
      generalize L[j] = l at *
      have vj : vp_in (nI j) 8 := vp_in_nI (by omega) (by omega)
      have hjc : (nI j).toNatClampNeg = j := nI_clamp (by omega)
      have inner : ∀ (e p : Nat), p + e = 12 → zG M_X8_spots (fun r1 h2 => r1 = some (.int (nI (spN L))) ∧ h2 = h1) (zat M_X8_spots 23) [some (.ref 42), some (.int (nI c)), some (.int (nI hh)), some (.int (nI (spN (L.take j) ||| bm (spB l) p))), some (.int (nI j)), some (.int (nI p)), none] [] h1 := by
        intro e
        induction e with
        | zero =>
          intro p hp
          have : p = 12 := by omega
          subst this
          refine t_X8_spots_23 _ _ _ _ _ _ _ ⟨fun _ => ?_, fun z => absurd (nI_le (a := 12) (b := 12) (by omega) (by omega)) z⟩
          rw [nI_1]; exact ih2
        | succ e ih3 =>
          intro p hp
          have ih4 := ih3 (p + 1) (by omega)
          rw [bm_s] at ih4
          have hF : spB l p = false → zG M_X8_spots (fun r1 h2 => r1 = some (.int (nI (spN L))) ∧ h2 = h1) (zat M_X8_spots 23) [some (.ref 42), some (.int (nI c)), some (.int (nI hh)), some (.int (nI (spN (L.take j) ||| bm (spB l) p) ||| 0)), some (.int (nI j)), some (.int (nI p + 1)), none] [] h1 := fun hx => by
            rw [hx, if_neg (by decide), Nat.or_zero] at ih4
            rw [n_or0, nI_1]; exact ih4
          refine t_X8_spots_23 _ _ _ _ _ _ _ ⟨fun z => ?_, fun _ => ⟨vj, ?_⟩⟩
          · rw [q12, nI_leI (by omega) (by omega)] at z; omega
          rw [hjc, a0, a1, a2, a3]
          refine ⟨fun z => ⟨fun _ => hF (by simp [spB, z]), fun z0 => absurd rfl z0⟩, fun z => ⟨vj, fun z2 => ⟨fun _ => hF (by simp [spB, z2]), fun z0 => absurd rfl z0⟩, fun z2 => ⟨vj, ?_⟩⟩⟩
          have z := Classical.not_not.mp z
          have z2 := Classical.not_not.mp z2
          have e150 : (150 : Int32) * nI p = nI (150 * p) := by rw [q150, pk_mul]
          rw [e150]
          refine ⟨fun z3 => ⟨fun _ => hF (by simp [spB, nearB, z3]), fun z0 => absurd rfl z0⟩, fun z3 => ⟨vj, fun z4 => ⟨fun _ => hF (by simp [spB, nearB, z4]), fun z0 => absurd rfl z0⟩, fun z4 => ⟨fun z0 => absurd z0 (by decide), fun _ => ?_⟩⟩⟩
          rw [if_pos (by simp [spB, nearB, z, z2, z3, z4])] at ih4
          rw [n_shl (by omega), n_or, nI_1, Nat.or_assoc]
          exact ih4
      have := inner 12 0 (by omega)
      rw [show bm (spB l) 0 = 0 from rfl, Nat.or_zero] at this
      exact this
  have := key L.length 0 (by omega)
  rw [List.take_zero, spN_0] at this
  exact this
theorem sM_N : ∀ x y, sN x y = false → sM x y = false := by
  intro x y h
  simp only [sN, Bool.or_eq_false_iff, Bool.and_eq_false_iff, beq_eq_false_iff_ne] at h
  simp only [sM, Bool.or_eq_false_iff, Bool.and_eq_false_iff, beq_eq_false_iff_ne]; omega
theorem sG_N : ∀ x y, sN x y = false → sG x y = false := by
  intro x y h
  simp only [sN, Bool.or_eq_false_iff, Bool.and_eq_false_iff, beq_eq_false_iff_ne] at h
  simp only [sG, beq_eq_false_iff_ne]; omega
theorem sN_A : ∀ x y, sA x y = false → sN x y = false := by
  intro x y h
  simp only [sA, Bool.or_eq_false_iff] at h
  exact h.2
theorem s61_N : ∀ x y, sN x y = false → s61 x y = false := by
  intro x y h
  simp only [sN, Bool.or_eq_false_iff, Bool.and_eq_false_iff, beq_eq_false_iff_ne] at h
  simp only [s61, beq_eq_false_iff_ne]; omega
set_option maxHeartbeats 4000000 in
set_option maxRecDepth 100000 in
theorem m_laySpots {h : zH} (hb : MS h t f n w sk sw) {hh : Nat} (hh9 : hh ≤ 900) : ∃ h', R_X8_laySpots [.ref 42, .int (nI hh)] h none h' ∧ (∀ c, c < 16 → h'.1 61 c = nI (spM t n w sk sw hh c)) ∧ Fr sN h h' := by
  obtain ⟨h2, r2, k2, f2⟩ := m_layRings hb.1 hb.2.1
  have hb2 : MS h2 t f n w sk sw := hb.fr f2 (by rintro a j (rfl | rfl | rfl | ⟨rfl, -⟩) <;> rfl)
  have key : ∀ (d c : Nat) (h1 : zH), c + d = 16 → Fr sT h2 h1 → (∀ c', c' < c → h1.1 61 c' = nI (spM t n w sk sw hh c')) → ∃ h', zG M_X8_laySpots (fun r1 h2 => r1 = none ∧ h2 = h') (zat M_X8_laySpots 6) [some (.ref 42), some (.int (nI hh)), some (.int (nI c))] [] h1 ∧ (∀ c, c < 16 → h'.1 61 c = nI (spM t n w sk sw hh c)) ∧ Fr sT h2 h' := by
    intro d
    induction d with
    | zero =>
      intro c h1 hc hf hd
      have : c = 16 := by omega
      subst this
      exact ⟨h1, t_X8_laySpots_6 _ _ _ _ ⟨fun _ => ⟨rfl, rfl⟩, fun z => absurd (by decide) z⟩, hd, hf⟩
    | succ d ih =>
      intro c h1 hc hf hd
      have h16 : ¬ ((16 : Int32) ≤ nI c) := by rw [q16, nI_leI (by omega) (by omega)]; omega
      obtain ⟨h3, r3, f3⟩ := m_spots (hb2.fr hf sT_ms) (k2.fr hf (fun _ => rfl)) (c := c) (hh := hh) (by omega) hh9
      obtain ⟨h', g1, g2⟩ := ih (c + 1) (zsi h3 61 c (nI (spM t n w sk sw hh c))) (by omega) ((hf.tr (f3.wk sM_T)).si rfl) (fun c' hc' => by
        by_cases e : c' = c
        · rw [e, zr_eq]
        · rw [zr_nj e, f3 61 c' rfl]; exact hd c' (by omega))
      refine ⟨h', t_X8_laySpots_6 _ _ _ _ ⟨fun z => absurd z h16, fun _ => ⟨_, _, r3, vp_in_nI (by omega) (by omega), ?_⟩⟩, g2⟩
      rw [nI_clamp (by omega), nI_1]; exact g1
  obtain ⟨h', g1, g2, g3⟩ := key 16 0 h2 (by omega) Fr.rf (fun c' hc' => absurd hc' (by omega))
  refine ⟨h', r_X8_laySpots _ _ _ _ rfl (t_X8_laySpots_0 _ _ _ ⟨_, r2, g1⟩), g2, (f2.wk sG_N).tr (g3.wk ?_)⟩
  intro x y hx
  simp only [sT, Bool.or_eq_false_iff]
  exact ⟨s61_N x y hx, sM_N x y hx⟩
end CU
/-- what is told agrees with what is met -/
def okP (P : Nat → Int32) (met : Nat) : Nat → Bool
  | 0 => true
  | n + 1 => okP P met n && (decide (P n < 0) || decide (P n = (if met.testBit n then 1 else 0)))
theorem okP_iff (P : Nat → Int32) (met : Nat) : ∀ n, okP P met n = true ↔ ∀ p, p < n → P p < 0 ∨ P p = (if met.testBit p then 1 else 0)
  | 0 => ⟨fun _ p hp => absurd hp (by omega), fun _ => rfl⟩
  | n + 1 => by
    rw [okP, Bool.and_eq_true, Bool.or_eq_true, decide_eq_true_eq, decide_eq_true_eq, okP_iff P met n]
    constructor
    · intro ⟨a, b⟩ p hp
      by_cases e : p = n
      · subst e; exact b
      · exact a p (by omega)
    · intro a
      exact ⟨fun p hp => a p (by omega), a n (by omega)⟩
theorem okP_cg {P Q : Nat → Int32} {met : Nat} : ∀ {n : Nat}, (∀ p, p < n → P p = Q p) → okP P met n = okP Q met n
  | 0, _ => rfl
  | n + 1, h => by rw [okP, okP, okP_cg (n := n) (fun p hp => h p (by omega)), h n (by omega)]
theorem bm0_iff {p : Nat → Bool} {n : Nat} (a : Nat) (h : ∀ i, a.testBit i = (decide (i < n) && p i)) : a = 0 ↔ ∀ i, i < n → p i = false := by
  constructor
  · intro e i hi
    have := h i
    rw [e, decide_eq_true hi, Bool.true_and, Nat.zero_testBit] at this
    exact this.symm
  · intro q
    apply Nat.eq_of_testBit_eq
    intro i
    rw [h i, Nat.zero_testBit]
    by_cases hi : i < n
    · rw [q i hi, Bool.and_false]
    · rw [decide_eq_false hi, Bool.false_and]
theorem c_fits {h : zH} {P : Nat → Int32} (hP : ∀ p, p < 12 → P p = -1 ∨ P p = 0 ∨ P p = 1) {met : Nat} (hm : met < 65536) : R_X0_fits [.int (nI met), .int (nI (bm (fun p => decide (P p = 1)) 12)), .int (nI (bm (fun p => decide (P p = 0)) 12))] h (some (.int (bI (okP P met 12)))) h := by
  have b1 := bm_lt (fun p => decide (P p = 1)) 12
  have b2 := bm_lt (fun p => decide (P p = 0)) 12
  have l1 := an_lt (b := met) b1
  have l2 : bm (fun p => decide (P p = 0)) 12 &&& met ≤ bm (fun p => decide (P p = 0)) 12 := Nat.and_le_left
  have z1 := bm0_iff (p := fun p => decide (P p = 1) && !met.testBit p) (n := 12) (bm (fun p => decide (P p = 1)) 12 ^^^ (bm (fun p => decide (P p = 1)) 12 &&& met)) (fun i => by rw [an_bit, bm_bit, Bool.and_assoc])
  have z2 := bm0_iff (p := fun p => decide (P p = 0) && met.testBit p) (n := 12) (bm (fun p => decide (P p = 0)) 12 &&& met) (fun i => by rw [Nat.testBit_and, bm_bit, Bool.and_assoc])
  have e1 : (nI (bm (fun p => decide (P p = 1)) 12) &&& (nI met ^^^ (-1))) = 0 ↔ ∀ p, p < 12 → (decide (P p = 1) && !met.testBit p) = false := by
    rw [n_andnot, nI_z (by omega)]; exact z1
  have e2 : (nI (bm (fun p => decide (P p = 0)) 12) &&& nI met) = 0 ↔ ∀ p, p < 12 → (decide (P p = 0) && met.testBit p) = false := by
    rw [n_and, nI_z (by omega)]; exact z2
  have n10 : ¬ (1 : Int32) < 0 := by decide
  have n00 : ¬ (0 : Int32) < 0 := by decide
  refine r_X0_fits _ _ _ _ _ _ (by cases okP P met 12 <;> simp [bI]) (t_X0_fits_0 _ _ _ _ _ ⟨fun y => ⟨?_, rfl⟩, fun y => ⟨fun y2 => ⟨?_, rfl⟩, fun y2 => ⟨?_, rfl⟩⟩⟩)
  · rw [e1] at y
    have : ¬ okP P met 12 = true := fun q => y (fun p hp => by
      rcases (okP_iff P met 12).mp q p hp with a | a
      · have : ¬ P p = 1 := fun e => by rw [e] at a; exact n10 a
        simp [this]
      · cases hb : met.testBit p with
        | false => rw [hb] at a; simp [a]
        | true => simp)
    rw [Bool.not_eq_true] at this
    rw [this]; rfl
  · rw [e2] at y2
    have : ¬ okP P met 12 = true := fun q => y2 (fun p hp => by
      rcases (okP_iff P met 12).mp q p hp with a | a
      · have : ¬ P p = 0 := fun e => by rw [e] at a; exact n00 a
        simp [this]
      · cases hb : met.testBit p with
        | false => simp
        | true => rw [hb] at a; simp [a])
    rw [Bool.not_eq_true] at this
    rw [this]; rfl
  · have y := e1.mp (Classical.not_not.mp y)
    have y2 := e2.mp (Classical.not_not.mp y2)
    have : okP P met 12 = true := (okP_iff P met 12).mpr (fun p hp => by
      have a1 := y p hp
      have a2 := y2 p hp
      rcases hP p hp with a | a | a
      · exact .inl (by rw [a]; decide)
      · rw [a] at a2
        simp at a2
        rw [a, a2]; exact .inr rfl
      · rw [a] at a1
        simp at a1
        rw [a, a1]; exact .inr rfl)
    rw [this]; rfl
theorem m_isMade {h : zH} {P : Nat → Int32} (hP : ∀ p, p < 12 → h.1 50 p = P p) {met : Nat} (hm : met < 65536) : R_X8_isMade [.ref 42, .int (nI met)] h (some (.int (bI (okP P met 12)))) h := by
  refine r_X8_isMade _ _ _ _ (by cases okP P met 12 <;> simp [bI]) (t_X8_isMade_0 _ _ _ ?_)
  have bit : ∀ q, q < 16 → (nI met >>> (nI q &&& 31)) &&& 1 = (if met.testBit q then 1 else 0) := fun q hq => by
    by_cases hb : met.testBit q = true
    · rw [if_pos hb]; exact (n_bit (by omega) (by omega)).mpr hb
    · rw [if_neg hb]
      have h1 : ¬ (nI met >>> (nI q &&& 31)) &&& 1 = 1 := fun z => hb ((n_bit (by omega) (by omega)).mp z)
      rw [pk_shrN (by omega) (nI q &&& 31) q (sb_l q (by omega)), q1', n_and, Nat.and_one_is_mod] at h1 ⊢
      rw [nI_eq (by omega) (by omega)] at h1
      rw [q0']
      congr 1; omega
  have key : ∀ (m i : Nat), i + m = 12 → zG M_X8_isMade (fun r1 h1 => r1 = some (.int (bI (okP P met 12))) ∧ h1 = h) (zat M_X8_isMade 4) [some (.ref 42), some (.int (nI met)), some (.int (bI (okP P met i))), some (.int (nI i))] [] h := by
    intro m
    induction m with
    | zero =>
      intro i hi
      have : i = 12 := by omega
      subst this
      exact t_X8_isMade_4 _ _ _ _ _ ⟨fun _ => ⟨rfl, rfl⟩, fun z => absurd (nI_le (a := 12) (b := 12) (by omega) (by omega)) z⟩
    | succ m ih =>
      intro i hi
      have ih2 := ih (i + 1) (by omega)
      rw [show okP P met (i + 1) = (okP P met i && (decide (P i < 0) || decide (P i = (if met.testBit i then 1 else 0)))) from rfl] at ih2
      have vp : vp_in (nI i) 12 := vp_in_nI (by omega) (by omega)
      refine t_X8_isMade_4 _ _ _ _ _ ⟨fun z => ?_, fun _ => ?_⟩
      · rw [q12, nI_leI (by omega) (by omega)] at z; omega
      rw [nI_clamp (by omega), nI_1, bit i (by omega), hP i (by omega)]
      refine ⟨fun z => ?_, fun z => ⟨vp, fun z2 => ?_, fun z2 => ⟨vp, fun z3 => ?_, fun z3 => ?_⟩⟩⟩
      · rw [bI_0.mp z] at ih2; exact ih2
      · have : okP P met i = true := by cases hb : okP P met i <;> simp_all [bI]
        rw [this, decide_eq_true z2] at ih2; exact ih2
      · rw [decide_eq_false z2, decide_eq_false z3, Bool.or_false, Bool.and_false] at ih2; exact ih2
      · have : okP P met i = true := by cases hb : okP P met i <;> simp_all [bI]
        rw [this, decide_eq_true (Classical.not_not.mp z3), Bool.or_true] at ih2; exact ih2
  exact key 12 0 (by omega)
theorem sp_lt (t n w : Nat → Nat) (sk : Nat) (sw : Int32) (hh c : Nat) : spM t n w sk sw hh c < 2 ^ 12 := spN_lt _
section CV
variable {t n w : Nat → Nat} {f sk : Nat} {sw : Int32}
set_option maxHeartbeats 4000000 in
set_option maxRecDepth 100000 in
theorem c_isMade {h : zH} (hb : CS h t f n w sk sw) (hr : RK h t n w) (hP : ∀ p, p < 12 → h.1 36 p = -1 ∨ h.1 36 p = 0 ∨ h.1 36 p = 1) {S hh : Nat} (hS : S < 65536) (hh9 : hh ≤ 900) : ∃ h', R_X0_isMade [.ref 35, .int (nI S), .int (nI hh)] h (some (.int (bI (okP (h.1 36) (unM S (spM t n w sk sw hh) 16) 12)))) h' ∧ Fr sI h h' ∧ RK h' t n w := by
  have key : ∀ (d c : Nat) (h1 : zH), c + d = 16 → Fr sI h h1 → RK h1 t n w → ∃ h', zG M_X0_isMade (fun r1 h2 => r1 = some (.int (bI (okP (h.1 36) (unM S (spM t n w sk sw hh) 16) 12))) ∧ h2 = h') (zat M_X0_isMade 5) [some (.ref 35), some (.int (nI S)), some (.int (nI hh)), some (.int (nI (unM S (spM t n w sk sw hh) c))), some (.int (nI c))] [] h1 ∧ Fr sI h h' ∧ RK h' t n w := by
    intro d
    induction d with
    | zero =>
      intro c h1 hc hf hr1
      have : c = 16 := by omega
      subst this
      have e36 : h1.1 36 = h.1 36 := funext (fun p => hf 36 p rfl)
      have hl : unM S (spM t n w sk sw hh) 16 < 2 ^ 12 := unM_lt (fun c => sp_lt t n w sk sw hh c) 16
      have ft := c_fits (h := h1) (P := h.1 36) hP (met := unM S (spM t n w sk sw hh) 16) (by omega)
      have p1 := c_placesTold (h := h1) 1
      have p0 := c_placesTold (h := h1) 0
      rw [e36] at p1 p0
      exact ⟨h1, t_X0_isMade_5 _ _ _ _ _ _ ⟨fun _ => ⟨_, _, p1, _, _, p0, _, _, ft, rfl, rfl⟩, fun z => absurd (by decide) z⟩, hf, hr1⟩
    | succ d ih =>
      intro c h1 hc hf hr1
      have h16 : ¬ ((16 : Int32) ≤ nI c) := by rw [q16, nI_leI (by omega) (by omega)]; omega
      by_cases hx : S.testBit c = true
      · obtain ⟨h3, r3, f3, k3⟩ := c_placesMet (hb.fr hf sI_cs) hr1 (c := c) (hh := hh) (by omega) hh9
        obtain ⟨h', g1, g2⟩ := ih (c + 1) h3 (by omega) (hf.tr f3) k3
        rw [unM_s S _ c, if_pos hx] at g1
        refine ⟨h', t_X0_isMade_5 _ _ _ _ _ _ ⟨fun z => absurd z h16, fun _ => ?_⟩, g2⟩
        rw [n_bit (by omega) (by omega)]
        refine ⟨fun z => absurd hx z, fun _ => ⟨_, _, r3, ?_⟩⟩
        rw [n_or, nI_1]; exact g1
      · obtain ⟨h', g1, g2⟩ := ih (c + 1) h1 (by omega) hf hr1
        rw [unM_s S _ c, if_neg hx] at g1
        refine ⟨h', t_X0_isMade_5 _ _ _ _ _ _ ⟨fun z => absurd z h16, fun _ => ?_⟩, g2⟩
        rw [n_bit (by omega) (by omega)]
        refine ⟨fun _ => ?_, fun z => absurd hx z⟩
        rw [nI_1]; exact g1
  obtain ⟨h', g1, g2⟩ := key 16 0 h (by omega) Fr.rf hr
  exact ⟨h', r_X0_isMade _ _ _ _ _ (by cases okP (h.1 36) (unM S (spM t n w sk sw hh) 16) 12 <;> simp [bI]) (t_X0_isMade_0 _ _ _ _ g1), g2⟩
/-- the answer that maker asks for -/
def isMkr (Q : Nat → Bool) (r : Int32) : Prop := (r = -4 ∧ ∀ S, 1 ≤ S → S < 65536 → pop S ≤ 2 → Q S = false) ∨ ∃ S, 1 ≤ S ∧ S < 65536 ∧ pop S ≤ 2 ∧ Q S = true ∧ r = nI S ∧ ∀ T, 1 ≤ T → T < S → pop T ≤ 2 → Q T = false
theorem isMkr_u {Q : Nat → Bool} {r r' : Int32} (h1 : isMkr Q r) (h2 : isMkr Q r') : r = r' := by
  rcases h1 with ⟨a1, a2⟩ | ⟨S, s1, s2, s3, s4, s5, s6⟩
  · rcases h2 with ⟨b1, -⟩ | ⟨T, t1, t2, t3, t4, -⟩
    · rw [a1, b1]
    · rw [a2 T t1 t2 t3] at t4; cases t4
  · rcases h2 with ⟨b1, b2⟩ | ⟨T, t1, t2, t3, t4, t5, t6⟩
    · rw [b2 S s1 s2 s3] at s4; cases s4
    · rcases Nat.lt_trichotomy S T with q | q | q
      · rw [t6 S s1 q s3] at s4; cases s4
      · rw [s5, t5, q]
      · rw [s6 T t1 q t3] at t4; cases t4
theorem pop_pos {S : Nat} (h : S < 65536) (h0 : S ≠ 0) : 1 ≤ pop S := by have := pop_k h h0; omega
theorem or_add {a b : Nat} (h : a < b) : 2 ^ b ||| 2 ^ a = 2 ^ a + 2 ^ b := by
  have hl : 2 ^ a < 2 ^ b := Nat.pow_lt_pow_right (by omega) h
  apply Nat.eq_of_testBit_eq
  intro i
  rw [tb_add hl, Nat.testBit_or, Bool.or_comm]
  congr 1
  by_cases e : i = b
  · subst e; simp [Nat.testBit_two_pow_self]
  · rw [decide_eq_false e]; exact Nat.testBit_two_pow_of_ne (Ne.symm e)
def s37 (a _b : Nat) : Bool := a == 37
def sV (a b : Nat) : Bool := a == 37 || sI a b
theorem sI_V : ∀ x y, sV x y = false → sI x y = false := by intro x y h; simp [sV] at h; exact h.2
theorem sV_A : ∀ x y, sA x y = false → sV x y = false := by
  intro x y h
  simp only [sA, sK, sN, Bool.or_eq_false_iff, Bool.and_eq_false_iff, beq_eq_false_iff_ne] at h
  simp only [sV, sI, sL, Bool.or_eq_false_iff, beq_eq_false_iff_ne]; omega
theorem RK.si37 {h : zH} {k : Nat} {x : Int32} (hr : RK h t n w) : RK (zsi h 37 k x) t n w := fun a ha i hi => by rw [zr_ne (by omega)]; exact hr a ha i hi
set_option maxHeartbeats 4000000 in
set_option maxRecDepth 100000 in
theorem c_firstMaker {h : zH} (hb : CS h t f n w sk sw) (hr : RK h t n w) (hP : ∀ p, p < 12 → h.1 36 p = -1 ∨ h.1 36 p = 0 ∨ h.1 36 p = 1) {hh : Nat} (hh9 : hh ≤ 900) : ∃ r h', R_X0_firstMaker [.ref 35, .int (nI hh)] h (some (.int r)) h' ∧ isMkr (fun S => okP (h.1 36) (unM S (spM t n w sk sw hh) 16) 12) r ∧ Fr sV h h' ∧ RK h' t n w := by
  have hcs : ∀ h1, Fr sV h h1 → CS h1 t f n w sk sw := fun h1 hf => hb.fr hf (by rintro a j (rfl | rfl | rfl | rfl) <;> rfl)
  have hone : ∀ c, c < 16 → unM (2 ^ c) (spM t n w sk sw hh) 16 = spM t n w sk sw hh c := fun c hc => by
    have := unM_add (S := 0) (c := c) (spM t n w sk sw hh) (Nat.pow_pos (by omega)) hc
    rw [Nat.zero_add, show unM 0 (spM t n w sk sw hh) 16 = 0 from unM_hi (c := 0) _ (by omega) 16, Nat.zero_or] at this
    exact this
  have htwo : ∀ lo hi, lo < hi → hi < 16 → unM (2 ^ lo + 2 ^ hi) (spM t n w sk sw hh) 16 = spM t n w sk sw hh hi ||| spM t n w sk sw hh lo := fun lo hi hl hh16 => by
    rw [unM_add _ (Nat.pow_lt_pow_right (by omega) hl) hh16, hone lo (by omega), Nat.or_comm]
  have l2 : ∀ (d hi : Nat) (h1 : zH), hi + d = 16 → Fr sV h h1 → RK h1 t n w → (∀ c, c < hi → h1.1 37 c = nI (spM t n w sk sw hh c)) → (∀ T, 1 ≤ T → T < 2 ^ hi → pop T ≤ 2 → okP (h.1 36) (unM T (spM t n w sk sw hh) 16) 12 = false) → ∃ r h', zG M_X0_firstMaker (fun r1 h2 => r1 = some (.int r) ∧ h2 = h') (zat M_X0_firstMaker 15) [some (.ref 35), some (.int (nI hh)), some (.int (nI (bm (fun p => decide (h.1 36 p = 1)) 12))), some (.int (nI (bm (fun p => decide (h.1 36 p = 0)) 12))), some (.int (nI hi)), none] [] h1 ∧ isMkr (fun S => okP (h.1 36) (unM S (spM t n w sk sw hh) 16) 12) r ∧ Fr sV h h' ∧ RK h' t n w := by
    intro d
    induction d with
    | zero =>
      intro hi h1 hd hf hr1 hv hq
      have : hi = 16 := by omega
      subst this
      exact ⟨-4, h1, t_X0_firstMaker_15 _ _ _ _ _ _ ⟨fun _ => ⟨rfl, rfl⟩, fun z => absurd (by decide) z⟩, .inl ⟨rfl, hq⟩, hf, hr1⟩
    | succ d ih =>
      intro hi h1 hd hf hr1 hv hq
      have h16 : ¬ ((16 : Int32) ≤ nI hi) := by rw [q16, nI_leI (by omega) (by omega)]; omega
      have vh : vp_in (nI hi) 16 := vp_in_nI (by omega) (by omega)
      have hcl : (nI hi).toNatClampNeg = hi := nI_clamp (by omega)
      have h2lt := p16 (c := hi + 1) (by omega)
      rw [Nat.pow_succ] at h2lt
      have hpos : 0 < 2 ^ hi := Nat.pow_pos (by omega)
      obtain ⟨h3, r3, f3, k3⟩ := c_placesMet (hcs h1 hf) hr1 (c := hi) (hh := hh) (by omega) hh9
      have hv3 : ∀ c, c < hi + 1 → (zsi h3 37 hi (nI (spM t n w sk sw hh hi))).1 37 c = nI (spM t n w sk sw hh c) := fun c hc => by
        by_cases e : c = hi
        · rw [e, zr_eq]
        · rw [zr_nj e, f3 37 c rfl]; exact hv c (by omega)
      have hf3 : Fr sV h (zsi h3 37 hi (nI (spM t n w sk sw hh hi))) := (hf.tr (f3.wk sI_V)).si rfl
      have hr3 : RK (zsi h3 37 hi (nI (spM t n w sk sw hh hi))) t n w := k3.si37
      have e3 : (zsi h3 37 hi (nI (spM t n w sk sw hh hi))).1 37 hi = nI (spM t n w sk sw hh hi) := hv3 hi (by omega)
      have sl := sp_lt t n w sk sw hh hi
      have ft := c_fits (h := zsi h3 37 hi (nI (spM t n w sk sw hh hi))) (P := h.1 36) hP (met := spM t n w sk sw hh hi) (by omega)
      have head15 : ∀ {r : Int32} {h' : zH}, (bI (okP (h.1 36) (spM t n w sk sw hh hi) 12) = 0 → zG M_X0_firstMaker (fun r1 h2 => r1 = some (.int r) ∧ h2 = h') (zat M_X0_firstMaker 59) [some (.ref 35), some (.int (nI hh)), some (.int (nI (bm (fun p => decide (h.1 36 p = 1)) 12))), some (.int (nI (bm (fun p => decide (h.1 36 p = 0)) 12))), some (.int (nI hi)), some (.int 0)] [] (zsi h3 37 hi (nI (spM t n w sk sw hh hi)))) → (¬ bI (okP (h.1 36) (spM t n w sk sw hh hi) 12) = 0 → some (Value.int (nI (2 ^ hi))) = some (Value.int r) ∧ zsi h3 37 hi (nI (spM t n w sk sw hh hi)) = h') → zG M_X0_firstMaker (fun r1 h2 => r1 = some (.int r) ∧ h2 = h') (zat M_X0_firstMaker 15) [some (.ref 35), some (.int (nI hh)), some (.int (nI (bm (fun p => decide (h.1 36 p = 1)) 12))), some (.int (nI (bm (fun p => decide (h.1 36 p = 0)) 12))), some (.int (nI hi)), none] [] h1 := fun A B => by
        refine t_X0_firstMaker_15 _ _ _ _ _ _ ⟨fun z => absurd z h16, fun _ => ⟨_, _, r3, vh, vh, ?_⟩⟩
        rw [hcl, e3, n_shl (by omega)]
        exact ⟨_, _, ft, A, B⟩
      generalize zsi h3 37 hi (nI (spM t n w sk sw hh hi)) = h4 at *
      by_cases hx : okP (h.1 36) (spM t n w sk sw hh hi) 12 = true
      · refine ⟨nI (2 ^ hi), h4, head15 (fun z => ?_) (fun _ => ⟨rfl, rfl⟩), .inr ⟨2 ^ hi, by omega, by omega, ?_, ?_, rfl, hq⟩, hf3, hr3⟩
        · rw [hx] at z; exact absurd z (by decide)
        · have := pop_add (S := 0) (c := hi) hpos (by omega)
          rw [Nat.zero_add, pop_0] at this; omega
        · dsimp only; rw [hone hi (by omega)]; exact hx
      · rw [Bool.not_eq_true] at hx
        have l3 : ∀ (e lo : Nat), lo + e = hi → (∀ T, 1 ≤ T → T < 2 ^ hi + 2 ^ lo → pop T ≤ 2 → okP (h.1 36) (unM T (spM t n w sk sw hh) 16) 12 = false) → ∃ r h', zG M_X0_firstMaker (fun r1 h2 => r1 = some (.int r) ∧ h2 = h') (zat M_X0_firstMaker 59) [some (.ref 35), some (.int (nI hh)), some (.int (nI (bm (fun p => decide (h.1 36 p = 1)) 12))), some (.int (nI (bm (fun p => decide (h.1 36 p = 0)) 12))), some (.int (nI hi)), some (.int (nI lo))] [] h4 ∧ isMkr (fun S => okP (h.1 36) (unM S (spM t n w sk sw hh) 16) 12) r ∧ Fr sV h h' ∧ RK h' t n w := by
          intro e
          induction e with
          | zero =>
            intro lo hl hq2
            have : lo = hi := by omega
            subst this
            obtain ⟨r, h', g1, g2⟩ := ih (lo + 1) h4 (by omega) hf3 hr3 hv3 (fun T t1 t2 t3 => hq2 T t1 (by rw [Nat.pow_succ] at t2; omega) t3)
            refine ⟨r, h', t_X0_firstMaker_59 _ _ _ _ _ _ _ ⟨fun _ => ?_, fun z => absurd (nI_le (Nat.le_refl _) (by omega)) z⟩, g2⟩
            rw [nI_1]; exact g1
          | succ e ih3 =>
            intro lo hl hq2
            have hlt : 2 ^ lo < 2 ^ hi := Nat.pow_lt_pow_right (by omega) (by omega)
            have hlp : 0 < 2 ^ lo := Nat.pow_pos (by omega)
            have vl : vp_in (nI lo) 16 := vp_in_nI (by omega) (by omega)
            have hn : ¬ (nI hi ≤ nI lo) := by rw [nI_leI (by omega) (by omega)]; omega
            have ft2 := c_fits (h := h4) (P := h.1 36) hP (met := spM t n w sk sw hh hi ||| spM t n w sk sw hh lo) (Nat.lt_trans (or_lt sl (sp_lt t n w sk sw hh lo)) (by omega))
            have hpop : pop (2 ^ lo + 2 ^ hi) = 2 := by
              have := pop_add (S := 0) (c := lo) hlp (by omega)
              rw [Nat.zero_add, pop_0] at this
              rw [pop_add hlt (by omega), this]
            have head : ∀ {r : Int32} {h' : zH}, (bI (okP (h.1 36) (spM t n w sk sw hh hi ||| spM t n w sk sw hh lo) 12) = 0 → zG M_X0_firstMaker (fun r1 h2 => r1 = some (.int r) ∧ h2 = h') (zat M_X0_firstMaker 59) [some (.ref 35), some (.int (nI hh)), some (.int (nI (bm (fun p => decide (h.1 36 p = 1)) 12))), some (.int (nI (bm (fun p => decide (h.1 36 p = 0)) 12))), some (.int (nI hi)), some (.int (nI (lo + 1)))] [] h4) → (¬ bI (okP (h.1 36) (spM t n w sk sw hh hi ||| spM t n w sk sw hh lo) 12) = 0 → some (Value.int (nI (2 ^ lo + 2 ^ hi))) = some (Value.int r) ∧ h4 = h') → zG M_X0_firstMaker (fun r1 h2 => r1 = some (.int r) ∧ h2 = h') (zat M_X0_firstMaker 59) [some (.ref 35), some (.int (nI hh)), some (.int (nI (bm (fun p => decide (h.1 36 p = 1)) 12))), some (.int (nI (bm (fun p => decide (h.1 36 p = 0)) 12))), some (.int (nI hi)), some (.int (nI lo))] [] h4 := fun A B => by
              refine t_X0_firstMaker_59 _ _ _ _ _ _ _ ⟨fun z => absurd z hn, fun _ => ⟨vh, vl, ?_⟩⟩
              rw [hcl, nI_clamp (by omega), hv3 hi (by omega), hv3 lo (by omega), n_or, nI_1, n_shl (by omega), n_shl (by omega), n_or, or_add (show lo < hi by omega)]
              exact ⟨_, _, ft2, A, B⟩
            by_cases hy : okP (h.1 36) (spM t n w sk sw hh hi ||| spM t n w sk sw hh lo) 12 = true
            · refine ⟨nI (2 ^ lo + 2 ^ hi), h4, head (fun z => ?_) (fun _ => ⟨rfl, rfl⟩), .inr ⟨2 ^ lo + 2 ^ hi, by omega, by omega, by omega, ?_, rfl, fun T t1 t2 t3 => hq2 T t1 (by omega) t3⟩, hf3, hr3⟩
              · rw [hy] at z; exact absurd z (by decide)
              · dsimp only; rw [htwo lo hi (by omega) (by omega)]; exact hy
            · rw [Bool.not_eq_true] at hy
              obtain ⟨r, h', g1, g2⟩ := ih3 (lo + 1) (by omega) (fun T t1 t2 t3 => by
                rcases Nat.lt_or_ge T (2 ^ hi + 2 ^ lo) with q | q
                · exact hq2 T t1 q t3
                · have hlh : 2 ^ (lo + 1) ≤ 2 ^ hi := Nat.pow_le_pow_right (by omega) (by omega)
                  rw [Nat.pow_succ] at t2 hlh
                  obtain ⟨U, rfl⟩ : ∃ U, T = (U + 2 ^ lo) + 2 ^ hi := ⟨T - 2 ^ hi - 2 ^ lo, by omega⟩
                  have hU : U < 2 ^ lo := by omega
                  rw [pop_add (show U + 2 ^ lo < 2 ^ hi by omega) (by omega), pop_add hU (by omega)] at t3
                  have hU0 : U = 0 := Classical.byContradiction (fun z => by
                    have := pop_pos (S := U) (by omega) z
                    omega)
                  subst hU0
                  rw [Nat.zero_add, htwo lo hi (by omega) (by omega)]; exact hy)
              exact ⟨r, h', head (fun _ => g1) (fun z => absurd (by rw [hy]; rfl) z), g2⟩
        obtain ⟨r, h', g1, g2⟩ := l3 hi 0 (by omega) (fun T t1 t2 t3 => by
          by_cases e : T = 2 ^ hi
          · rw [e, hone hi (by omega)]; exact hx
          · exact hq T t1 (by omega) t3)
        exact ⟨r, h', head15 (fun _ => g1) (fun z => absurd (by rw [hx]; rfl) z), g2⟩
  have p1 := c_placesTold (h := h) 1
  have p0 := c_placesTold (h := h) 0
  obtain ⟨r, h', g1, g2⟩ := l2 16 0 h (by omega) Fr.rf hr (fun c hc => absurd hc (by omega)) (fun T t1 t2 _ => by omega)
  exact ⟨r, h', r_X0_firstMaker _ _ _ _ ⟨_, rfl⟩ (t_X0_firstMaker_0 _ _ _ ⟨_, _, p1, _, _, p0, g1⟩), g2⟩
end CV
theorem m_mkr {h : zH} {g : Nat → Nat} {P : Nat → Int32} (hP : ∀ p, p < 12 → h.1 50 p = P p) (hg : ∀ c, c < 16 → h.1 61 c = nI (g c)) (hgl : ∀ c, g c < 2 ^ 12) (y : Int32) : ∃ r, zG M_X8_maker (fun r1 h2 => r1 = some (.int r) ∧ h2 = h) (zat M_X8_maker 20) [some (.ref 42), some (.int y), some (.int 1)] [] h ∧ isMkr (fun S => okP P (unM S g 16) 12) r := by
  have key : ∀ (m i : Nat), i + m = 65536 → 1 ≤ i → (∀ S, 1 ≤ S → S < i → pop S ≤ 2 → okP P (unM S g 16) 12 = false) → ∃ r, zG M_X8_maker (fun r1 h2 => r1 = some (.int r) ∧ h2 = h) (zat M_X8_maker 20) [some (.ref 42), some (.int y), some (.int (nI i))] [] h ∧ isMkr (fun S => okP P (unM S g 16) 12) r := by
    intro m
    induction m with
    | zero =>
      intro i hi h1 hq
      have : i = 65536 := by omega
      subst this
      exact ⟨-4, t_X8_maker_20 _ _ _ _ ⟨fun _ => ⟨rfl, rfl⟩, fun z => absurd (by decide) z⟩, .inl ⟨rfl, hq⟩⟩
    | succ m ih =>
      intro i hi h1 hq
      have hend : ¬ ((65536 : Int32) ≤ nI i) := by rw [q65536, nI_leI (by omega) (by omega)]; omega
      have hpl := pop_le i
      have hul : unM i g 16 < 2 ^ 12 := unM_lt hgl 16
      have md := m_isMade (h := h) hP (met := unM i g 16) (by omega)
      have e3 : ((3 : Int32) ≤ nI (pop i)) ↔ 3 ≤ pop i := by rw [q3, nI_leI (by omega) (by omega)]
      by_cases h3 : 3 ≤ pop i
      · obtain ⟨r, g1, g2⟩ := ih (i + 1) (by omega) (by omega) (fun S s1 s2 s3 => by
          by_cases e : S = i
          · subst e; omega
          · exact hq S s1 (by omega) s3)
        refine ⟨r, t_X8_maker_20 _ _ _ _ ⟨fun z => absurd z hend, fun _ => ⟨_, _, m_bits (by omega), fun _ => ?_, fun z => absurd (e3.mpr h3) z⟩⟩, g2⟩
        rw [nI_1]; exact g1
      · by_cases hx : okP P (unM i g 16) 12 = true
        · refine ⟨nI i, t_X8_maker_20 _ _ _ _ ⟨fun z => absurd z hend, fun _ => ⟨_, _, m_bits (by omega), fun z => absurd (e3.mp z) h3, fun _ => ⟨_, _, m_metBy hg (by omega), _, _, md, fun z => ?_, fun _ => ⟨rfl, rfl⟩⟩⟩⟩, .inr ⟨i, h1, by omega, by omega, hx, rfl, hq⟩⟩
          rw [hx] at z; exact absurd z (by decide)
        · rw [Bool.not_eq_true] at hx
          obtain ⟨r, g1, g2⟩ := ih (i + 1) (by omega) (by omega) (fun S s1 s2 s3 => by
            by_cases e : S = i
            · subst e; exact hx
            · exact hq S s1 (by omega) s3)
          refine ⟨r, t_X8_maker_20 _ _ _ _ ⟨fun z => absurd z hend, fun _ => ⟨_, _, m_bits (by omega), fun z => absurd (e3.mp z) h3, fun _ => ⟨_, _, m_metBy hg (by omega), _, _, md, fun _ => ?_, fun z => absurd (by rw [hx]; rfl) z⟩⟩⟩, g2⟩
          rw [nI_1]; exact g1
  exact key 65535 1 (by omega) (by omega) (fun S s1 s2 => by omega)
set_option maxHeartbeats 4000000 in
set_option maxRecDepth 100000 in
theorem p_made {h : zH} (hi : Inv h) (a b : Int32) : Pair R_X7_made R_X8_made [.int a, .int b] h := by
  obtain ⟨t, f, sh, sk, n, w, hs⟩ := hi.1
  by_cases hv : (0 ≤ a ∧ a ≤ 65535) ∧ (0 ≤ b ∧ b ≤ 900)
  · obtain ⟨S, hS1, rfl⟩ := in_n (b := 65535) (by omega) hv.1.1 hv.1.2
    obtain ⟨hh, hh1, rfl⟩ := in_n (b := 900) (by omega) hv.2.1 hv.2.2
    have hP := hi.2.2.1
    obtain ⟨h1, r1, f1, k1⟩ := c_isMade hs.cs hs.rk (fun p hp => (hP p hp).2) (S := S) (hh := hh) (by omega) hh1
    have hs1 : SXc t f sh sk n w h1 := hs.fr (f1.wk sI_A) k1
    have hms := hs1.ms
    rw [f1 3 4 rfl] at hms
    obtain ⟨h2, r2, g2, f2⟩ := m_laySpots hms (hh := hh) hh1
    have hl : unM S (spM t n w sk (h.1 3 4) hh) 16 < 2 ^ 12 := unM_lt (fun c => sp_lt t n w sk (h.1 3 4) hh c) 16
    have md := m_isMade (h := h2) (P := h.1 36) (fun p hp => by rw [f2 50 p rfl, f1 50 p rfl]; exact (hP p hp).1.symm) (met := unM S (spM t n w sk (h.1 3 4) hh) 16) (by omega)
    refine ⟨.int (bI (okP (h.1 36) (unM S (spM t n w sk (h.1 3 4) hh) 16) 12)), h1, h2, r_X7_made _ _ _ _ _ ⟨_, rfl⟩ (t_X7_made_0 _ _ _ _ (gd_isSet (fun z => absurd hv.1 z) (fun _ _ => gd_isRight' (fun _ _ => ⟨_, _, r1, ?_⟩) (fun z => absurd hv.2 z)))), r_X8_made _ _ _ _ _ ⟨_, rfl⟩ (t_X8_made_0 _ _ _ _ (ge_isAsked' (fun _ _ => ⟨_, r2, _, _, m_metBy g2 (S := S) (by omega), _, _, md, ?_⟩) (fun z => absurd hv z))), hi.q hs ((f1.wk sI_A).tr (f2.wk sN_A)) (k1.fr f2 (fun _ => rfl))⟩
    · exact ⟨fun z => ⟨by rw [z], rfl⟩, fun z => ⟨by cases hb : okP (h.1 36) (unM S (spM t n w sk (h.1 3 4) hh) 16) 12 <;> simp_all [bI], rfl⟩⟩
    · exact ⟨fun z => ⟨by rw [z], rfl⟩, fun z => ⟨by cases hb : okP (h.1 36) (unM S (spM t n w sk (h.1 3 4) hh) 16) 12 <;> simp_all [bI], rfl⟩⟩
  · exact ⟨.int (-1), h, h, r_X7_made _ _ _ _ _ ⟨_, rfl⟩ (t_X7_made_0 _ _ _ _ (gd_isSet (fun _ => ⟨rfl, rfl⟩) (fun u0 w0 => gd_isRight' (fun u1 w1 => absurd ⟨⟨u0, w0⟩, u1, w1⟩ hv) (fun _ => ⟨rfl, rfl⟩)))), r_X8_made _ _ _ _ _ ⟨_, rfl⟩ (t_X8_made_0 _ _ _ _ (ge_isAsked' (fun u0 u1 => absurd ⟨u0, u1⟩ hv) (fun _ => ⟨rfl, rfl⟩))), hi⟩
set_option maxHeartbeats 4000000 in
set_option maxRecDepth 100000 in
theorem p_maker {h : zH} (hi : Inv h) (a : Int32) : Pair R_X7_maker R_X8_maker [.int a] h := by
  obtain ⟨t, f, sh, sk, n, w, hs⟩ := hi.1
  by_cases hv : (0 ≤ a ∧ a ≤ 900)
  · obtain ⟨hh, hh1, rfl⟩ := in_n (b := 900) (by omega) hv.1 hv.2
    have hP := hi.2.2.1
    obtain ⟨r, h1, r1, hr1, f1, k1⟩ := c_firstMaker hs.cs hs.rk (fun p hp => (hP p hp).2) (hh := hh) hh1
    have hs1 : SXc t f sh sk n w h1 := hs.fr (f1.wk sV_A) k1
    have hms := hs1.ms
    rw [f1 3 4 rfl] at hms
    obtain ⟨h2, r2, g2, f2⟩ := m_laySpots hms (hh := hh) hh1
    obtain ⟨r', z1, z2⟩ := m_mkr (h := h2) (P := h.1 36) (fun p hp => by rw [f2 50 p rfl, f1 50 p rfl]; exact (hP p hp).1.symm) g2 (fun c => sp_lt t n w sk (h.1 3 4) hh c) (nI hh)
    have er := isMkr_u hr1 z2
    subst er
    exact ⟨.int r, h1, h2, r_X7_maker _ _ _ _ ⟨_, rfl⟩ (t_X7_maker_0 _ _ _ (gd_isRight' (fun _ _ => ⟨_, _, r1, rfl, rfl⟩) (fun z => absurd hv z))), r_X8_maker _ _ _ _ ⟨_, rfl⟩ (t_X8_maker_0 _ _ _ (ge' (fun _ _ => ⟨_, r2, z1⟩) (fun z => absurd hv z))), hi.q hs ((f1.wk sV_A).tr (f2.wk sN_A)) (k1.fr f2 (fun _ => rfl))⟩
  · exact ⟨.int (-1), h, h, r_X7_maker _ _ _ _ ⟨_, rfl⟩ (t_X7_maker_0 _ _ _ (gd_isRight' (fun u0 w0 => absurd ⟨u0, w0⟩ hv) (fun _ => ⟨rfl, rfl⟩))), r_X8_maker _ _ _ _ ⟨_, rfl⟩ (t_X8_maker_0 _ _ _ (ge' (fun u0 w0 => absurd ⟨u0, w0⟩ hv) (fun _ => ⟨rfl, rfl⟩))), hi⟩
