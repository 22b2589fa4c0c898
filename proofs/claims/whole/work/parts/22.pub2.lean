/-! ===== table, rule, wedge, mark, wipe ===== -/
theorem c_fill6 {h : zH} {v : Int32} : ∃ h', R_J7_fill_53178 [.ref 6, .int v] h none h' ∧ (∀ j, j < 12 → h'.1 6 j = v) ∧ ∀ a b, a ≠ 6 → h'.1 a b = h.1 a b := by
  have key : ∀ (m i : Nat) (h1 : zH), i + m = 12 → (∀ a b, a ≠ 6 → h1.1 a b = h.1 a b) → (∀ d, d < i → h1.1 6 d = v) → ∃ h', zG M_J7_fill_53178 (fun r1 h2 => r1 = none ∧ h2 = h') (zat M_J7_fill_53178 5) [some (.ref 6), some (.int v), some (.int (nI i)), some (.int 12)] [] h1 ∧ (∀ j, j < 12 → h'.1 6 j = v) ∧ ∀ a b, a ≠ 6 → h'.1 a b = h.1 a b := by
    intro m
    induction m with
    | zero =>
      intro i h1 hi hf hd
      have : i = 12 := by omega
      subst this
      exact ⟨h1, t_J7_fill_53178_5 _ _ _ _ _ ⟨fun _ => ⟨rfl, rfl⟩, fun z => absurd (by decide) z⟩, hd, hf⟩
    | succ m ih =>
      intro i h1 hi hf hd
      obtain ⟨h', g1, g2⟩ := ih (i + 1) (zsi h1 6 i v) (by omega) (fun a b ha => by rw [zr_ne ha]; exact hf a b ha) (fun d hd2 => by
        by_cases e : d = i
        · subst e; rw [zr_eq]
        · rw [zr_nj e]; exact hd d (by omega))
      refine ⟨h', t_J7_fill_53178_5 _ _ _ _ _ ⟨fun z => ?_, fun _ => ⟨vp_in_nI (by omega) (by omega), ?_⟩⟩, g2⟩
      · rw [q12, nI_leI (by omega) (by omega)] at z; omega
      · rw [nI_clamp (by omega), nI_1]; exact g1
  obtain ⟨h', g1, g2⟩ := key 12 0 h (by omega) (fun _ _ _ => rfl) (fun d hd => by omega)
  exact ⟨h', r_J7_fill_53178 _ _ _ _ rfl (t_J7_fill_53178_0 _ _ _ g1), g2⟩
theorem lof_cg {g g' : Nat → Nat} (hg : ∀ i, i ≤ 900 → g i = g' i) (r : Nat) : lof g r = lof g' r := by
  refine lo_uniq (lof_is g r) ?_
  obtain ⟨a, b, c⟩ := lof_is g' r
  exact ⟨a, fun j hj => by rw [hg j (by omega)]; exact b j hj, fun hl => by rw [hg _ hl]; exact c hl⟩
theorem rgO_cg {g g' : Nat → Nat} (hg : ∀ i, i ≤ 900 → g i = g' i) (w : Nat) : ∀ n, n ≤ 901 → rgO g w n = rgO g' w n
  | 0, _ => rfl
  | n + 1, hn => by
    have ih := rgO_cg hg w n (by omega)
    have e : turnO g w n = turnO g' w n := by
      unfold turnO
      rw [hg n (by omega), lof_cg hg]
    show mnO _ _ = mnO _ _
    rw [ih, e]
theorem rg_cg {t t' : Nat → Nat} (ht : ∀ j, 10 ≤ j → j ≤ 20 → t j = t' j) (w : Nat) : rg t w = rg t' w := by
  refine rgO_cg (fun i hi => ?_) w 901 (by omega)
  unfold bn
  rw [ht (10 * 1 + i / 100) (by omega) (by omega)]
  by_cases h9 : i = 900
  · subst h9
    simp
  · rw [ht (10 * 1 + i / 100 + 1) (by omega) (by omega)]
def upT (t : Nat → Nat) (a v : Nat) : Nat → Nat := fun j => if j = a then v else t j
theorem upT_TV {t : Nat → Nat} (hv : TV t) {s k v : Nat} (hs : s ≤ 2) (hk1 : 1 ≤ k) (hk : k ≤ 9) (hvk : v ≤ 100 * k) (hlo : t (10 * s + k - 1) ≤ v) (hhi : k < 9 → v ≤ t (10 * s + k + 1)) : TV (upT t (10 * s + k) v) := by
  intro s' hs'
  obtain ⟨b1, b2, b3⟩ := hv s' hs'
  refine ⟨?_, fun j hj => ?_, fun j hj => ?_⟩
  · unfold upT; rw [if_neg (by omega)]; exact b1
  · have := b2 j hj
    unfold upT
    by_cases e1 : 10 * s' + j = 10 * s + k
    · have : s' = s := by omega
      subst this
      have : j = k := by omega
      subst this
      rw [if_pos rfl, if_neg (by omega)]
      have := hhi hj
      rw [← Nat.add_assoc]; exact this
    · rw [if_neg e1]
      by_cases e2 : 10 * s' + (j + 1) = 10 * s + k
      · have : s' = s := by omega
        subst this
        have : k = j + 1 := by omega
        subst this
        rw [if_pos rfl]
        have e3 : 10 * s' + (j + 1) - 1 = 10 * s' + j := by omega
        rw [e3] at hlo; exact hlo
      · rw [if_neg e2]; exact this
  · unfold upT
    by_cases e1 : 10 * s' + j = 10 * s + k
    · rw [if_pos e1]
      have : j = k := by omega
      subst this; exact hvk
    · rw [if_neg e1]; exact b3 j hj
theorem c_changeTable {h : zH} {t : Nat → Nat} (ht : ∀ j, j < 30 → t j ≤ 900 ∧ h.1 2 j = nI (t j)) {s k v : Nat} (hs : s ≤ 2) (hk1 : 1 ≤ k) (hk : k ≤ 9) (hv : v ≤ 900) :
    ((v < t (10 * s + k - 1) ∨ (k < 9 ∧ t (10 * s + k + 1) < v)) → R_X6_changeTable [.ref 1, .int (nI s), .int (nI k), .int (nI v)] h (some (.int (-2))) h) ∧
    (¬ (v < t (10 * s + k - 1) ∨ (k < 9 ∧ t (10 * s + k + 1) < v)) → ∃ h', R_X6_changeTable [.ref 1, .int (nI s), .int (nI k), .int (nI v)] h (some (.int (nI (t (10 * s + k))))) h' ∧ (∀ j, h'.1 2 j = if j = 10 * s + k then nI v else h.1 2 j) ∧ (∀ a j, a ≠ 2 → a ≠ 6 → h'.1 a j = h.1 a j) ∧ (s ≠ 1 → ∀ j, h'.1 6 j = h.1 6 j) ∧ (s = 1 → ∀ j, j < 12 → h'.1 6 j = -1)) := by
  have e1 : nI s * 10 + nI k = nI (10 * s + k) := by rw [q10, pk_mul, nI_add, Nat.mul_comm]
  have e2 : nI (10 * s + k) - 1 = nI (10 * s + k - 1) := by rw [q1, pk_sub (by omega)]
  have e3 : nI (10 * s + k) + 1 = nI (10 * s + k + 1) := nI_1 _
  obtain ⟨m1, m2⟩ := ht (10 * s + k - 1) (by omega)
  obtain ⟨m3, m4⟩ := ht (10 * s + k) (by omega)
  have v1 : vp_in (nI (10 * s + k - 1)) 30 := vp_in_nI (by omega) (by omega)
  have v2 : vp_in (nI (10 * s + k)) 30 := vp_in_nI (by omega) (by omega)
  have c1 : (nI (10 * s + k - 1)).toNatClampNeg = 10 * s + k - 1 := nI_clamp (by omega)
  have c2 : (nI (10 * s + k)).toNatClampNeg = 10 * s + k := nI_clamp (by omega)
  have c3 : (nI (10 * s + k + 1)).toNatClampNeg = 10 * s + k + 1 := nI_clamp (by omega)
  constructor
  · intro hno
    refine r_X6_changeTable _ _ _ _ _ _ ⟨_, rfl⟩ (t_X6_changeTable_0 _ _ _ _ _ ?_)
    rw [e1, e2, e3, c1, c2, c3, m2, nI_ltI (by omega) (by omega), q9, nI_leI (by omega) (by omega)]
    refine ⟨v1, fun _ => ⟨rfl, rfl⟩, fun z => ⟨fun z2 => absurd hno (by omega), fun z2 => ?_⟩⟩
    obtain ⟨m5, m6⟩ := ht (10 * s + k + 1) (by omega)
    rw [m6, nI_leI (by omega) (by omega)]
    exact ⟨vp_in_nI (by omega) (by omega), fun z3 => absurd hno (by omega), fun _ => ⟨rfl, rfl⟩⟩
  · intro hyes
    have fin : ∃ h', (vp_in (nI (10 * s + k)) 30 ∧ vp_in (nI (10 * s + k)) 30 ∧ (¬ nI s = 1 → some (Value.int (h.1 2 (10 * s + k))) = some (Value.int (nI (t (10 * s + k)))) ∧ zsi h 2 (10 * s + k) (nI v) = h') ∧ (¬ ¬ nI s = 1 → ∃ h1 : zH, R_J7_fill_53178 [.ref 6, .int (-1)] (zsi h 2 (10 * s + k) (nI v)) none h1 ∧ some (Value.int (h.1 2 (10 * s + k))) = some (Value.int (nI (t (10 * s + k)))) ∧ h1 = h')) ∧ (∀ j, h'.1 2 j = if j = 10 * s + k then nI v else h.1 2 j) ∧ (∀ a j, a ≠ 2 → a ≠ 6 → h'.1 a j = h.1 a j) ∧ (s ≠ 1 → ∀ j, h'.1 6 j = h.1 6 j) ∧ (s = 1 → ∀ j, j < 12 → h'.1 6 j = -1) := by
      have tb : ∀ j, (zsi h 2 (10 * s + k) (nI v)).1 2 j = if j = 10 * s + k then nI v else h.1 2 j := by
        intro j
        by_cases e : j = 10 * s + k
        · subst e; rw [zr_eq, if_pos rfl]
        · rw [zr_nj e, if_neg e]
      by_cases hs1 : s = 1
      · subst hs1
        obtain ⟨h', f1, f2, f3⟩ := c_fill6 (h := zsi h 2 (10 * 1 + k) (nI v)) (v := -1)
        refine ⟨h', ⟨v2, v2, fun z => absurd rfl z, fun _ => ⟨h', f1, by rw [m4], rfl⟩⟩, fun j => by rw [f3 2 j (by omega)]; exact tb j, fun a j ha h6 => by rw [f3 a j h6, zr_ne ha], fun z => absurd rfl z, fun _ => f2⟩
      · have hne : ¬ nI s = 1 := by rw [q1, nI_eq (by omega) (by omega)]; exact hs1
        exact ⟨zsi h 2 (10 * s + k) (nI v), ⟨v2, v2, fun _ => ⟨by rw [m4], rfl⟩, fun z => absurd hne z⟩, tb, fun a j ha _ => zr_ne ha, fun _ j => zr_ne (by omega), fun z => absurd z hs1⟩
    obtain ⟨h', g1, g2⟩ := fin
    refine ⟨h', r_X6_changeTable _ _ _ _ _ _ ⟨_, rfl⟩ (t_X6_changeTable_0 _ _ _ _ _ ?_), g2⟩
    rw [e1, e2, e3, c1, c2, c3, m2, nI_ltI (by omega) (by omega), q9, nI_leI (by omega) (by omega)]
    refine ⟨v1, fun z => absurd (Or.inl z) hyes, fun z => ⟨fun z2 => g1, fun z2 => ?_⟩⟩
    obtain ⟨m5, m6⟩ := ht (10 * s + k + 1) (by omega)
    rw [m6, nI_leI (by omega) (by omega)]
    exact ⟨vp_in_nI (by omega) (by omega), fun _ => g1, fun z3 => absurd (Or.inr ⟨by omega, by omega⟩) hyes⟩
theorem TV_900 {t : Nat → Nat} (hv : TV t) {j : Nat} (hj : j < 30) : t j ≤ 900 := by
  have := (hv (j / 10) (by omega)).2.2 (j % 10) (by omega)
  rw [show 10 * (j / 10) + j % 10 = j by omega] at this
  omega
set_option maxHeartbeats 4000000 in
set_option maxRecDepth 100000 in
theorem p_table {h : zH} (hi : Inv h) (a b c : Int32) : Pair R_X7_table R_X8_table [.int a, .int b, .int c] h := by
  obtain ⟨t, f, sh, sk, n, w, hs⟩ := hi.1
  by_cases hv : (0 ≤ a ∧ a ≤ 2) ∧ (1 ≤ b ∧ b ≤ 9) ∧ (0 ≤ c ∧ c ≤ 100 * b)
  · obtain ⟨s, hs1, rfl⟩ := in_n (b := 2) (by omega) hv.1.1 hv.1.2
    have hb0 : (0 : Int32) ≤ b := Int32.le_trans (by decide) hv.2.1.1
    obtain ⟨k, hk1, rfl⟩ := in_n (b := 9) (by omega) hb0 hv.2.1.2
    have hk0 : 1 ≤ k := (nI_leI (a := 1) (b := k) (by omega) (by omega)).mp hv.2.1.1
    have e100 : 100 * nI k = nI (100 * k) := by rw [q100, pk_mul]
    obtain ⟨v, hv1, rfl⟩ := in_n (b := 100 * k) (by omega) hv.2.2.1 (by rw [← e100]; exact hv.2.2.2)
    obtain ⟨a1, a2, a3, a4, a5, a6, a7, a8, a9, a10, a11, a12, a13⟩ := id hs
    obtain ⟨cn, cy⟩ := c_changeTable (h := h) (t := t) (fun j hj => ⟨TV_900 a1 hj, (a5 j hj).1⟩) (s := s) (k := k) (v := v) hs1 hk0 hk1 (by omega)
    have e1 : 10 * nI s + nI k = nI (10 * s + k) := by rw [q10, pk_mul, nI_add]
    have e2 : nI (10 * s + k) - 1 = nI (10 * s + k - 1) := by rw [q1, pk_sub (by omega)]
    have e3 : nI (10 * s + k) + 1 = nI (10 * s + k + 1) := nI_1 _
    have v1 : vp_in (nI (10 * s + k - 1)) 30 := vp_in_nI (by omega) (by omega)
    have v2 : vp_in (nI (10 * s + k)) 30 := vp_in_nI (by omega) (by omega)
    have c1 : (nI (10 * s + k - 1)).toNatClampNeg = 10 * s + k - 1 := nI_clamp (by omega)
    have c2 : (nI (10 * s + k)).toNatClampNeg = 10 * s + k := nI_clamp (by omega)
    have c3 : (nI (10 * s + k + 1)).toNatClampNeg = 10 * s + k + 1 := nI_clamp (by omega)
    have b0 := TV_900 a1 (j := 10 * s + k - 1) (by omega)
    have m1 := (a5 (10 * s + k - 1) (by omega)).2
    have m2 := (a5 (10 * s + k) (by omega)).2
    by_cases hno : v < t (10 * s + k - 1) ∨ (k < 9 ∧ t (10 * s + k + 1) < v)
    · refine ⟨.int (-2), h, h, r_X7_table _ _ _ _ _ _ ⟨_, rfl⟩ (t_X7_table_0 _ _ _ _ _ (gd (fun z => absurd hv.1 z) (fun _ _ => gd (fun z => absurd hv.2.1 z) (fun _ _ => gd' (fun _ _ => ⟨_, _, cn hno, rfl, rfl⟩) (fun z => absurd hv.2.2 z))))), r_X8_table _ _ _ _ _ _ ⟨_, rfl⟩ (t_X8_table_0 _ _ _ _ _ (ge (fun z => absurd hv.1 z) (fun _ _ => ge (fun z => absurd hv.2.1 z) (fun _ _ => ge' (fun _ _ => ?_) (fun z => absurd hv.2.2 z))))), hi⟩
      rw [e1, e2, e3, c1, c2, c3, m1, nI_ltI (by omega) (by omega), q9, nI_leI (by omega) (by omega)]
      refine ⟨v1, fun _ => ⟨rfl, rfl⟩, fun z => ⟨fun z2 => absurd hno (by omega), fun z2 => ?_⟩⟩
      have b1 := TV_900 a1 (j := 10 * s + k + 1) (by omega)
      rw [(a5 (10 * s + k + 1) (by omega)).2, nI_leI (by omega) (by omega)]
      exact ⟨vp_in_nI (by omega) (by omega), fun z3 => absurd hno (by omega), fun _ => ⟨rfl, rfl⟩⟩
    · obtain ⟨h1, r1, t1, f1, k1, k2⟩ := cy hno
      refine ⟨.int (nI (t (10 * s + k))), h1, zsi h1 43 (10 * s + k) (nI v), r_X7_table _ _ _ _ _ _ ⟨_, rfl⟩ (t_X7_table_0 _ _ _ _ _ (gd (fun z => absurd hv.1 z) (fun _ _ => gd (fun z => absurd hv.2.1 z) (fun _ _ => gd' (fun _ _ => ⟨_, _, r1, rfl, rfl⟩) (fun z => absurd hv.2.2 z))))), r_X8_table _ _ _ _ _ _ ⟨_, rfl⟩ (t_X8_table_0 _ _ _ _ _ (ge (fun z => absurd hv.1 z) (fun _ _ => ge (fun z => absurd hv.2.1 z) (fun _ _ => ge' (fun _ _ => ?_) (fun z => absurd hv.2.2 z))))), ?_⟩
      · rw [e1, e2, e3, c1, c2, c3, f1 43 _ (by omega) (by omega), m1, nI_ltI (by omega) (by omega), q9, nI_leI (by omega) (by omega), f1 43 _ (by omega) (by omega), m2]
        refine ⟨v1, fun z => absurd (Or.inl z) hno, fun z => ⟨fun z2 => ⟨v2, v2, rfl, rfl⟩, fun z2 => ?_⟩⟩
        have b1 := TV_900 a1 (j := 10 * s + k + 1) (by omega)
        rw [f1 43 _ (by omega) (by omega), (a5 (10 * s + k + 1) (by omega)).2, nI_leI (by omega) (by omega)]
        exact ⟨vp_in_nI (by omega) (by omega), fun _ => ⟨v2, v2, rfl, rfl⟩, fun z3 => absurd (Or.inr ⟨by omega, by omega⟩) hno⟩
      · have he : ∀ a j, a ≠ 2 → a ≠ 6 → a ≠ 43 → (zsi h1 43 (10 * s + k) (nI v)).1 a j = h.1 a j := fun a j p q r => by rw [zr_ne r]; exact f1 a j p q
        refine ⟨⟨upT t (10 * s + k) v, f, sh, sk, n, w, upT_TV a1 hs1 hk0 hk1 hv1 (by omega) (fun q => by omega), a2, a3, a4, fun j hj => ?_, ?_, ?_, ?_, ?_, ?_, fun k' hk' => ?_, fun j hj => ?_, fun k' hk' i hi' => ?_⟩, hi.2.1.cg (fun a j hg => he a j (by unfold gM at hg; omega) (by unfold gM at hg; omega) (by unfold gM at hg; omega)), hi.2.2.1.cg (fun a j hg => he a j (by unfold gP at hg; omega) (by unfold gP at hg; omega) (by unfold gP at hg; omega)), hi.2.2.2.1.cg (fun a j hg => he a j (by unfold gD at hg; omega) (by unfold gD at hg; omega) (by unfold gD at hg; omega)), hi.2.2.2.2.cg (fun a j hg => he a j (by unfold gK at hg; omega) (by unfold gK at hg; omega) (by unfold gK at hg; omega))⟩
        · rw [zr_ne (by omega), t1 j]
          unfold upT
          by_cases e : j = 10 * s + k
          · subst e; rw [zr_eq, if_pos rfl, if_pos rfl]; exact ⟨rfl, rfl⟩
          · rw [zr_nj e, if_neg e, if_neg e, f1 43 _ (by omega) (by omega)]; exact a5 j hj
        · dsimp only; rw [he 3 0 (by omega) (by omega) (by omega), he 42 _ (by omega) (by omega) (by omega)]; exact a6
        · dsimp only; rw [he 3 1 (by omega) (by omega) (by omega), he 42 _ (by omega) (by omega) (by omega)]; exact a7
        · dsimp only; rw [he 3 2 (by omega) (by omega) (by omega), he 42 _ (by omega) (by omega) (by omega)]; exact a8
        · dsimp only; rw [he 3 3 (by omega) (by omega) (by omega), he 42 _ (by omega) (by omega) (by omega)]; exact a9
        · dsimp only; rw [he 3 4 (by omega) (by omega) (by omega), he 42 _ (by omega) (by omega) (by omega)]; exact a10
        · rw [he 5 k' (by omega) (by omega) (by omega), he 44 k' (by omega) (by omega) (by omega)]; exact a11 k' hk'
        · rw [he 4 j (by omega) (by omega) (by omega), he 45 j (by omega) (by omega) (by omega)]; exact a12 j hj
        · have hn3 := (a11 k' hk').1
          rw [zr_ne (by omega)]
          by_cases e : s = 1
          · exact Or.inl (k2 e _ (by omega))
          · rw [k1 e, rg_cg (t := upT t (10 * s + k) v) (t' := t) (fun j j1 j2 => by unfold upT; rw [if_neg (by omega)])]
            exact a13 k' hk' i hi'
  · exact ⟨.int (-1), h, h, r_X7_table _ _ _ _ _ _ ⟨_, rfl⟩ (t_X7_table_0 _ _ _ _ _ (gd (fun _ => ⟨rfl, rfl⟩) (fun u0 w0 => gd (fun _ => ⟨rfl, rfl⟩) (fun u1 w1 => gd' (fun u2 w2 => absurd ⟨⟨u0, w0⟩, ⟨u1, w1⟩, u2, w2⟩ hv) (fun _ => ⟨rfl, rfl⟩))))), r_X8_table _ _ _ _ _ _ ⟨_, rfl⟩ (t_X8_table_0 _ _ _ _ _ (ge (fun _ => ⟨rfl, rfl⟩) (fun u0 w0 => ge (fun _ => ⟨rfl, rfl⟩) (fun u1 w1 => ge' (fun u2 w2 => absurd ⟨⟨u0, w0⟩, ⟨u1, w1⟩, u2, w2⟩ hv) (fun _ => ⟨rfl, rfl⟩))))), hi⟩
set_option maxHeartbeats 4000000 in
set_option maxRecDepth 100000 in
theorem p_rule {h : zH} (hi : Inv h) (a b : Int32) : Pair R_X7_rule R_X8_rule [.int a, .int b] h := by
  obtain ⟨t, f, sh, sk, n, w, hs⟩ := hi.1
  obtain ⟨a1, a2, a3, a4, a5, a6, a7, a8, a9, a10, a11, a12, a13⟩ := id hs
  by_cases hv : 0 ≤ a ∧ a ≤ 4
  · obtain ⟨j, hj1, rfl⟩ := in_n (b := 4) (by omega) hv.1 hv.2
    have vp : vp_in (nI j) 5 := vp_in_nI (by omega) (by omega)
    have hc : (nI j).toNatClampNeg = j := nI_clamp (by omega)
    have ej : (nI j).toInt = (j : Int) := nI_toInt (by omega)
    -- what changes
    have fin : ∀ j, j ≤ 4 → ∀ b : Int32, (j = 0 → ∃ x, x ≤ 20 ∧ b = nI x) → (j = 2 → ∃ x, x ≤ 100 ∧ b = nI x) → (j = 3 → ∃ x, 500 ≤ x ∧ x ≤ 9000 ∧ b = nI x) → Inv (zsi (zsi h 3 j b) 42 (j + 1) b) := by
      intro j hj b h0 h2 h3
      have he : ∀ a i, a ≠ 3 → (a = 42 → i ≠ j + 1) → (zsi (zsi h 3 j b) 42 (j + 1) b).1 a i = h.1 a i := fun a i p q => by
        by_cases e : a = 42
        · rw [zr_nj (q e), zr_ne p]
        · rw [zr_ne e, zr_ne p]
      have r3 : ∀ i, (zsi (zsi h 3 j b) 42 (j + 1) b).1 3 i = if i = j then b else h.1 3 i := fun i => by
        rw [zr_ne (by omega)]
        by_cases e : i = j
        · subst e; rw [zr_eq, if_pos rfl]
        · rw [zr_nj e, if_neg e]
      have r4 : ∀ i, (zsi (zsi h 3 j b) 42 (j + 1) b).1 42 (i + 1) = if i = j then b else h.1 42 (i + 1) := fun i => by
        by_cases e : i = j
        · subst e; rw [zr_eq, if_pos rfl]
        · rw [zr_nj (by omega), zr_ne (by omega), if_neg e]
      refine ⟨?_, hi.2.1.cg (fun a i hg => he a i (by unfold gM at hg; omega) (by unfold gM at hg; omega)), hi.2.2.1.cg (fun a i hg => he a i (by unfold gP at hg; omega) (by unfold gP at hg; omega)), hi.2.2.2.1.cg (fun a i hg => he a i (by unfold gD at hg; omega) (by unfold gD at hg; omega)), hi.2.2.2.2.cg (fun a i hg => he a i (by unfold gK at hg; omega) (by unfold gK at hg; omega))⟩
      obtain ⟨f', hf', ef⟩ : ∃ f', f' ≤ 20 ∧ ((if 0 = j then b else h.1 3 0) = nI f' ∧ (if 0 = j then b else h.1 42 (0 + 1)) = nI f') := by
        by_cases e : 0 = j
        · obtain ⟨x, x1, x2⟩ := h0 e.symm
          exact ⟨x, x1, by rw [if_pos e, if_pos e]; exact ⟨x2, x2⟩⟩
        · exact ⟨f, a2, by rw [if_neg e, if_neg e]; exact a6⟩
      obtain ⟨sh', hsh', esh⟩ : ∃ f', f' ≤ 100 ∧ ((if 2 = j then b else h.1 3 2) = nI f' ∧ (if 2 = j then b else h.1 42 (2 + 1)) = nI f') := by
        by_cases e : 2 = j
        · obtain ⟨x, x1, x2⟩ := h2 e.symm
          exact ⟨x, x1, by rw [if_pos e, if_pos e]; exact ⟨x2, x2⟩⟩
        · exact ⟨sh, a3, by rw [if_neg e, if_neg e]; exact a8⟩
      obtain ⟨sk', hsk', esk⟩ : ∃ f', (500 ≤ f' ∧ f' ≤ 9000) ∧ ((if 3 = j then b else h.1 3 3) = nI f' ∧ (if 3 = j then b else h.1 42 (3 + 1)) = nI f') := by
        by_cases e : 3 = j
        · obtain ⟨x, x0, x1, x2⟩ := h3 e.symm
          exact ⟨x, ⟨x0, x1⟩, by rw [if_pos e, if_pos e]; exact ⟨x2, x2⟩⟩
        · exact ⟨sk, a4, by rw [if_neg e, if_neg e]; exact a9⟩
      refine ⟨t, f', sh', sk', n, w, a1, hf', hsh', hsk', fun i hi => ?_, ?_, ?_, ?_, ?_, ?_, fun k hk => ?_, fun i hi => ?_, fun k hk i hi => ?_⟩
      · rw [he 2 i (by omega) (by omega), he 43 i (by omega) (by omega)]; exact a5 i hi
      · dsimp only; rw [r3, r4]; exact ef
      · dsimp only; rw [r3, r4]
        by_cases e : 1 = j
        · rw [if_pos e, if_pos e]
        · rw [if_neg e, if_neg e]; exact a7
      · dsimp only; rw [r3, r4]; exact esh
      · dsimp only; rw [r3, r4]; exact esk
      · dsimp only; rw [r3, r4]
        by_cases e : 4 = j
        · rw [if_pos e, if_pos e]
        · rw [if_neg e, if_neg e]; exact a10
      · rw [he 5 k (by omega) (by omega), he 44 k (by omega) (by omega)]; exact a11 k hk
      · rw [he 4 i (by omega) (by omega), he 45 i (by omega) (by omega)]; exact a12 i hi
      · rw [he 6 _ (by omega) (by omega)]; exact a13 k hk i hi
    have eqR : ∀ j, j ≤ 4 → h.1 3 j = h.1 42 (j + 1) := by
      intro j hj
      rcases (by omega : j = 0 ∨ j = 1 ∨ j = 2 ∨ j = 3 ∨ j = 4) with rfl | rfl | rfl | rfl | rfl
      · exact a6.1.trans a6.2.symm
      · exact a7
      · exact a8.1.trans a8.2.symm
      · exact a9.1.trans a9.2.symm
      · exact a10
    rcases (by omega : j = 0 ∨ j = 1 ∨ j = 2 ∨ j = 3 ∨ j = 4) with e | e | e | e | e
    · subst e
      by_cases hb : 0 ≤ b ∧ b ≤ 20
      · obtain ⟨x, x1, rfl⟩ := in_n (b := 20) (by omega) hb.1 hb.2
        refine ⟨.int (h.1 3 0), zsi h 3 0 (nI x), zsi (zsi h 3 0 (nI x)) 42 1 (nI x), r_X7_rule _ _ _ _ _ ⟨_, rfl⟩ (t_X7_rule_0 _ _ _ _ (gd (fun z => absurd hv z) (fun _ _ => ?_))), r_X8_rule _ _ _ _ _ ⟨_, rfl⟩ (t_X8_rule_0 _ _ _ _ ?_), fin 0 (by omega) _ (fun _ => ⟨x, x1, rfl⟩) (fun z => absurd z (by omega)) (fun z => absurd z (by omega))⟩
        · rw [hc]
          exact ⟨vp, vp, gd' (a := 0) (b := 20) (fun _ _ => ⟨vp, vp, rfl, rfl⟩) (fun z => absurd hb z)⟩
        · rw [ej]
          exact ⟨fun z => absurd z (by omega), fun z => ge' (fun _ _ => ⟨by rw [zr_ne (by omega), eqR 0 (by omega)], rfl⟩) (fun z => absurd hb z), fun z => absurd z (by omega), fun z => absurd z (by omega), fun z => absurd z (by omega), fun z => absurd z (by omega), trivial⟩
      · refine ⟨.int (-1000), h, h, r_X7_rule _ _ _ _ _ ⟨_, rfl⟩ (t_X7_rule_0 _ _ _ _ (gd (fun z => absurd hv z) (fun _ _ => ?_))), r_X8_rule _ _ _ _ _ ⟨_, rfl⟩ (t_X8_rule_0 _ _ _ _ ?_), hi⟩
        · rw [hc]
          exact ⟨vp, vp, gd' (a := 0) (b := 20) (fun u v => absurd ⟨u, v⟩ hb) (fun _ => ⟨rfl, rfl⟩)⟩
        · rw [ej]
          exact ⟨fun z => absurd z (by omega), fun z => ge' (fun u v => absurd ⟨u, v⟩ hb) (fun _ => ⟨rfl, rfl⟩), fun z => absurd z (by omega), fun z => absurd z (by omega), fun z => absurd z (by omega), fun z => absurd z (by omega), trivial⟩
    · subst e
      by_cases hb : (-100) ≤ b ∧ b ≤ 100
      · skip
        refine ⟨.int (h.1 3 1), zsi h 3 1 (b), zsi (zsi h 3 1 (b)) 42 2 (b), r_X7_rule _ _ _ _ _ ⟨_, rfl⟩ (t_X7_rule_0 _ _ _ _ (gd (fun z => absurd hv z) (fun _ _ => ?_))), r_X8_rule _ _ _ _ _ ⟨_, rfl⟩ (t_X8_rule_0 _ _ _ _ ?_), fin 1 (by omega) _ (fun z => absurd z (by omega)) (fun z => absurd z (by omega)) (fun z => absurd z (by omega))⟩
        · rw [hc]
          exact ⟨vp, vp, gd' (a := (-100)) (b := 100) (fun _ _ => ⟨vp, vp, rfl, rfl⟩) (fun z => absurd hb z)⟩
        · rw [ej]
          exact ⟨fun z => absurd z (by omega), fun z => absurd z (by omega), fun z => ge' (fun _ _ => ⟨by rw [zr_ne (by omega), eqR 1 (by omega)], rfl⟩) (fun z => absurd hb z), fun z => absurd z (by omega), fun z => absurd z (by omega), fun z => absurd z (by omega), trivial⟩
      · refine ⟨.int (-1000), h, h, r_X7_rule _ _ _ _ _ ⟨_, rfl⟩ (t_X7_rule_0 _ _ _ _ (gd (fun z => absurd hv z) (fun _ _ => ?_))), r_X8_rule _ _ _ _ _ ⟨_, rfl⟩ (t_X8_rule_0 _ _ _ _ ?_), hi⟩
        · rw [hc]
          exact ⟨vp, vp, gd' (a := (-100)) (b := 100) (fun u v => absurd ⟨u, v⟩ hb) (fun _ => ⟨rfl, rfl⟩)⟩
        · rw [ej]
          exact ⟨fun z => absurd z (by omega), fun z => absurd z (by omega), fun z => ge' (fun u v => absurd ⟨u, v⟩ hb) (fun _ => ⟨rfl, rfl⟩), fun z => absurd z (by omega), fun z => absurd z (by omega), fun z => absurd z (by omega), trivial⟩
    · subst e
      by_cases hb : 0 ≤ b ∧ b ≤ 100
      · obtain ⟨x, x1, rfl⟩ := in_n (b := 100) (by omega) hb.1 hb.2
        refine ⟨.int (h.1 3 2), zsi h 3 2 (nI x), zsi (zsi h 3 2 (nI x)) 42 3 (nI x), r_X7_rule _ _ _ _ _ ⟨_, rfl⟩ (t_X7_rule_0 _ _ _ _ (gd (fun z => absurd hv z) (fun _ _ => ?_))), r_X8_rule _ _ _ _ _ ⟨_, rfl⟩ (t_X8_rule_0 _ _ _ _ ?_), fin 2 (by omega) _ (fun z => absurd z (by omega)) (fun _ => ⟨x, x1, rfl⟩) (fun z => absurd z (by omega))⟩
        · rw [hc]
          exact ⟨vp, vp, gd' (a := 0) (b := 100) (fun _ _ => ⟨vp, vp, rfl, rfl⟩) (fun z => absurd hb z)⟩
        · rw [ej]
          exact ⟨fun z => absurd z (by omega), fun z => absurd z (by omega), fun z => absurd z (by omega), fun z => ge' (fun _ _ => ⟨by rw [zr_ne (by omega), eqR 2 (by omega)], rfl⟩) (fun z => absurd hb z), fun z => absurd z (by omega), fun z => absurd z (by omega), trivial⟩
      · refine ⟨.int (-1000), h, h, r_X7_rule _ _ _ _ _ ⟨_, rfl⟩ (t_X7_rule_0 _ _ _ _ (gd (fun z => absurd hv z) (fun _ _ => ?_))), r_X8_rule _ _ _ _ _ ⟨_, rfl⟩ (t_X8_rule_0 _ _ _ _ ?_), hi⟩
        · rw [hc]
          exact ⟨vp, vp, gd' (a := 0) (b := 100) (fun u v => absurd ⟨u, v⟩ hb) (fun _ => ⟨rfl, rfl⟩)⟩
        · rw [ej]
          exact ⟨fun z => absurd z (by omega), fun z => absurd z (by omega), fun z => absurd z (by omega), fun z => ge' (fun u v => absurd ⟨u, v⟩ hb) (fun _ => ⟨rfl, rfl⟩), fun z => absurd z (by omega), fun z => absurd z (by omega), trivial⟩
    · subst e
      by_cases hb : 500 ≤ b ∧ b ≤ 9000
      · obtain ⟨x, x1, rfl⟩ := in_n (b := 9000) (by omega) (Int32.le_trans (by decide) hb.1) hb.2
        have x0 : 500 ≤ x := (nI_leI (a := 500) (b := x) (by omega) (by omega)).mp hb.1
        refine ⟨.int (h.1 3 3), zsi h 3 3 (nI x), zsi (zsi h 3 3 (nI x)) 42 4 (nI x), r_X7_rule _ _ _ _ _ ⟨_, rfl⟩ (t_X7_rule_0 _ _ _ _ (gd (fun z => absurd hv z) (fun _ _ => ?_))), r_X8_rule _ _ _ _ _ ⟨_, rfl⟩ (t_X8_rule_0 _ _ _ _ ?_), fin 3 (by omega) _ (fun z => absurd z (by omega)) (fun z => absurd z (by omega)) (fun _ => ⟨x, x0, x1, rfl⟩)⟩
        · rw [hc]
          exact ⟨vp, vp, gd' (a := 500) (b := 9000) (fun _ _ => ⟨vp, vp, rfl, rfl⟩) (fun z => absurd hb z)⟩
        · rw [ej]
          exact ⟨fun z => absurd z (by omega), fun z => absurd z (by omega), fun z => absurd z (by omega), fun z => absurd z (by omega), fun z => ge' (fun _ _ => ⟨by rw [zr_ne (by omega), eqR 3 (by omega)], rfl⟩) (fun z => absurd hb z), fun z => absurd z (by omega), trivial⟩
      · refine ⟨.int (-1000), h, h, r_X7_rule _ _ _ _ _ ⟨_, rfl⟩ (t_X7_rule_0 _ _ _ _ (gd (fun z => absurd hv z) (fun _ _ => ?_))), r_X8_rule _ _ _ _ _ ⟨_, rfl⟩ (t_X8_rule_0 _ _ _ _ ?_), hi⟩
        · rw [hc]
          exact ⟨vp, vp, gd' (a := 500) (b := 9000) (fun u v => absurd ⟨u, v⟩ hb) (fun _ => ⟨rfl, rfl⟩)⟩
        · rw [ej]
          exact ⟨fun z => absurd z (by omega), fun z => absurd z (by omega), fun z => absurd z (by omega), fun z => absurd z (by omega), fun z => ge' (fun u v => absurd ⟨u, v⟩ hb) (fun _ => ⟨rfl, rfl⟩), fun z => absurd z (by omega), trivial⟩
    · subst e
      by_cases hb : 0 ≤ b ∧ b ≤ 300
      · skip
        refine ⟨.int (h.1 3 4), zsi h 3 4 (b), zsi (zsi h 3 4 (b)) 42 5 (b), r_X7_rule _ _ _ _ _ ⟨_, rfl⟩ (t_X7_rule_0 _ _ _ _ (gd (fun z => absurd hv z) (fun _ _ => ?_))), r_X8_rule _ _ _ _ _ ⟨_, rfl⟩ (t_X8_rule_0 _ _ _ _ ?_), fin 4 (by omega) _ (fun z => absurd z (by omega)) (fun z => absurd z (by omega)) (fun z => absurd z (by omega))⟩
        · rw [hc]
          exact ⟨vp, vp, gd' (a := 0) (b := 300) (fun _ _ => ⟨vp, vp, rfl, rfl⟩) (fun z => absurd hb z)⟩
        · rw [ej]
          exact ⟨fun z => absurd z (by omega), fun z => absurd z (by omega), fun z => absurd z (by omega), fun z => absurd z (by omega), fun z => absurd z (by omega), fun z => ge' (fun _ _ => ⟨by rw [zr_ne (by omega), eqR 4 (by omega)], rfl⟩) (fun z => absurd hb z), trivial⟩
      · refine ⟨.int (-1000), h, h, r_X7_rule _ _ _ _ _ ⟨_, rfl⟩ (t_X7_rule_0 _ _ _ _ (gd (fun z => absurd hv z) (fun _ _ => ?_))), r_X8_rule _ _ _ _ _ ⟨_, rfl⟩ (t_X8_rule_0 _ _ _ _ ?_), hi⟩
        · rw [hc]
          exact ⟨vp, vp, gd' (a := 0) (b := 300) (fun u v => absurd ⟨u, v⟩ hb) (fun _ => ⟨rfl, rfl⟩)⟩
        · rw [ej]
          exact ⟨fun z => absurd z (by omega), fun z => absurd z (by omega), fun z => absurd z (by omega), fun z => absurd z (by omega), fun z => absurd z (by omega), fun z => ge' (fun u v => absurd ⟨u, v⟩ hb) (fun _ => ⟨rfl, rfl⟩), trivial⟩
  · have hx : a.toInt < 0 ∨ 4 < a.toInt := by
      rw [Int32.le_iff_toInt_le, Int32.le_iff_toInt_le] at hv
      have e0 : (0 : Int32).toInt = 0 := rfl
      have e4 : (4 : Int32).toInt = 4 := rfl
      omega
    exact ⟨.int (-1000), h, h, r_X7_rule _ _ _ _ _ ⟨_, rfl⟩ (t_X7_rule_0 _ _ _ _ (gd (fun _ => ⟨rfl, rfl⟩) (fun u v => absurd ⟨u, v⟩ hv))), r_X8_rule _ _ _ _ _ ⟨_, rfl⟩ (t_X8_rule_0 _ _ _ _ ⟨fun _ => ⟨rfl, rfl⟩, fun z => absurd hx (by omega), fun z => absurd hx (by omega), fun z => absurd hx (by omega), fun z => absurd hx (by omega), fun z => absurd hx (by omega), trivial⟩), hi⟩
