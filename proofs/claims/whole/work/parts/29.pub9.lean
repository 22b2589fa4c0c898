/-! ===== the fewest causes ===== -/
theorem unM_hi {S c : Nat} (g : Nat → Nat) (hS : S < 2 ^ c) : ∀ d, unM S g (c + d) = unM S g c
  | 0 => rfl
  | d + 1 => by
    have : S.testBit (c + d) = false := Nat.testBit_lt_two_pow (Nat.lt_of_lt_of_le hS (Nat.pow_le_pow_right (by omega) (by omega)))
    rw [← Nat.add_assoc, unM_s, this, unM_hi g hS d]; rfl
theorem unM_cg {S T : Nat} (g : Nat → Nat) : ∀ c, (∀ i, i < c → S.testBit i = T.testBit i) → unM S g c = unM T g c
  | 0, _ => rfl
  | c + 1, h => by rw [unM_s, unM_s, h c (by omega), unM_cg g c (fun i hi => h i (by omega))]
theorem tb_add {S c : Nat} (hS : S < 2 ^ c) (i : Nat) : (S + 2 ^ c).testBit i = (S.testBit i || decide (i = c)) := by
  have h := Nat.testBit_two_pow_mul_add 1 hS i
  rw [Nat.mul_one, Nat.add_comm] at h
  rw [h]
  by_cases q : i < c
  · rw [if_pos q, decide_eq_false (by omega), Bool.or_false]
  · rw [if_neg q]
    have e : S.testBit i = false := Nat.testBit_lt_two_pow (Nat.lt_of_lt_of_le hS (Nat.pow_le_pow_right (by omega) (by omega)))
    rw [e, Bool.false_or]
    by_cases q2 : i = c
    · subst q2; rw [Nat.sub_self]; simp
    · rw [decide_eq_false q2]
      exact Nat.testBit_lt_two_pow (Nat.one_lt_two_pow (by omega))
theorem unM_add {S c : Nat} (g : Nat → Nat) (hS : S < 2 ^ c) (hc : c < 16) : unM (S + 2 ^ c) g 16 = unM S g 16 ||| g c := by
  have h2 : S + 2 ^ c < 2 ^ (c + 1) := by rw [Nat.pow_succ]; omega
  have a1 := unM_hi g h2 (15 - c)
  have a2 := unM_hi g hS (16 - c)
  rw [show c + 1 + (15 - c) = 16 by omega] at a1
  rw [show c + (16 - c) = 16 by omega] at a2
  rw [a1, a2, unM_s, tb_add hS c, decide_eq_true rfl, Bool.or_true, if_pos rfl, unM_cg (S := S + 2 ^ c) (T := S) g c (fun i hi => by rw [tb_add hS i, decide_eq_false (by omega), Bool.or_false])]
theorem ctN_one {p : Nat → Bool} {c : Nat} (hc : p c = false) : ∀ n, ctN (fun i => p i || decide (i = c)) n = ctN p n + (if c < n then 1 else 0)
  | 0 => rfl
  | n + 1 => by
    rw [ctN_s, ctN_s, ctN_one hc n]
    by_cases e : n = c
    · subst e
      rw [hc, if_neg (Nat.lt_irrefl n), if_pos (by simp), if_neg (by simp), if_pos (by omega)]
    · rw [decide_eq_false e, Bool.or_false]
      by_cases q : c < n
      · rw [if_pos q, if_pos (show c < n + 1 by omega)]; omega
      · rw [if_neg q, if_neg (show ¬ c < n + 1 by omega)]; omega
theorem pop_add {S c : Nat} (hS : S < 2 ^ c) (hc : c < 16) : pop (S + 2 ^ c) = pop S + 1 := by
  have e : S.testBit c = false := Nat.testBit_lt_two_pow hS
  unfold pop
  rw [ctN_cg (q := fun i => S.testBit i || decide (i = c)) (fun i _ => tb_add hS i), ctN_one e, if_pos hc]
/-- what a set of causes costs -/
def prc (S : Nat) : Nat := 65536 * pop S + S
theorem prc_add {S c : Nat} (hS : S < 2 ^ c) (hc : c < 16) : prc (S + 2 ^ c) = prc S + (65536 + 2 ^ c) := by
  unfold prc; rw [pop_add hS hc]; omega
theorem prc_lt {S : Nat} (h : S < 65536) : prc S < 6488064 := by
  have := pop_le S
  unfold prc; omega
theorem p16 {c : Nat} (h : c ≤ 16) : 2 ^ c ≤ 65536 := Nat.pow_le_pow_right (n := 2) (by omega) h
def KC (g : Nat → Nat) (nm c : Nat) (v : Nat → Nat) : Prop := ∀ m, m < 2 ^ nm → v m ≤ 6488064 ∧ (∀ S, S < 2 ^ c → unM S g 16 = m → v m ≤ prc S) ∧ (v m = 6488064 ∨ ∃ S, S < 2 ^ c ∧ unM S g 16 = m ∧ v m = prc S)
def IC (nm met price : Nat) (v u : Nat → Nat) (j : Nat) : Prop := ∀ m, m < 2 ^ nm → u m ≤ v m ∧ (∀ had, j ≤ had → had < 2 ^ nm → had ||| met = m → v had ≠ 6488064 → u m ≤ v had + price) ∧ (u m = v m ∨ ∃ had, j ≤ had ∧ had < 2 ^ nm ∧ had ||| met = m ∧ v had ≠ 6488064 ∧ u m = v had + price)
theorem split_c {S c : Nat} (h : S < 2 ^ (c + 1)) : S < 2 ^ c ∨ ∃ T, T < 2 ^ c ∧ S = T + 2 ^ c := by
  rw [Nat.pow_succ] at h
  rcases Nat.lt_or_ge S (2 ^ c) with q | q
  · exact .inl q
  · exact .inr ⟨S - 2 ^ c, by omega, by omega⟩
theorem KC.step {g : Nat → Nat} {nm c : Nat} {v u : Nat → Nat} (hk : KC g nm c v) (hg : ∀ c, g c < 2 ^ nm) (hc : c < 16) (hi : IC nm (g c) (65536 + 2 ^ c) v u 0) : KC g nm (c + 1) u := by
  intro m hm
  obtain ⟨k1, k2, k3⟩ := hk m hm
  obtain ⟨i1, i2, i3⟩ := hi m hm
  have h2c : 2 ^ c < 2 ^ (c + 1) := Nat.pow_lt_pow_right (by omega) (by omega)
  have hlt : ∀ T, T < 2 ^ c → T < 65536 := fun T hT => Nat.lt_of_lt_of_le hT (p16 (by omega))
  refine ⟨by omega, fun S hS hU => ?_, ?_⟩
  · rcases split_c hS with q | ⟨T, hT, rfl⟩
    · have := k2 S q hU; omega
    · rw [unM_add g hT hc] at hU
      have hl : unM T g 16 < 2 ^ nm := unM_lt hg 16
      obtain ⟨l1, l2, l3⟩ := hk _ hl
      have b := l2 T hT rfl
      have b2 := prc_lt (hlt T hT)
      have := i2 _ (by omega) hl hU (by omega)
      rw [prc_add hT hc]; omega
  · rcases i3 with q | ⟨had, -, a2, a3, a4, a5⟩
    · rcases k3 with z | ⟨S, s1, s2, s3⟩
      · exact .inl (by omega)
      · exact .inr ⟨S, by omega, s2, by omega⟩
    · obtain ⟨l1, l2, l3⟩ := hk had a2
      rcases l3 with z | ⟨S, s1, s2, s3⟩
      · exact absurd z a4
      · refine .inr ⟨S + 2 ^ c, by rw [Nat.pow_succ]; omega, by rw [unM_add g s1 hc, s2]; exact a3, ?_⟩
        rw [prc_add s1 hc]; omega
theorem KC.skip {g : Nat → Nat} {nm c : Nat} {v : Nat → Nat} (hk : KC g nm c v) (hc : c < 16) (hg : g c = 0) : KC g nm (c + 1) v := by
  intro m hm
  obtain ⟨k1, k2, k3⟩ := hk m hm
  have h2c : 2 ^ c < 2 ^ (c + 1) := Nat.pow_lt_pow_right (by omega) (by omega)
  refine ⟨k1, fun S hS hU => ?_, ?_⟩
  · rcases split_c hS with q | ⟨T, hT, rfl⟩
    · exact k2 S q hU
    · rw [unM_add g hT hc, hg, Nat.or_zero] at hU
      have := k2 T hT hU
      rw [prc_add hT hc]; omega
  · rcases k3 with z | ⟨S, s1, s2, s3⟩
    · exact .inl z
    · exact .inr ⟨S, by omega, s2, s3⟩
def s34 (a _b : Nat) : Bool := a == 34
def sW (a b : Nat) : Bool := a == 34 || sI a b
theorem s34_W : ∀ x y, sW x y = false → s34 x y = false := by intro x y h; simp [sW] at h; simp [s34, h.1]
theorem sI_W : ∀ x y, sW x y = false → sI x y = false := by intro x y h; simp [sW] at h; exact h.2
theorem sW_A : ∀ x y, sA x y = false → sW x y = false := by
  intro x y h
  simp only [sA, sK, sN, Bool.or_eq_false_iff, Bool.and_eq_false_iff, beq_eq_false_iff_ne] at h
  simp only [sW, sI, sL, Bool.or_eq_false_iff, beq_eq_false_iff_ne]; omega
theorem Fr.cov {h h1 : zH} {k : Nat} {x : Int32} (hf : Fr s34 h h1) : Fr s34 h (zsi h1 34 k x) := hf.si rfl
set_option maxHeartbeats 4000000 in
set_option maxRecDepth 100000 in
theorem c_coverWith {h : zH} {nm c met : Nat} {v : Nat → Nat} (h12 : nm ≤ 12) (hc : c < 16) (hm : met < 2 ^ nm) (hv : ∀ m, m < 2 ^ nm → h.1 34 m = nI (v m)) (hv2 : ∀ m, m < 2 ^ nm → v m ≤ 6488064) :
    ∃ h' u, R_X2_coverWith [.ref 32, .int (nI c), .int (nI met), .int (nI (2 ^ nm - 1))] h none h' ∧ Fr s34 h h' ∧ (∀ m, m < 2 ^ nm → h'.1 34 m = nI (u m)) ∧ IC nm met (65536 + 2 ^ c) v u 0 := by
  have h4096 := p12 h12
  have h2c := p16 (c := c) (by omega)
  have hpos : 0 < 2 ^ nm := Nat.pow_pos (by omega)
  have key : ∀ (j : Nat) (h1 : zH) (u : Nat → Nat), j ≤ 2 ^ nm → Fr s34 h h1 → (∀ m, m < 2 ^ nm → h1.1 34 m = nI (u m)) → IC nm met (65536 + 2 ^ c) v u j → ∃ h' u', zG M_X2_coverWith (fun r1 h2 => r1 = none ∧ h2 = h') (zat M_X2_coverWith 11) [some (.ref 32), some (.int (nI c)), some (.int (nI met)), some (.int (nI (2 ^ nm - 1))), some (.int (nI (65536 + 2 ^ c))), some (.int (nI j + (-1)))] [] h1 ∧ Fr s34 h h' ∧ (∀ m, m < 2 ^ nm → h'.1 34 m = nI (u' m)) ∧ IC nm met (65536 + 2 ^ c) v u' 0 := by
    intro j
    induction j with
    | zero =>
      intro h1 u _ hf hu hi
      exact ⟨h1, u, t_X2_coverWith_11 _ _ _ _ _ _ _ ⟨fun _ => ⟨rfl, rfl⟩, fun z => absurd (by decide) z⟩, hf, hu, hi⟩
    | succ j ih =>
      intro h1 u hj hf hu hi
      rw [pk_m1]
      have vp : vp_in (nI j) 4096 := vp_in_nI (by omega) (by omega)
      have hn : ¬ (nI j < 0) := by rw [q0, nI_ltI (by omega) (by omega)]; omega
      have hjj : u j = v j := by
        obtain ⟨-, -, i3⟩ := hi j (by omega)
        rcases i3 with q | ⟨had, a1, a2, a3, -⟩
        · exact q
        · have : had ≤ had ||| met := Nat.left_le_or
          omega
      have htl : j ||| met < 2 ^ nm := or_lt (by omega) hm
      have ej : (h1.1 34 j = 6488064) ↔ v j = 6488064 := by
        rw [hu j (by omega), hjj, show (6488064 : Int32) = nI 6488064 from rfl, nI_eq (by have := hv2 j (by omega); omega) (by omega)]
      by_cases hU : v j = 6488064
      · have hi' : IC nm met (65536 + 2 ^ c) v u j := fun m hm2 => by
          obtain ⟨i1, i2, i3⟩ := hi m hm2
          refine ⟨i1, fun had a1 a2 a3 a4 => ?_, ?_⟩
          · by_cases e : had = j
            · subst e; exact absurd hU a4
            · exact i2 had (by omega) a2 a3 a4
          · rcases i3 with q | ⟨had, a1, a2⟩
            · exact .inl q
            · exact .inr ⟨had, by omega, a2⟩
        obtain ⟨h', u', g1, g2⟩ := ih h1 u (by omega) hf hu hi'
        refine ⟨h', u', t_X2_coverWith_11 _ _ _ _ _ _ _ ⟨fun z => absurd z hn, fun _ => ⟨vp, ?_⟩⟩, g2⟩
        rw [nI_clamp (by omega)]
        exact ⟨fun _ => g1, fun z => absurd (ej.mpr hU) z⟩
      · have hvl := hv2 j (by omega)
        obtain ⟨t1, t2, t3⟩ := hi (j ||| met) htl
        have hvt := hv2 _ htl
        have mn := c_min (h := h1) (a := u (j ||| met)) (b := v j + (65536 + 2 ^ c)) (by omega) (by omega)
        have hi' : IC nm met (65536 + 2 ^ c) v (fun m => if m = j ||| met then (if v j + (65536 + 2 ^ c) < u (j ||| met) then v j + (65536 + 2 ^ c) else u (j ||| met)) else u m) j := fun m hm2 => by
          obtain ⟨i1, i2, i3⟩ := hi m hm2
          dsimp only
          by_cases e : m = j ||| met
          · rw [if_pos e]
            refine ⟨by rw [e]; split <;> omega, fun had a1 a2 a3 a4 => ?_, ?_⟩
            · by_cases e2 : had = j
              · subst e2; split <;> omega
              · have := i2 had (by omega) a2 a3 a4
                rw [e] at this
                split <;> omega
            · by_cases q : v j + (65536 + 2 ^ c) < u (j ||| met)
              · rw [if_pos q]; exact .inr ⟨j, Nat.le_refl _, by omega, e.symm, hU, rfl⟩
              · rw [if_neg q]
                rcases t3 with z | ⟨had, a1, a2, a3, a4, a5⟩
                · exact .inl (by rw [e]; exact z)
                · exact .inr ⟨had, by omega, a2, by rw [e]; exact a3, a4, a5⟩
          · rw [if_neg e]
            refine ⟨i1, fun had a1 a2 a3 a4 => ?_, ?_⟩
            · by_cases e2 : had = j
              · subst e2; exact absurd a3.symm e
              · exact i2 had (by omega) a2 a3 a4
            · rcases i3 with q | ⟨had, a1, a2⟩
              · exact .inl q
              · exact .inr ⟨had, by omega, a2⟩
        obtain ⟨h', u', g1, g2⟩ := ih (zsi h1 34 (j ||| met) (nI (if v j + (65536 + 2 ^ c) < u (j ||| met) then v j + (65536 + 2 ^ c) else u (j ||| met)))) _ (by omega) hf.cov (fun m hm2 => by
          by_cases e : m = j ||| met
          · rw [e, zr_eq, if_pos rfl]
          · rw [zr_nj e, if_neg e]; exact hu m hm2) hi'
        refine ⟨h', u', t_X2_coverWith_11 _ _ _ _ _ _ _ ⟨fun z => absurd z hn, fun _ => ⟨vp, ?_⟩⟩, g2⟩
        rw [nI_clamp (by omega)]
        refine ⟨fun z => absurd (ej.mp z) hU, fun _ => ?_⟩
        have vt : vp_in (nI (j ||| met)) 4096 := vp_in_nI (by omega) (by omega)
        rw [n_or, nI_clamp (by omega), hu _ htl, hu j (by omega), hjj, nI_add]
        exact ⟨vt, vp, _, _, mn, vt, g1⟩
  obtain ⟨h', u, g1, g2⟩ := key (2 ^ nm) h v (Nat.le_refl _) Fr.rf hv (fun m hm2 => ⟨Nat.le_refl _, fun had a1 a2 => absurd a2 (by omega), .inl rfl⟩)
  refine ⟨h', u, r_X2_coverWith _ _ _ _ _ _ (by simp) (t_X2_coverWith_0 _ _ _ _ _ ?_), g2⟩
  rw [n_shl (by omega), q65536, nI_add]
  rw [show nI (2 ^ nm) + (-1) = nI (2 ^ nm - 1) by
    obtain ⟨q, hq⟩ : ∃ q, 2 ^ nm = q + 1 := ⟨2 ^ nm - 1, by omega⟩
    rw [hq, pk_m1, Nat.add_sub_cancel]] at g1
  exact g1
/-- the answer that fewest asks for -/
def isFew (g : Nat → Nat) (A : Nat) (r : Int32) : Prop := (r = -4 ∧ ∀ S, S < 65536 → unM S g 16 ≠ A) ∨ ∃ S, S < 65536 ∧ r = nI S ∧ unM S g 16 = A ∧ ∀ T, T < 65536 → unM T g 16 = A → prc S ≤ prc T
theorem isFew_u {g : Nat → Nat} {A : Nat} {r r' : Int32} (h1 : isFew g A r) (h2 : isFew g A r') : r = r' := by
  rcases h1 with ⟨a1, a2⟩ | ⟨S, s1, s2, s3, s4⟩
  · rcases h2 with ⟨b1, -⟩ | ⟨T, t1, t2, t3, -⟩
    · rw [a1, b1]
    · exact absurd t3 (a2 T t1)
  · rcases h2 with ⟨b1, b2⟩ | ⟨T, t1, t2, t3, t4⟩
    · exact absurd s3 (b2 S s1)
    · have e1 := s4 T t1 t3
      have e2 := t4 S s1 s3
      have : S = T := by unfold prc at e1 e2; omega
      rw [s2, t2, this]
section FW
variable {t n w : Nat → Nat} {f sk nm : Nat} {sw : Int32} {mk : Nat → LT}
theorem CA.fr34 {h h' : zH} (hb : CA t n w f sk nm sw mk h) (hf : Fr s34 h h') : CA t n w f sk nm sw mk h' := ⟨hb.1.fr hf (by rintro a j (rfl | rfl | rfl | rfl) <;> rfl), hb.2.1.fr hf (fun _ => rfl), hb.2.2.fr hf (fun _ => rfl) (fun _ => rfl)⟩
theorem Fr.c34 {h h' : zH} (hf : Fr sI h h') (m : Nat) : h'.1 34 m = h.1 34 m := hf 34 m rfl
set_option maxHeartbeats 4000000 in
set_option maxRecDepth 100000 in
theorem c_leastCover {h : zH} (hb : CA t n w f sk nm sw mk h) {hh : Nat} (hh9 : hh ≤ 900) : ∃ r h', R_X2_leastCover [.ref 32, .int (nI hh)] h (some (.int r)) h' ∧ isFew (fun c => metN t n w sk sw mk nm c hh) (2 ^ nm - 1) r ∧ Fr sW h h' ∧ RK h' t n w := by
  have h12 := hb.2.2.1
  have h4096 := p12 h12
  have hpos : 0 < 2 ^ nm := Nat.pow_pos (by omega)
  have hg : ∀ c, metN t n w sk sw mk nm c hh < 2 ^ nm := fun c => metN_lt t n w sk sw mk nm c hh
  have l2 : ∀ (d c : Nat) (h1 : zH) (v : Nat → Nat), c + d = 16 → Fr sW h h1 → CA t n w f sk nm sw mk h1 → (∀ m, m < 2 ^ nm → h1.1 34 m = nI (v m)) → KC (fun c => metN t n w sk sw mk nm c hh) nm c v → ∃ r h', zG M_X2_leastCover (fun r1 h2 => r1 = some (.int r) ∧ h2 = h') (zat M_X2_leastCover 36) [some (.ref 32), some (.int (nI hh)), some (.int (nI (2 ^ nm - 1))), some (.int (nI c)), none] [] h1 ∧ isFew (fun c => metN t n w sk sw mk nm c hh) (2 ^ nm - 1) r ∧ Fr sW h h' ∧ RK h' t n w := by
    intro d
    induction d with
    | zero =>
      intro c h1 v hc hf hb1 hv hk
      have : c = 16 := by omega
      subst this
      have vp : vp_in (nI (2 ^ nm - 1)) 4096 := vp_in_nI (by omega) (by omega)
      obtain ⟨k1, k2, k3⟩ := hk (2 ^ nm - 1) (by omega)
      have ea : h1.1 34 (2 ^ nm - 1) = nI (v (2 ^ nm - 1)) := hv _ (by omega)
      have ee : (h1.1 34 (2 ^ nm - 1) = 6488064) ↔ v (2 ^ nm - 1) = 6488064 := by
        rw [ea, show (6488064 : Int32) = nI 6488064 from rfl, nI_eq (by omega) (by omega)]
      have hend : ¬ ¬ ((16 : Int32) ≤ nI 16) := by decide
      have hcl : (nI (2 ^ nm - 1)).toNatClampNeg = 2 ^ nm - 1 := nI_clamp (by omega)
      rcases k3 with z | ⟨S, s1, s2, s3⟩
      · refine ⟨-4, h1, t_X2_leastCover_36 _ _ _ _ _ ⟨fun _ => ⟨vp, ?_⟩, fun z => absurd z hend⟩, .inl ⟨rfl, fun S hS hU => ?_⟩, hf, hb1.2.1⟩
        · rw [hcl]; exact ⟨fun q => absurd (ee.mpr z) q, fun _ => ⟨rfl, rfl⟩⟩
        · have := k2 S hS hU
          have := prc_lt hS
          omega
      · have hp := prc_lt s1
        refine ⟨nI S, h1, t_X2_leastCover_36 _ _ _ _ _ ⟨fun _ => ⟨vp, ?_⟩, fun z => absurd z hend⟩, .inr ⟨S, s1, rfl, s2, fun T hT hU => ?_⟩, hf, hb1.2.1⟩
        · rw [hcl]
          refine ⟨fun _ => ⟨vp, ?_, rfl⟩, fun q => absurd (fun y => by have := ee.mp y; omega) q⟩
          rw [ea, q65535, n_and, show 65535 = 2 ^ 16 - 1 from rfl, Nat.and_two_pow_sub_one_eq_mod, s3]
          congr 3
          unfold prc
          have s1 : S < 65536 := s1
          omega
        · rw [← s3]; exact k2 T hT hU
    | succ d ih =>
      intro c h1 v hc hf hb1 hv hk
      have h16 : ¬ ((16 : Int32) ≤ nI c) := by rw [q16, nI_leI (by omega) (by omega)]; omega
      obtain ⟨h2, r1, f2, k2⟩ := c_marksMet hb1 (c := c) (hh := hh) (A := 2 ^ nm - 1) (by omega) hh9 (by omega)
      have em : bm (fun m => (2 ^ nm - 1).testBit m && anyM (LTS t n w sk sw c hh) (mk m)) nm = metN t n w sk sw mk nm c hh := bm_congr (fun i hi => by rw [all_bit, decide_eq_true hi, Bool.true_and])
      rw [em] at r1
      have hb2 := hb1.fr f2 k2
      have hv2 : ∀ m, m < 2 ^ nm → h2.1 34 m = nI (v m) := fun m hm => by rw [f2.c34 m]; exact hv m hm
      have hgc := hg c
      have ez : nI (metN t n w sk sw mk nm c hh) = 0 ↔ metN t n w sk sw mk nm c hh = 0 := nI_z (by omega)
      by_cases h0 : metN t n w sk sw mk nm c hh = 0
      · obtain ⟨r, h', g1, g2⟩ := ih (c + 1) h2 v (by omega) (hf.tr (f2.wk sI_W)) hb2 hv2 (hk.skip (by omega) h0)
        refine ⟨r, h', t_X2_leastCover_36 _ _ _ _ _ ⟨fun z => absurd z h16, fun _ => ⟨_, _, r1, fun _ => ?_, fun z => absurd (ez.mpr h0) z⟩⟩, g2⟩
        rw [nI_1]; exact g1
      · obtain ⟨h3, u, r3, f3, hu, hic⟩ := c_coverWith (h := h2) (c := c) h12 (by omega) hgc hv2 (fun m hm => (hk m hm).1)
        obtain ⟨r, h', g1, g2⟩ := ih (c + 1) h3 u (by omega) ((hf.tr (f2.wk sI_W)).tr (f3.wk s34_W)) (hb2.fr34 f3) hu (hk.step hg (by omega) hic)
        refine ⟨r, h', t_X2_leastCover_36 _ _ _ _ _ ⟨fun z => absurd z h16, fun _ => ⟨_, _, r1, fun z => absurd (ez.mp z) h0, fun _ => ⟨_, r3, ?_⟩⟩⟩, g2⟩
        rw [nI_1]; exact g1
  have l1 : ∀ (d i : Nat) (h1 : zH), i + d = 2 ^ nm → Fr s34 h h1 → (∀ m, m < i → h1.1 34 m = nI (if m = 0 then 0 else 6488064)) → ∃ r h', zG M_X2_leastCover (fun r1 h2 => r1 = some (.int r) ∧ h2 = h') (zat M_X2_leastCover 7) [some (.ref 32), some (.int (nI hh)), some (.int (nI (2 ^ nm - 1))), some (.int (nI i)), none] [] h1 ∧ isFew (fun c => metN t n w sk sw mk nm c hh) (2 ^ nm - 1) r ∧ Fr sW h h' ∧ RK h' t n w := by
    intro d
    induction d with
    | zero =>
      intro i h1 hi hf hv
      have : i = 2 ^ nm := by omega
      subst this
      have hlt : nI (2 ^ nm - 1) < nI (2 ^ nm) := by rw [nI_ltI (by omega) (by omega)]; omega
      have h00 : unM 0 (fun c => metN t n w sk sw mk nm c hh) 16 = 0 := unM_hi (c := 0) _ (by omega) 16
      obtain ⟨r, h', g1, g2⟩ := l2 16 0 h1 (fun m => if m = 0 then 0 else 6488064) (by omega) (hf.wk s34_W) (hb.fr34 hf) hv (fun m hm => by
        dsimp only
        refine ⟨by split <;> omega, fun S hS hU => ?_, ?_⟩
        · have : S = 0 := by omega
          subst this
          rw [h00] at hU
          rw [if_pos hU.symm]; omega
        · by_cases e : m = 0
          · rw [if_pos e]; exact .inr ⟨0, by omega, by rw [h00, e], by unfold prc; rw [pop_0]⟩
          · rw [if_neg e]; exact .inl rfl)
      exact ⟨r, h', t_X2_leastCover_7 _ _ _ _ _ ⟨fun _ => g1, fun z => absurd hlt z⟩, g2⟩
    | succ d ih =>
      intro i h1 hi hf hv
      have hlt : ¬ nI (2 ^ nm - 1) < nI i := by rw [nI_ltI (by omega) (by omega)]; omega
      have vp : vp_in (nI i) 4096 := vp_in_nI (by omega) (by omega)
      have hcl : (nI i).toNatClampNeg = i := nI_clamp (by omega)
      have ez : nI i = 0 ↔ i = 0 := nI_z (by omega)
      obtain ⟨r, h', g1, g2⟩ := ih (i + 1) (zsi h1 34 i (nI (if i = 0 then 0 else 6488064))) (by omega) hf.cov (fun m hm => by
        by_cases e : m = i
        · rw [e, zr_eq]
        · rw [zr_nj e]; exact hv m (by omega))
      refine ⟨r, h', t_X2_leastCover_7 _ _ _ _ _ ⟨fun z => absurd z hlt, fun _ => ⟨fun z => ⟨vp, ?_⟩, fun z => ⟨vp, ?_⟩⟩⟩, g2⟩
      · rw [hcl, nI_1]
        rw [if_neg (fun q => z (ez.mpr q))] at g1
        exact g1
      · rw [hcl, nI_1]
        rw [if_pos (ez.mp (Classical.not_not.mp z))] at g1
        exact g1
  obtain ⟨r, h', g1, g2⟩ := l1 (2 ^ nm) 0 h (by omega) Fr.rf (fun m hm => absurd hm (by omega))
  exact ⟨r, h', r_X2_leastCover _ _ _ _ ⟨_, rfl⟩ (t_X2_leastCover_0 _ _ _ ⟨_, _, c_allMarks hb.2.2, g1⟩), g2⟩
end FW
set_option maxHeartbeats 4000000 in
set_option maxRecDepth 100000 in
theorem m_few {h : zH} {g : Nat → Nat} {mk : Nat → LT} {nm : Nat} (hm : MM h mk nm) (hg : ∀ c, c < 16 → h.1 61 c = nI (g c)) (hgl : ∀ c, g c < 2 ^ nm) (y : Int32) : ∃ r, zG M_X8_fewest (fun r1 h2 => r1 = some (.int r) ∧ h2 = h) (zat M_X8_fewest 31) [some (.ref 42), some (.int y), some (.int (-4)), some (.int 17), some (.int 0), none] [] h ∧ isFew g (2 ^ nm - 1) r := by
  have h4096 := p12 hm.1
  have hpos : 0 < 2 ^ nm := Nat.pow_pos (by omega)
  have key : ∀ (m i : Nat) (x b : Int32), i + m = 65536 → ((x = -4 ∧ b = nI 17 ∧ ∀ S, S < i → unM S g 16 ≠ 2 ^ nm - 1) ∨ ∃ S, S < i ∧ x = nI S ∧ b = nI (pop S) ∧ unM S g 16 = 2 ^ nm - 1 ∧ ∀ T, T < i → unM T g 16 = 2 ^ nm - 1 → prc S ≤ prc T) → ∃ r, zG M_X8_fewest (fun r1 h2 => r1 = some (.int r) ∧ h2 = h) (zat M_X8_fewest 31) [some (.ref 42), some (.int y), some (.int x), some (.int b), some (.int (nI i)), none] [] h ∧ isFew g (2 ^ nm - 1) r := by
    intro m
    induction m with
    | zero =>
      intro i x b hi hs
      have : i = 65536 := by omega
      subst this
      refine ⟨x, t_X8_fewest_31 _ _ _ _ _ _ ⟨fun _ => ⟨rfl, rfl⟩, fun z => absurd (by decide) z⟩, ?_⟩
      rcases hs with ⟨a1, -, a3⟩ | ⟨S, s1, s2, -, s4⟩
      · exact .inl ⟨a1, a3⟩
      · exact .inr ⟨S, s1, s2, s4⟩
    | succ m ih =>
      intro i x b hi hs
      have hend : ¬ ((65536 : Int32) ≤ nI i) := by rw [q65536, nI_leI (by omega) (by omega)]; omega
      have hpl := pop_le i
      have hul : unM i g 16 < 2 ^ nm := unM_lt hgl 16
      have ee : nI (unM i g 16) = nI (2 ^ nm - 1) ↔ unM i g 16 = 2 ^ nm - 1 := nI_eq (by omega) (by omega)
      by_cases hle : b ≤ nI (pop i)
      · obtain ⟨r, g1, g2⟩ := ih (i + 1) x b (by omega) (by
          rcases hs with ⟨a1, a2, a3⟩ | ⟨S, s1, s2, s3, s4, s5⟩
          · rw [a2, nI_leI (by omega) (by omega)] at hle; omega
          · refine .inr ⟨S, by omega, s2, s3, s4, fun T hT hU => ?_⟩
            by_cases e : T = i
            · subst e
              have := pop_le S
              rw [s3, nI_leI (by omega) (by omega)] at hle
              unfold prc; omega
            · exact s5 T (by omega) hU)
        refine ⟨r, t_X8_fewest_31 _ _ _ _ _ _ ⟨fun z => absurd z hend, fun _ => ⟨_, _, m_bits (by omega), fun _ => ?_, fun z => absurd hle z⟩⟩, g2⟩
        rw [nI_1]; exact g1
      · by_cases hU : unM i g 16 = 2 ^ nm - 1
        · obtain ⟨r, g1, g2⟩ := ih (i + 1) (nI i) (nI (pop i)) (by omega) (by
            refine .inr ⟨i, by omega, rfl, rfl, hU, fun T hT hU2 => ?_⟩
            by_cases e : T = i
            · subst e; exact Nat.le_refl _
            · rcases hs with ⟨a1, a2, a3⟩ | ⟨S, s1, s2, s3, s4, s5⟩
              · exact absurd hU2 (a3 T (by omega))
              · have q := s5 T (by omega) hU2
                have := pop_le S
                rw [s3, nI_leI (by omega) (by omega)] at hle
                unfold prc at *; omega)
          refine ⟨r, t_X8_fewest_31 _ _ _ _ _ _ ⟨fun z => absurd z hend, fun _ => ⟨_, _, m_bits (by omega), fun z => absurd z hle, fun _ => ⟨_, _, m_metBy hg (by omega), _, _, m_allMarks hm, fun z => absurd (ee.mpr hU) z, fun _ => ?_⟩⟩⟩, g2⟩
          rw [nI_1]; exact g1
        · obtain ⟨r, g1, g2⟩ := ih (i + 1) x b (by omega) (by
            rcases hs with ⟨a1, a2, a3⟩ | ⟨S, s1, s2, s3, s4, s5⟩
            · refine .inl ⟨a1, a2, fun T hT => ?_⟩
              by_cases e : T = i
              · subst e; exact hU
              · exact a3 T (by omega)
            · refine .inr ⟨S, by omega, s2, s3, s4, fun T hT hU2 => ?_⟩
              by_cases e : T = i
              · subst e; exact absurd hU2 hU
              · exact s5 T (by omega) hU2)
          refine ⟨r, t_X8_fewest_31 _ _ _ _ _ _ ⟨fun z => absurd z hend, fun _ => ⟨_, _, m_bits (by omega), fun z => absurd z hle, fun _ => ⟨_, _, m_metBy hg (by omega), _, _, m_allMarks hm, fun _ => ?_, fun z => absurd (fun q => hU (ee.mp q)) z⟩⟩⟩, g2⟩
          rw [nI_1]; exact g1
  exact key 65536 0 (-4) 17 (by omega) (.inl ⟨rfl, rfl, fun S hS => absurd hS (by omega)⟩)
set_option maxHeartbeats 4000000 in
set_option maxRecDepth 100000 in
theorem p_fewest {h : zH} (hi : Inv h) (a : Int32) : Pair R_X7_fewest R_X8_fewest [.int a] h := by
  obtain ⟨t, f, sh, sk, n, w, hs⟩ := hi.1
  by_cases hv : (0 ≤ a ∧ a ≤ 900)
  · obtain ⟨hh, hh1, rfl⟩ := in_n (b := 900) (by omega) hv.1 hv.2
    obtain ⟨mk, nm, hC, hM⟩ := hi.2.1
    obtain ⟨r, h1, r1, hr1, f1, k1⟩ := c_leastCover (f := f) ⟨hs.cs, hs.rk, hC⟩ (hh := hh) hh1
    have hs1 : SXc t f sh sk n w h1 := hs.fr (f1.wk sW_A) k1
    have hM1 : MM h1 mk nm := hM.fr f1 rfl (by rintro a j (rfl | rfl | rfl | rfl) <;> rfl)
    obtain ⟨h2, r2, k2, f2⟩ := m_layRings hs1.bm hs1.cw.2
    have ma := MA.mk' hs1 hM1 f2 k2
    rw [f1 3 4 rfl] at ma
    obtain ⟨h3, r3, g3, f3⟩ := m_layMet ma (hh := hh) hh1
    obtain ⟨r', z1, z2⟩ := m_few (ma.fr f3).2.2 g3 (fun c => metN_lt t n w sk (h.1 3 4) mk nm c hh) (nI hh)
    have er := isFew_u hr1 z2
    subst er
    exact ⟨.int r, h1, h3, r_X7_fewest _ _ _ _ ⟨_, rfl⟩ (t_X7_fewest_0 _ _ _ (gd_isRight' (fun _ _ => ⟨_, _, r1, rfl, rfl⟩) (fun z => absurd hv z))), r_X8_fewest _ _ _ _ ⟨_, rfl⟩ (t_X8_fewest_0 _ _ _ (ge' (fun _ _ => ⟨_, r2, _, r3, z1⟩) (fun z => absurd hv z))), hi.q hs (((f1.wk sW_A).tr (f2.wk sG_A)).tr (f3.wk sT_A)) ((k1.fr f2 (fun _ => rfl)).fr f3 (fun _ => rfl))⟩
  · exact ⟨.int (-1), h, h, r_X7_fewest _ _ _ _ ⟨_, rfl⟩ (t_X7_fewest_0 _ _ _ (gd_isRight' (fun u0 w0 => absurd ⟨u0, w0⟩ hv) (fun _ => ⟨rfl, rfl⟩))), r_X8_fewest _ _ _ _ ⟨_, rfl⟩ (t_X8_fewest_0 _ _ _ (ge' (fun u0 w0 => absurd ⟨u0, w0⟩ hv) (fun _ => ⟨rfl, rfl⟩))), hi⟩
