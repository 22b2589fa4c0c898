/-! ===== what holds between the class and the model, between calls ===== -/
def SX (t : Nat → Nat) (f sh sk : Nat) (n w : Nat → Nat) (T R W C G T' R' W' C' : Nat → Int32) : Prop :=
  TV t ∧ f ≤ 20 ∧ sh ≤ 100 ∧ (500 ≤ sk ∧ sk ≤ 9000) ∧ (∀ j, j < 30 → T j = nI (t j) ∧ T' j = nI (t j)) ∧ (R 0 = nI f ∧ R' 0 = nI f) ∧ R 1 = R' 1 ∧ (R 2 = nI sh ∧ R' 2 = nI sh) ∧ (R 3 = nI sk ∧ R' 3 = nI sk) ∧ R 4 = R' 4 ∧
  (∀ k, k < 4 → n k ≤ 3 ∧ C k = nI (n k) ∧ C' k = nI (n k)) ∧ (∀ j, j < 12 → w j ≤ 1200 ∧ W j = nI (w j) ∧ W' j = nI (w j)) ∧ ∀ k, k < 4 → ∀ i, i < n k → G (3 * k + i) = -1 ∨ G (3 * k + i) = oV (rg t (w (3 * k + i)))
def SXc (t : Nat → Nat) (f sh sk : Nat) (n w : Nat → Nat) (h : zH) : Prop := SX t f sh sk n w (h.1 2) (h.1 3) (h.1 4) (h.1 5) (h.1 6) (h.1 43) (fun j => h.1 42 (j + 1)) (h.1 45) (h.1 44)
def SXk (t : Nat → Nat) (f sh sk : Nat) (n w : Nat → Nat) (p : Nat) (h : zH) : Prop := SX t f sh sk n w (h.1 (9 + 6 * p)) (h.1 (10 + 6 * p)) (h.1 (11 + 6 * p)) (h.1 (12 + 6 * p)) (h.1 (13 + 6 * p)) (fun j => h.1 62 (51 * p + j)) (fun j => h.1 62 (51 * p + 46 + j)) (fun j => h.1 62 (51 * p + 30 + j)) (fun j => h.1 62 (51 * p + 42 + j))
theorem SX.cg {t : Nat → Nat} {f sh sk : Nat} {n w : Nat → Nat} {T R W C G T' R' W' C' U S V D K U' S' V' D' : Nat → Int32} (hs : SX t f sh sk n w T R W C G T' R' W' C')
    (e1 : ∀ j, j < 30 → U j = T j) (e2 : ∀ j, j < 5 → S j = R j) (e3 : ∀ j, j < 12 → V j = W j) (e4 : ∀ j, j < 4 → D j = C j) (e5 : ∀ j, j < 12 → K j = G j) (e6 : ∀ j, j < 30 → U' j = T' j) (e7 : ∀ j, j < 5 → S' j = R' j) (e8 : ∀ j, j < 12 → V' j = W' j) (e9 : ∀ j, j < 4 → D' j = C' j) : SX t f sh sk n w U S V D K U' S' V' D' := by
  obtain ⟨a1, a2, a3, a4, a5, a6, a7, a8, a9, a10, a11, a12, a13⟩ := hs
  refine ⟨a1, a2, a3, a4, fun j hj => by rw [e1 j hj, e6 j hj]; exact a5 j hj, by rw [e2 0 (by omega), e7 0 (by omega)]; exact a6, by rw [e2 1 (by omega), e7 1 (by omega)]; exact a7, by rw [e2 2 (by omega), e7 2 (by omega)]; exact a8, by rw [e2 3 (by omega), e7 3 (by omega)]; exact a9, by rw [e2 4 (by omega), e7 4 (by omega)]; exact a10, fun k hk => by rw [e4 k hk, e9 k hk]; exact a11 k hk, fun j hj => by rw [e3 j hj, e8 j hj]; exact a12 j hj, fun k hk i hi => ?_⟩
  have := (a11 k hk).1
  rw [e5 (3 * k + i) (by omega)]; exact a13 k hk i hi
def IM (h : zH) : Prop := ∃ (mk : Nat → LT) (nm : Nat), MC h mk nm ∧ MM h mk nm
def IP (h : zH) : Prop := ∀ p, p < 12 → h.1 36 p = h.1 50 p ∧ (h.1 36 p = -1 ∨ h.1 36 p = 0 ∨ h.1 36 p = 1)
def ID (h : zH) : Prop := ∃ nd, nd ≤ 60 ∧ h.1 38 3 = nI nd ∧ h.1 42 14 = nI nd ∧ ∀ d, d < 60 → h.1 39 d = h.1 51 d ∧ h.1 40 d = h.1 52 d ∧ h.1 41 d = h.1 53 d ∧ (∃ b, b < 65536 ∧ h.1 41 d = nI b) ∧ (-60) ≤ h.1 39 d ∧ h.1 39 d ≤ 40
def IK (h : zH) : Prop := ∃ k, k ≤ 3 ∧ h.1 0 2 = nI k ∧ h.1 42 28 = nI k ∧ ∀ p, p < k → ∃ t f sh sk n w, SXk t f sh sk n w p h
def Inv (h : zH) : Prop := (∃ t f sh sk n w, SXc t f sh sk n w h) ∧ IM h ∧ IP h ∧ ID h ∧ IK h
/-- what queries may write -/
def sK (a _b : Nat) : Bool := a == 6 || (a == 30 || (a == 31 || (a == 34 || a == 37)))
def sN (a b : Nat) : Bool := (a == 42 && b == 21) || (a == 55 || (a == 56 || (a == 57 || (a == 58 || (a == 59 || (a == 60 || a == 61))))))
def sA (a b : Nat) : Bool := sK a b || sN a b
theorem sA_k {p : Nat} (hp : p < 3) (i j : Nat) (hi : i < 5) : sA (9 + i + 6 * p) j = false := by
  simp only [sA, sK, sN, Bool.or_eq_false_iff, Bool.and_eq_false_iff, beq_eq_false_iff_ne]
  omega
theorem IM.fr {h h' : zH} (hi : IM h) (hf : Fr sA h h') : IM h' := by
  obtain ⟨mk, nm, h1, h2⟩ := hi
  exact ⟨mk, nm, h1.fr hf (fun _ => rfl) (fun _ => rfl), h2.fr hf rfl (by rintro a j (rfl | rfl | rfl | rfl) <;> rfl)⟩
theorem IP.fr {h h' : zH} (hi : IP h) (hf : Fr sA h h') : IP h' := fun p hp => by rw [hf 36 p rfl, hf 50 p rfl]; exact hi p hp
theorem ID.fr {h h' : zH} (hi : ID h) (hf : Fr sA h h') : ID h' := by
  obtain ⟨nd, a, b, c, d⟩ := hi
  exact ⟨nd, a, by rw [hf 38 3 rfl]; exact b, by rw [hf 42 14 rfl]; exact c, fun k hk => by rw [hf 39 k rfl, hf 40 k rfl, hf 41 k rfl, hf 51 k rfl, hf 52 k rfl, hf 53 k rfl]; exact d k hk⟩
theorem SXk.fr {t : Nat → Nat} {f sh sk : Nat} {n w : Nat → Nat} {p : Nat} {h h' : zH} (hs : SXk t f sh sk n w p h) (hp : p < 3) (hf : Fr sA h h') : SXk t f sh sk n w p h' := by
  have e : ∀ i j, i < 5 → h'.1 (9 + i + 6 * p) j = h.1 (9 + i + 6 * p) j := fun i j hi => hf _ _ (sA_k hp i j hi)
  exact SX.cg hs (fun j _ => e 0 j (by omega)) (fun j _ => e 1 j (by omega)) (fun j _ => e 2 j (by omega)) (fun j _ => e 3 j (by omega)) (fun j _ => e 4 j (by omega)) (fun j _ => hf 62 _ rfl) (fun j _ => hf 62 _ rfl) (fun j _ => hf 62 _ rfl) (fun j _ => hf 62 _ rfl)
theorem IK.fr {h h' : zH} (hi : IK h) (hf : Fr sA h h') : IK h' := by
  obtain ⟨k, a, b, c, d⟩ := hi
  refine ⟨k, a, by rw [hf 0 2 rfl]; exact b, by rw [hf 42 28 rfl]; exact c, fun p hp => ?_⟩
  obtain ⟨t, f, sh, sk, n, w, hs⟩ := d p hp
  exact ⟨t, f, sh, sk, n, w, hs.fr (by omega) hf⟩
theorem SXc.fr {t : Nat → Nat} {f sh sk : Nat} {n w : Nat → Nat} {h h' : zH} (hs : SXc t f sh sk n w h) (hf : Fr sA h h') (hr : RK h' t n w) : SXc t f sh sk n w h' := by
  obtain ⟨a1, a2, a3, a4, a5, a6, a7, a8, a9, a10, a11, a12, a13⟩ := hs
  have e : ∀ a j, sA a j = false → h'.1 a j = h.1 a j := hf
  refine ⟨a1, a2, a3, a4, fun j hj => ?_, ?_, ?_, ?_, ?_, ?_, fun k hk => ?_, fun j hj => ?_, hr⟩
  · rw [e 2 j rfl, e 43 j rfl]; exact a5 j hj
  · dsimp only; rw [e 3 0 rfl, e 42 (0 + 1) rfl]; exact a6
  · dsimp only; rw [e 3 1 rfl, e 42 (1 + 1) rfl]; exact a7
  · dsimp only; rw [e 3 2 rfl, e 42 (2 + 1) rfl]; exact a8
  · dsimp only; rw [e 3 3 rfl, e 42 (3 + 1) rfl]; exact a9
  · dsimp only; rw [e 3 4 rfl, e 42 (4 + 1) rfl]; exact a10
  · rw [e 5 k rfl, e 44 k rfl]; exact a11 k hk
  · rw [e 4 j rfl, e 45 j rfl]; exact a12 j hj
theorem SXc.rk {t : Nat → Nat} {f sh sk : Nat} {n w : Nat → Nat} {h : zH} (hs : SXc t f sh sk n w h) : RK h t n w := hs.2.2.2.2.2.2.2.2.2.2.2.2
theorem SXc.bt {t : Nat → Nat} {f sh sk : Nat} {n w : Nat → Nat} {h : zH} (hs : SXc t f sh sk n w h) : BT h t f := ⟨hs.1, hs.2.1, fun j hj => (hs.2.2.2.2.1 j hj).1, hs.2.2.2.2.2.1.1⟩
theorem SXc.bm {t : Nat → Nat} {f sh sk : Nat} {n w : Nat → Nat} {h : zH} (hs : SXc t f sh sk n w h) : BM h t f := ⟨hs.1, hs.2.1, fun j hj => (hs.2.2.2.2.1 j hj).2, hs.2.2.2.2.2.1.2⟩
theorem SXc.cw {t : Nat → Nat} {f sh sk : Nat} {n w : Nat → Nat} {h : zH} (hs : SXc t f sh sk n w h) : CW h 5 4 n w ∧ CW h 44 45 n w := by
  obtain ⟨a1, a2, a3, a4, a5, a6, a7, a8, a9, a10, a11, a12, a13⟩ := hs
  exact ⟨⟨fun k hk => ⟨(a11 k hk).1, (a11 k hk).2.1⟩, fun j hj => ⟨(a12 j hj).1, (a12 j hj).2.1⟩⟩, ⟨fun k hk => ⟨(a11 k hk).1, (a11 k hk).2.2⟩, fun j hj => ⟨(a12 j hj).1, (a12 j hj).2.2⟩⟩⟩
theorem SXc.cs {t : Nat → Nat} {f sh sk : Nat} {n w : Nat → Nat} {h : zH} (hs : SXc t f sh sk n w h) : CS h t f n w sk (h.1 3 4) := ⟨hs.bt, hs.cw.1, ⟨hs.2.2.2.1.1, hs.2.2.2.1.2, hs.2.2.2.2.2.2.2.2.1.1⟩, rfl⟩
theorem SXc.ms {t : Nat → Nat} {f sh sk : Nat} {n w : Nat → Nat} {h : zH} (hs : SXc t f sh sk n w h) : MS h t f n w sk (h.1 3 4) := ⟨hs.bm, hs.cw.2, ⟨hs.2.2.2.1.1, hs.2.2.2.1.2, hs.2.2.2.2.2.2.2.2.1.2⟩, hs.2.2.2.2.2.2.2.2.2.1.symm⟩
theorem SXc.dc {t : Nat → Nat} {f sh sk : Nat} {n w : Nat → Nat} {h : zH} (hs : SXc t f sh sk n w h) : DC h t f sh (h.1 3 1) := ⟨hs.bt, hs.2.2.1, hs.2.2.2.2.2.2.2.1.1, rfl⟩
theorem SXc.dm {t : Nat → Nat} {f sh sk : Nat} {n w : Nat → Nat} {h : zH} (hs : SXc t f sh sk n w h) : DM h t f sh (h.1 3 1) := ⟨hs.bm, hs.2.2.1, hs.2.2.2.2.2.2.2.1.2, hs.2.2.2.2.2.2.1.symm⟩
/-- a query: nothing but scratch was written, the rings stay right -/
theorem Inv.q {t : Nat → Nat} {f sh sk : Nat} {n w : Nat → Nat} {h h' : zH} (hi : Inv h) (hs : SXc t f sh sk n w h) (hf : Fr sA h h') (hr : RK h' t n w) : Inv h' := ⟨⟨t, f, sh, sk, n, w, hs.fr hf hr⟩, hi.2.1.fr hf, hi.2.2.1.fr hf, hi.2.2.2.1.fr hf, hi.2.2.2.2.fr hf⟩
/-- nothing of the ints was written -/
theorem Inv.of {h h' : zH} (hi : Inv h) (e : h'.1 = h.1) : Inv h' := by
  obtain ⟨⟨t, f, sh, sk, n, w, hs⟩, r⟩ := hi
  have hf : Fr sA h h' := fun a b _ => by rw [e]
  exact Inv.q ⟨⟨t, f, sh, sk, n, w, hs⟩, r⟩ hs hf (by unfold RK; rw [e]; exact hs.rk)
theorem RK.frN {P : Nat → Nat → Bool} {h h' : zH} {t n w : Nat → Nat} (hr : RK h t n w) (hf : Fr P h h') (h6 : ∀ j, P 6 j = false) : RK h' t n w := hr.fr hf h6
theorem sI_A : ∀ x y, sA x y = false → sI x y = false := by
  intro x y h
  simp only [sA, sK, sN, Bool.or_eq_false_iff, Bool.and_eq_false_iff, beq_eq_false_iff_ne] at h
  simp only [sI, sL, Bool.or_eq_false_iff, beq_eq_false_iff_ne]; omega
theorem sM_A : ∀ x y, sA x y = false → sM x y = false := by
  intro x y h
  simp only [sA, sK, sN, Bool.or_eq_false_iff, Bool.and_eq_false_iff, beq_eq_false_iff_ne] at h
  simp only [sM, Bool.or_eq_false_iff, Bool.and_eq_false_iff, beq_eq_false_iff_ne]; omega
theorem sT_A : ∀ x y, sA x y = false → sT x y = false := by
  intro x y h
  simp only [sA, sK, sN, Bool.or_eq_false_iff, Bool.and_eq_false_iff, beq_eq_false_iff_ne] at h
  simp only [sT, sM, Bool.or_eq_false_iff, Bool.and_eq_false_iff, beq_eq_false_iff_ne]; omega
theorem sG_A : ∀ x y, sA x y = false → sG x y = false := by
  intro x y h
  simp only [sA, sK, sN, Bool.or_eq_false_iff, Bool.and_eq_false_iff, beq_eq_false_iff_ne] at h
  simp only [sG, beq_eq_false_iff_ne]; omega
/-- a call on both: the same answer, and what holds between them holds behind it -/
def Pair (Rc Rm : zRel) (as : List Value) (h : zH) : Prop := ∃ (r : Value) (h1 h2 : zH), Rc (.ref 0 :: as) h (some r) h1 ∧ Rm (.ref 42 :: as) h1 (some r) h2 ∧ Inv h2
/-- a number within bounds is one of Nat -/
theorem in_n {x : Int32} {b : Nat} (hb : b < 2 ^ 31) (h0 : 0 ≤ x) (h1 : x ≤ nI b) : ∃ j, j ≤ b ∧ x = nI j := q_of h0 h1 hb
/-! bending -/
theorem p_inside {h : zH} (hi : Inv h) (a b c : Int32) : Pair R_X7_inside R_X8_inside [.int a, .int b, .int c] h := by
  obtain ⟨t, f, sh, sk, n, w, hs⟩ := hi.1
  by_cases hv : (0 ≤ a ∧ a ≤ 2) ∧ (0 ≤ b ∧ b ≤ 3) ∧ (0 ≤ c ∧ c ≤ 900)
  · obtain ⟨s, hs1, rfl⟩ := in_n (b := 2) (by omega) hv.1.1 hv.1.2
    obtain ⟨k, hk1, rfl⟩ := in_n (b := 3) (by omega) hv.2.1.1 hv.2.1.2
    obtain ⟨i, hi1, rfl⟩ := in_n (b := 900) (by omega) hv.2.2.1 hv.2.2.2
    refine ⟨.int (nI (bn t f s k i)), h, h, r_X7_inside _ _ _ _ _ _ ⟨_, rfl⟩ (t_X7_inside_0 _ _ _ _ _ (gd (fun z => absurd hv.1 z) (fun _ _ => gd_isColour (fun z => absurd hv.2.1 z) (fun _ _ => gd_isRight' (fun _ _ => ⟨_, _, c_bent hs.bt hs1 hk1 hi1, rfl, rfl⟩) (fun z => absurd hv.2.2 z))))), r_X8_inside _ _ _ _ _ _ ⟨_, rfl⟩ (t_X8_inside_0 _ _ _ _ _ (ge (fun z => absurd hv.1 z) (fun _ _ => ge (fun z => absurd hv.2.1 z) (fun _ _ => ge (fun z => absurd hv.2.2 z) (fun _ _ => ⟨_, _, m_bent hs.bm hs1 hk1 hi1, rfl, rfl⟩))))), hi⟩
  · refine ⟨.int (-1), h, h, r_X7_inside _ _ _ _ _ _ ⟨_, rfl⟩ (t_X7_inside_0 _ _ _ _ _ (gd (fun _ => ⟨rfl, rfl⟩) (fun a1 a2 => gd_isColour (fun _ => ⟨rfl, rfl⟩) (fun b1 b2 => gd_isRight' (fun c1 c2 => absurd ⟨⟨a1, a2⟩, ⟨b1, b2⟩, c1, c2⟩ hv) (fun _ => ⟨rfl, rfl⟩))))), r_X8_inside _ _ _ _ _ _ ⟨_, rfl⟩ (t_X8_inside_0 _ _ _ _ _ (ge (fun _ => ⟨rfl, rfl⟩) (fun a1 a2 => ge (fun _ => ⟨rfl, rfl⟩) (fun b1 b2 => ge (fun _ => ⟨rfl, rfl⟩) (fun c1 c2 => absurd ⟨⟨a1, a2⟩, ⟨b1, b2⟩, c1, c2⟩ hv))))), hi⟩
