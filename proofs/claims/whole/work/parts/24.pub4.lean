/-! ===== light, explains, owed, never, heights ===== -/
theorem m1_or {x : Int32} (h : ¬ x < -1) : x = -1 ∨ 0 ≤ x := by
  rw [Int32.lt_iff_toInt_lt] at h
  rw [Int32.le_iff_toInt_le, ← Int32.toInt_inj]
  have e1 : (-1 : Int32).toInt = -1 := rfl
  have e0 : (0 : Int32).toInt = 0 := rfl
  omega
theorem MA.mk' {t : Nat → Nat} {f sh sk : Nat} {n w : Nat → Nat} {mk : Nat → LT} {nm : Nat} {h h' : zH} (hs : SXc t f sh sk n w h) (hM : MM h mk nm) (hf : Fr sG h h') (hr : RM h' t n w) : MA t n w f sk nm (h.1 3 4) mk h' := ⟨hs.ms.fr hf (by rintro a j (rfl | rfl | rfl | ⟨rfl, -⟩) <;> rfl), hr, hM.fr hf rfl (by rintro a j (rfl | rfl | rfl | rfl) <;> rfl)⟩
set_option maxHeartbeats 4000000 in
set_option maxRecDepth 100000 in
theorem p_light {h : zH} (hi : Inv h) (a b c d : Int32) : Pair R_X7_light R_X8_light [.int a, .int b, .int c, .int d] h := by
  obtain ⟨t, f, sh, sk, n, w, hs⟩ := hi.1
  by_cases hv : (0 ≤ a ∧ a ≤ 15) ∧ (0 ≤ b ∧ b ≤ 900) ∧ ¬ c < -1 ∧ (0 ≤ d ∧ d ≤ 3)
  · obtain ⟨va, vb, vc, vd⟩ := hv
    obtain ⟨k, hk1, rfl⟩ := in_n (b := 15) (by omega) va.1 va.2
    obtain ⟨hh, hh1, rfl⟩ := in_n (b := 900) (by omega) vb.1 vb.2
    obtain ⟨q, hq1, rfl⟩ := in_n (b := 3) (by omega) vd.1 vd.2
    obtain ⟨h1, r1, hL, f1, k1⟩ := c_lightUp hs.cs hs.rk (cause := k) (hh := hh) (by omega) hh1
    have hs1 : SXc t f sh sk n w h1 := hs.fr (f1.wk sI_A) k1
    obtain ⟨h2, r2, k2, f2⟩ := m_layRings hs1.bm hs1.cw.2
    have ms2 : MS h2 t f n w sk (h1.1 3 4) := hs1.ms.fr f2 (by rintro a j (rfl | rfl | rfl | ⟨rfl, -⟩) <;> rfl)
    rw [f1 3 4 rfl] at ms2
    obtain ⟨h3, r3, hM, f3⟩ := m_layLights ms2 k2 (cause := k) (hh := hh) (by omega) hh1
    have hlen : (LTS t n w sk (h.1 3 4) k hh).length ≤ 7 := LTS_len (hs.cw.1.1 _ (by omega)).1
    have hI : Inv h3 := hi.q hs (((f1.wk sI_A).tr (f2.wk sG_A)).tr (f3.wk sM_A)) ((k1.fr f2 (fun _ => rfl)).fr f3 (fun _ => rfl))
    generalize LTS t n w sk (h.1 3 4) k hh = L at *
    -- both, once the answer is known
    have fin : ∀ r : Int32, (((¬ c = -1 → (h1.1 30 1 ≤ c → some (Value.int (-4)) = some (Value.int r) ∧ h1 = h1) ∧ (¬ (h1.1 30 1 ≤ c) → ∃ (v5 : Int32) (h5 : zH), R_X5_part [.ref 30, .int c, .int (nI q)] h1 (some (.int v5)) h5 ∧ some (Value.int v5) = some (Value.int r) ∧ h5 = h1)) ∧ (¬ ¬ c = -1 → some (Value.int (h1.1 30 1)) = some (Value.int r) ∧ h1 = h1))) →
        ((0 ≤ c → (c < h3.1 42 21 → (¬ nI q = 0 → (¬ nI q = 1 → (¬ nI q = 2 → vp_in c 8 ∧ some (Value.int (h3.1 60 c.toNatClampNeg)) = some (Value.int r) ∧ h3 = h3) ∧ (¬ ¬ nI q = 2 → vp_in c 8 ∧ some (Value.int (h3.1 59 c.toNatClampNeg)) = some (Value.int r) ∧ h3 = h3)) ∧ (¬ ¬ nI q = 1 → vp_in c 8 ∧ some (Value.int (h3.1 58 c.toNatClampNeg)) = some (Value.int r) ∧ h3 = h3)) ∧ (¬ ¬ nI q = 0 → vp_in c 8 ∧ some (Value.int (h3.1 57 c.toNatClampNeg)) = some (Value.int r) ∧ h3 = h3)) ∧ (¬ (c < h3.1 42 21) → some (Value.int (-4)) = some (Value.int r) ∧ h3 = h3)) ∧ (¬ (0 ≤ c) → some (Value.int (h3.1 42 21)) = some (Value.int r) ∧ h3 = h3)) → Pair R_X7_light R_X8_light [.int (nI k), .int (nI hh), .int c, .int (nI q)] h := fun r A B =>
      ⟨.int r, h1, h3, r_X7_light _ _ _ _ _ _ _ ⟨_, rfl⟩ (t_X7_light_0 _ _ _ _ _ _ (gd_isCause (fun z => absurd va z) (fun _ _ => gd_isRight (fun z => absurd vb z) (fun _ _ => ⟨fun z => absurd z vc, fun _ => gd' (fun _ _ => ⟨_, r1, A⟩) (fun z => absurd vd z)⟩)))), r_X8_light _ _ _ _ _ _ _ ⟨_, rfl⟩ (t_X8_light_0 _ _ _ _ _ _ (ge (fun z => absurd va z) (fun _ _ => ge (fun z => absurd vb z) (fun _ _ => ⟨fun z => absurd z vc, fun _ => ge' (fun _ _ => ⟨_, r2, _, r3, B⟩) (fun z => absurd vd z)⟩)))), hI⟩
    rcases m1_or vc with e | e
    · subst e
      refine fin (nI L.length) ⟨fun z => absurd rfl z, fun _ => ⟨by rw [hL.1], rfl⟩⟩ ⟨fun z => absurd z (by decide), fun _ => ⟨by rw [hM.1], rfl⟩⟩
    · obtain ⟨j, hj, rfl⟩ := nI_of (Int32.not_lt.mpr e)
      have hne : ¬ nI j = -1 := fun z => by rw [z] at e; exact absurd e (by decide)
      by_cases hlt : j < L.length
      · obtain ⟨l, hl⟩ : ∃ l, L[j]? = some l := ⟨L[j], List.getElem?_eq_getElem hlt⟩
        have hin : ¬ (h1.1 30 1 ≤ nI j) := by rw [hL.1, nI_leI (by omega) (by omega)]; omega
        have hin2 : nI j < h3.1 42 21 := by rw [hM.1, nI_ltI (by omega) (by omega)]; exact hlt
        obtain ⟨p0, p1, p2, p3⟩ := c_part hL hlen hl
        obtain ⟨m0, m1, m2, m3⟩ := hM.2 j l hl
        have vp : vp_in (nI j) 8 := vp_in_nI (by omega) (by omega)
        have cj : (nI j).toNatClampNeg = j := nI_clamp hj
        rw [cj] at fin
        rcases (by omega : q = 0 ∨ q = 1 ∨ q = 2 ∨ q = 3) with rfl | rfl | rfl | rfl
        · exact fin l.1 ⟨fun _ => ⟨fun z => absurd z hin, fun _ => ⟨_, _, p0, rfl, rfl⟩⟩, fun z => absurd hne z⟩ ⟨fun _ => ⟨fun _ => ⟨fun z => absurd rfl z, fun _ => ⟨vp, by rw [m0], rfl⟩⟩, fun z => absurd hin2 z⟩, fun z => absurd e z⟩
        · exact fin l.2.1 ⟨fun _ => ⟨fun z => absurd z hin, fun _ => ⟨_, _, p1, rfl, rfl⟩⟩, fun z => absurd hne z⟩ ⟨fun _ => ⟨fun _ => ⟨fun _ => ⟨fun z => absurd rfl z, fun _ => ⟨vp, by rw [m1], rfl⟩⟩, fun z => absurd (by decide) z⟩, fun z => absurd hin2 z⟩, fun z => absurd e z⟩
        · exact fin l.2.2.1 ⟨fun _ => ⟨fun z => absurd z hin, fun _ => ⟨_, _, p2, rfl, rfl⟩⟩, fun z => absurd hne z⟩ ⟨fun _ => ⟨fun _ => ⟨fun _ => ⟨fun _ => ⟨fun z => absurd rfl z, fun _ => ⟨vp, by rw [m2], rfl⟩⟩, fun z => absurd (by decide) z⟩, fun z => absurd (by decide) z⟩, fun z => absurd hin2 z⟩, fun z => absurd e z⟩
        · exact fin l.2.2.2 ⟨fun _ => ⟨fun z => absurd z hin, fun _ => ⟨_, _, p3, rfl, rfl⟩⟩, fun z => absurd hne z⟩ ⟨fun _ => ⟨fun _ => ⟨fun _ => ⟨fun _ => ⟨fun _ => ⟨vp, by rw [m3], rfl⟩, fun z => absurd (by decide) z⟩, fun z => absurd (by decide) z⟩, fun z => absurd (by decide) z⟩, fun z => absurd hin2 z⟩, fun z => absurd e z⟩
      · have hin : h1.1 30 1 ≤ nI j := by rw [hL.1, nI_leI (by omega) (by omega)]; omega
        have hin2 : ¬ (nI j < h3.1 42 21) := by rw [hM.1, nI_ltI (by omega) (by omega)]; exact hlt
        exact fin (-4) ⟨fun _ => ⟨fun _ => ⟨rfl, rfl⟩, fun z => absurd hin z⟩, fun z => absurd hne z⟩ ⟨fun _ => ⟨fun z => absurd z hin2, fun _ => ⟨rfl, rfl⟩⟩, fun z => absurd e z⟩
  · exact ⟨.int (-1), h, h, r_X7_light _ _ _ _ _ _ _ ⟨_, rfl⟩ (t_X7_light_0 _ _ _ _ _ _ (gd_isCause (fun _ => ⟨rfl, rfl⟩) (fun u0 w0 => gd_isRight (fun _ => ⟨rfl, rfl⟩) (fun u1 w1 => ⟨fun _ => ⟨rfl, rfl⟩, fun z => gd' (fun u2 w2 => absurd ⟨⟨u0, w0⟩, ⟨u1, w1⟩, z, u2, w2⟩ hv) (fun _ => ⟨rfl, rfl⟩)⟩)))), r_X8_light _ _ _ _ _ _ _ ⟨_, rfl⟩ (t_X8_light_0 _ _ _ _ _ _ (ge (fun _ => ⟨rfl, rfl⟩) (fun u0 w0 => ge (fun _ => ⟨rfl, rfl⟩) (fun u1 w1 => ⟨fun _ => ⟨rfl, rfl⟩, fun z => ge' (fun u2 w2 => absurd ⟨⟨u0, w0⟩, ⟨u1, w1⟩, z, u2, w2⟩ hv) (fun _ => ⟨rfl, rfl⟩)⟩)))), hi⟩
theorem bIv {p : Prop} {A : Int32 → Prop} (b : Bool) (hb : p ↔ b = true) (h : A (bI b)) : (¬ p → A 0) ∧ (¬ ¬ p → A 1) := by
  cases b with
  | false => exact ⟨fun _ => h, fun z => absurd (fun q => by cases hb.mp q) z⟩
  | true => exact ⟨fun z => absurd (hb.mpr rfl) z, fun _ => h⟩
theorem exB_iff (t n w : Nat → Nat) (sk : Nat) (sw : Int32) (mk : Nat → LT) (nm S hh : Nat) (h12 : nm ≤ 12) : nI (unM S (fun c => metN t n w sk sw mk nm c hh) 16) = nI (2 ^ nm - 1) ↔ exB t n w sk sw mk nm S hh = true := by
  have h4 := p12 h12
  have hu := unM_lt (S := S) (fun c => metN_lt t n w sk sw mk nm c hh) 16
  rw [nI_eq (by omega) (by omega), exB, decide_eq_true_eq, left_iff (fun c => metN_lt t n w sk sw mk nm c hh)]
set_option maxHeartbeats 4000000 in
set_option maxRecDepth 100000 in
theorem p_explains {h : zH} (hi : Inv h) (a b : Int32) : Pair R_X7_explains R_X8_explains [.int a, .int b] h := by
  obtain ⟨t, f, sh, sk, n, w, hs⟩ := hi.1
  by_cases hv : (0 ≤ a ∧ a ≤ 65535) ∧ (0 ≤ b ∧ b ≤ 900)
  · obtain ⟨S, hS1, rfl⟩ := in_n (b := 65535) (by omega) hv.1.1 hv.1.2
    obtain ⟨hh, hh1, rfl⟩ := in_n (b := 900) (by omega) hv.2.1 hv.2.2
    obtain ⟨mk, nm, hC, hM⟩ := hi.2.1
    obtain ⟨h1, r1, f1, k1⟩ := c_isExplained (f := f) ⟨hs.cs, hs.rk, hC⟩ (S := S) (hh := hh) (by omega) hh1
    have hs1 : SXc t f sh sk n w h1 := hs.fr (f1.wk sI_A) k1
    have hM1 : MM h1 mk nm := hM.fr f1 rfl (by rintro a j (rfl | rfl | rfl | rfl) <;> rfl)
    obtain ⟨h2, r2, k2, f2⟩ := m_layRings hs1.bm hs1.cw.2
    have ma := MA.mk' hs1 hM1 f2 k2
    rw [f1 3 4 rfl] at ma
    obtain ⟨h3, r3, g3, f3⟩ := m_layMet ma (hh := hh) hh1
    refine ⟨.int (bI (exB t n w sk (h.1 3 4) mk nm S hh)), h1, h3, r_X7_explains _ _ _ _ _ ⟨_, rfl⟩ (t_X7_explains_0 _ _ _ _ (gd_isSet (fun z => absurd hv.1 z) (fun _ _ => gd_isRight' (fun _ _ => ⟨_, _, r1, ?_⟩) (fun z => absurd hv.2 z)))), r_X8_explains _ _ _ _ _ ⟨_, rfl⟩ (t_X8_explains_0 _ _ _ _ (ge_isAsked' (fun _ _ => ⟨_, r2, _, r3, _, _, m_metBy g3 (S := S) (by omega), _, _, m_allMarks (ma.fr f3).2.2, ?_⟩) (fun z => absurd hv z))), hi.q hs (((f1.wk sI_A).tr (f2.wk sG_A)).tr (f3.wk sT_A)) ((k1.fr f2 (fun _ => rfl)).fr f3 (fun _ => rfl))⟩
    · exact ⟨fun z => ⟨by rw [z], rfl⟩, fun z => ⟨by cases hb : exB t n w sk (h.1 3 4) mk nm S hh <;> simp_all [bI], rfl⟩⟩
    · exact bIv (A := fun v => some (Value.int v) = some (Value.int (bI (exB t n w sk (h.1 3 4) mk nm S hh))) ∧ h3 = h3) _ (exB_iff t n w sk (h.1 3 4) mk nm S hh hC.1) ⟨rfl, rfl⟩
  · exact ⟨.int (-1), h, h, r_X7_explains _ _ _ _ _ ⟨_, rfl⟩ (t_X7_explains_0 _ _ _ _ (gd_isSet (fun _ => ⟨rfl, rfl⟩) (fun u0 w0 => gd_isRight' (fun u1 w1 => absurd ⟨⟨u0, w0⟩, u1, w1⟩ hv) (fun _ => ⟨rfl, rfl⟩)))), r_X8_explains _ _ _ _ _ ⟨_, rfl⟩ (t_X8_explains_0 _ _ _ _ (ge_isAsked' (fun u0 u1 => absurd ⟨u0, u1⟩ hv) (fun _ => ⟨rfl, rfl⟩))), hi⟩
section OW
variable {t n w : Nat → Nat} {f sk nm : Nat} {sw : Int32} {mk : Nat → LT}
theorem sM_mm : ∀ a j, a = 46 ∨ a = 47 ∨ a = 48 ∨ a = 49 → sM a j = false := by rintro a j (rfl | rfl | rfl | rfl) <;> rfl
theorem MA.frM {h h' : zH} (hb : MA t n w f sk nm sw mk h) (hf : Fr sM h h') : MA t n w f sk nm sw mk h' := hb.fr (hf.wk sM_T)
set_option maxHeartbeats 4000000 in
set_option maxRecDepth 100000 in
theorem m_owed {h : zH} (hb : MA t n w f sk nm sw mk h) {S hh : Nat} (hS : S < 65536) (hh9 : hh ≤ 900) : ∃ h', zG M_X8_owed (fun r1 h2 => r1 = some (.int (nI (owN t n w sk sw mk nm S hh 16))) ∧ h2 = h') (zat M_X8_owed 19) [some (.ref 42), some (.int (nI S)), some (.int (nI hh)), some (.int 0), some (.int 0), none, none, none] [] h ∧ Fr sM h h' := by
  have hn3 : ∀ k, k < 4 → n k ≤ 3 := fun k hk => (hb.1.2.1.1 k hk).1
  have h12 := hb.2.2.1
  have key : ∀ (d c : Nat) (h1 : zH), c + d = 16 → Fr sM h h1 → ∃ h', zG M_X8_owed (fun r1 h2 => r1 = some (.int (nI (owN t n w sk sw mk nm S hh 16))) ∧ h2 = h') (zat M_X8_owed 19) [some (.ref 42), some (.int (nI S)), some (.int (nI hh)), some (.int (nI (owN t n w sk sw mk nm S hh c))), some (.int (nI c)), none, none, none] [] h1 ∧ Fr sM h h' := by
    intro d
    induction d with
    | zero =>
      intro c h1 hc hf
      have : c = 16 := by omega
      subst this
      exact ⟨h1, t_X8_owed_19 _ _ _ _ _ _ ⟨fun _ => ⟨rfl, rfl⟩, fun z => absurd (by decide) z⟩, hf⟩
    | succ d ih =>
      intro c h1 hc hf
      have h16 : ¬ ((16 : Int32) ≤ nI c) := by rw [q16, nI_leI (by omega) (by omega)]; omega
      have hb1 := hb.frM hf
      obtain ⟨h2, r1, hL, r2⟩ := m_layLights hb1.1 hb1.2.1 (cause := c) (hh := hh) (by omega) hh9
      have hb2 := hb1.frM r2
      obtain ⟨h', g1, g2⟩ := ih (c + 1) h2 (by omega) (hf.tr r2)
      refine ⟨h', t_X8_owed_19 _ _ _ _ _ _ ⟨fun z => absurd z h16, fun _ => ⟨_, r1, ?_⟩⟩, g2⟩
      have hlen : (LTS t n w sk sw c hh).length ≤ 7 := LTS_len (hn3 _ (by omega))
      have hu := owN_le (S := S) (hh := hh) (t := t) (w := w) (sk := sk) (sw := sw) (mk := mk) (nm := nm) hn3 c (by omega)
      cases hbit : S.testBit c with
      | false =>
        have e : owN t n w sk sw mk nm S hh (c + 1) = owN t n w sk sw mk nm S hh c := by
          conv => lhs; unfold owN
          simp [hbit]
        rw [e] at g1
        refine t_X8_owed_36 _ _ _ _ _ _ _ ⟨fun _ => by rw [nI_1]; exact g1, fun _ => ?_⟩
        rw [n_bit (by omega) (by omega), nI_1]
        exact ⟨fun _ => g1, fun z => absurd (by simp [hbit]) z⟩
      | true =>
        have e : owN t n w sk sw mk nm S hh (c + 1) = owN t n w sk sw mk nm S hh c + cntL mk nm (LTS t n w sk sw c hh) := by
          conv => lhs; unfold owN
          simp [hbit]
        rw [e] at g1
        generalize LTS t n w sk sw c hh = L at *
        generalize owN t n w sk sw mk nm S hh c = u at *
        have inner : ∀ (e j : Nat), j + e = L.length → zG M_X8_owed (fun r1 h2 => r1 = some (.int (nI (owN t n w sk sw mk nm S hh 16))) ∧ h2 = h') (zat M_X8_owed 36) [some (.ref 42), some (.int (nI S)), some (.int (nI hh)), some (.int (nI (u + cntL mk nm (L.take j)))), some (.int (nI c)), some (.int (nI j)), none, none] [] h2 := by
          intro e
          induction e with
          | zero =>
            intro j hj
            have : j = L.length := by omega
            subst this
            refine t_X8_owed_36 _ _ _ _ _ _ _ ⟨fun _ => ?_, fun z => absurd ?_ z⟩
            · rw [List.take_length, nI_1]; exact g1
            · rw [hL.1]; exact nI_le (Nat.le_refl _) (by omega)
          | succ e ih2 =>
            intro j hj
            obtain ⟨l, hl⟩ : ∃ l, L[j]? = some l := ⟨L[j], List.getElem?_eq_getElem (by omega)⟩
            have ih3 := ih2 (j + 1) (by omega)
            rw [cntL_take hl] at ih3
            refine t_X8_owed_36 _ _ _ _ _ _ _ ⟨fun z => ?_, fun _ => ?_⟩
            · rw [hL.1, nI_leI (by omega) (by omega)] at z; omega
            rw [n_bit (by omega) (by omega)]
            refine ⟨fun z => absurd hbit z, fun _ => ?_⟩
            have marks : ∀ (g m : Nat), m + g = nm → zG M_X8_owed (fun r1 h2 => r1 = some (.int (nI (owN t n w sk sw mk nm S hh 16))) ∧ h2 = h') (zat M_X8_owed 61) [some (.ref 42), some (.int (nI S)), some (.int (nI hh)), some (.int (nI (u + cntL mk nm (L.take j)))), some (.int (nI c)), some (.int (nI j)), some (.int (bI (anyK mk m l))), some (.int (nI m))] [] h2 := by
              intro g
              induction g with
              | zero =>
                intro m hm
                have : m = nm := by omega
                subst this
                refine t_X8_owed_61 _ _ _ _ _ _ _ _ _ ⟨fun _ => ⟨fun z => ?_, fun z => ?_⟩, fun z => absurd ?_ z⟩
                · rw [bI_0.mp z] at ih3
                  rw [nI_1, nI_1]; exact ih3
                · have ht : anyK mk m l = true := by
                    cases hb : anyK mk m l with
                    | false => rw [hb] at z; exact absurd rfl z
                    | true => rfl
                  rw [ht] at ih3
                  rw [nI_1, q0, nI_add]; exact ih3
                · rw [hb2.2.2.2.1]; exact nI_le (Nat.le_refl _) (by omega)
              | succ g ih4 =>
                intro m hm
                have ih5 := ih4 (m + 1) (by omega)
                rw [anyK_s] at ih5
                refine t_X8_owed_61 _ _ _ _ _ _ _ _ _ ⟨fun z => ?_, fun _ => ⟨fun z => ?_, fun z => ⟨_, _, m_meets hL hlen hb2.2.2 hl (m := m) (by omega), fun z2 => ?_, fun z2 => ?_⟩⟩⟩
                · rw [hb2.2.2.2.1, nI_leI (by omega) (by omega)] at z; omega
                · have ht : anyK mk m l = true := by
                    cases hb : anyK mk m l with
                    | false => rw [hb] at z; exact absurd rfl z
                    | true => rfl
                  rw [ht] at ih5
                  rw [nI_1]; exact ih5
                · rw [bI_0.mp (Classical.not_not.mp z), bI_0.mp z2] at ih5
                  rw [nI_1]; exact ih5
                · have ht : meetsB l (mk m) = true := by
                    cases hb : meetsB l (mk m) with
                    | false => rw [hb] at z2; exact absurd rfl z2
                    | true => rfl
                  rw [ht, Bool.or_true] at ih5
                  rw [nI_1]; exact ih5
            exact marks nm 0 (by omega)
        exact inner L.length 0 (by omega)
  exact key 16 0 h (by omega) Fr.rf
end OW
set_option maxHeartbeats 4000000 in
set_option maxRecDepth 100000 in
theorem p_owed {h : zH} (hi : Inv h) (a b : Int32) : Pair R_X7_owed R_X8_owed [.int a, .int b] h := by
  obtain ⟨t, f, sh, sk, n, w, hs⟩ := hi.1
  by_cases hv : (0 ≤ a ∧ a ≤ 65535) ∧ (0 ≤ b ∧ b ≤ 900)
  · obtain ⟨S, hS1, rfl⟩ := in_n (b := 65535) (by omega) hv.1.1 hv.1.2
    obtain ⟨hh, hh1, rfl⟩ := in_n (b := 900) (by omega) hv.2.1 hv.2.2
    obtain ⟨mk, nm, hC, hM⟩ := hi.2.1
    obtain ⟨h1, r1, f1, k1⟩ := c_unseen (f := f) ⟨hs.cs, hs.rk, hC⟩ (S := S) (hh := hh) (by omega) hh1
    have hs1 : SXc t f sh sk n w h1 := hs.fr (f1.wk sI_A) k1
    have hM1 : MM h1 mk nm := hM.fr f1 rfl (by rintro a j (rfl | rfl | rfl | rfl) <;> rfl)
    obtain ⟨h2, r2, k2, f2⟩ := m_layRings hs1.bm hs1.cw.2
    have ma := MA.mk' hs1 hM1 f2 k2
    rw [f1 3 4 rfl] at ma
    obtain ⟨h3, r3, f3⟩ := m_owed ma (S := S) (hh := hh) (by omega) hh1
    exact ⟨.int (nI (owN t n w sk (h.1 3 4) mk nm S hh 16)), h1, h3, r_X7_owed _ _ _ _ _ ⟨_, rfl⟩ (t_X7_owed_0 _ _ _ _ (gd_isSet (fun z => absurd hv.1 z) (fun _ _ => gd_isRight' (fun _ _ => ⟨_, _, r1, rfl, rfl⟩) (fun z => absurd hv.2 z)))), r_X8_owed _ _ _ _ _ ⟨_, rfl⟩ (t_X8_owed_0 _ _ _ _ (ge_isAsked' (fun _ _ => ⟨_, r2, r3⟩) (fun z => absurd hv z))), hi.q hs (((f1.wk sI_A).tr (f2.wk sG_A)).tr (f3.wk sM_A)) ((k1.fr f2 (fun _ => rfl)).fr f3 (fun _ => rfl))⟩
  · exact ⟨.int (-1), h, h, r_X7_owed _ _ _ _ _ ⟨_, rfl⟩ (t_X7_owed_0 _ _ _ _ (gd_isSet (fun _ => ⟨rfl, rfl⟩) (fun u0 w0 => gd_isRight' (fun u1 w1 => absurd ⟨⟨u0, w0⟩, u1, w1⟩ hv) (fun _ => ⟨rfl, rfl⟩)))), r_X8_owed _ _ _ _ _ ⟨_, rfl⟩ (t_X8_owed_0 _ _ _ _ (ge_isAsked' (fun u0 u1 => absurd ⟨u0, u1⟩ hv) (fun _ => ⟨rfl, rfl⟩))), hi⟩
noncomputable def evN (t n w : Nat → Nat) (sk : Nat) (sw : Int32) (mk : Nat → LT) (nm : Nat) : Nat → Nat
  | 0 => 0
  | i + 1 => evN t n w sk sw mk nm i ||| unM 65535 (fun c => metN t n w sk sw mk nm c (50 * i)) 16
theorem evN_lt (t n w : Nat → Nat) (sk : Nat) (sw : Int32) (mk : Nat → LT) (nm : Nat) : ∀ i, evN t n w sk sw mk nm i < 2 ^ nm
  | 0 => Nat.pow_pos (by omega)
  | i + 1 => or_lt (evN_lt t n w sk sw mk nm i) (unM_lt (fun c => metN_lt t n w sk sw mk nm c (50 * i)) 16)
theorem lv_ev (t n w : Nat → Nat) (sk : Nat) (sw : Int32) (mk : Nat → LT) (nm : Nat) : ∀ i, lvN t n w sk sw mk nm i = (2 ^ nm - 1) ^^^ ((2 ^ nm - 1) &&& evN t n w sk sw mk nm i)
  | 0 => by simp [lvN, evN]
  | i + 1 => by
    have ih := lv_ev t n w sk sw mk nm i
    apply Nat.eq_of_testBit_eq
    intro j
    show (leftM 65535 (fun c => metN t n w sk sw mk nm c (50 * i)) (lvN t n w sk sw mk nm i) 16).testBit j = _
    rw [leftM_bit, ih, an_bit, an_bit]
    show _ = ((2 ^ nm - 1).testBit j && !(evN t n w sk sw mk nm i ||| unM 65535 (fun c => metN t n w sk sw mk nm c (50 * i)) 16).testBit j)
    rw [Nat.testBit_or]
    cases (2 ^ nm - 1).testBit j <;> cases (evN t n w sk sw mk nm i).testBit j <;> cases (unM 65535 (fun c => metN t n w sk sw mk nm c (50 * i)) 16).testBit j <;> rfl
set_option maxHeartbeats 4000000 in
set_option maxRecDepth 100000 in
theorem p_never {h : zH} (hi : Inv h) : Pair R_X7_never R_X8_never [] h := by
  obtain ⟨t, f, sh, sk, n, w, hs⟩ := hi.1
  obtain ⟨mk, nm, hC, hM⟩ := hi.2.1
  have h12 := hC.1
  have h4 := p12 h12
  obtain ⟨h1, r1, f1, k1⟩ := c_never (f := f) ⟨hs.cs, hs.rk, hC⟩
  have hs1 : SXc t f sh sk n w h1 := hs.fr (f1.wk sI_A) k1
  have hM1 : MM h1 mk nm := hM.fr f1 rfl (by rintro a j (rfl | rfl | rfl | rfl) <;> rfl)
  obtain ⟨h2, r2, k2, f2⟩ := m_layRings hs1.bm hs1.cw.2
  have ma := MA.mk' hs1 hM1 f2 k2
  rw [f1 3 4 rfl] at ma
  have key : ∀ (d i : Nat) (h3 : zH), i + d = 19 → Fr sT h2 h3 → ∃ h', zG M_X8_never (fun r1 h2 => r1 = some (.int (nI (lvN t n w sk (h.1 3 4) mk nm 19))) ∧ h2 = h') (zat M_X8_never 8) [some (.ref 42), some (.int (nI (evN t n w sk (h.1 3 4) mk nm i))), some (.int (nI (50 * i)))] [] h3 ∧ Fr sT h2 h' := by
    intro d
    induction d with
    | zero =>
      intro i h3 hi hf
      have : i = 19 := by omega
      subst this
      refine ⟨h3, t_X8_never_8 _ _ _ _ ⟨fun _ => ⟨_, _, m_allMarks (ma.fr hf).2.2, ?_, rfl⟩, fun z => absurd (by decide) z⟩, hf⟩
      rw [n_andnot, ← lv_ev]
    | succ d ih =>
      intro i h3 hi hf
      obtain ⟨h4, r4, g4, f4⟩ := m_layMet (ma.fr hf) (hh := 50 * i) (by omega)
      obtain ⟨h', g1, g2⟩ := ih (i + 1) h4 (by omega) (hf.tr f4)
      refine ⟨h', t_X8_never_8 _ _ _ _ ⟨fun z => ?_, fun _ => ⟨_, r4, _, _, m_metBy g4 (S := 65535) (by omega), ?_⟩⟩, g2⟩
      · rw [q900, nI_ltI (by omega) (by omega)] at z; omega
      · rw [n_or, q50, nI_add, show 50 * i + 50 = 50 * (i + 1) by omega]
        exact g1
  obtain ⟨h3, g3, f3⟩ := key 19 0 h2 (by omega) Fr.rf
  exact ⟨.int (nI (lvN t n w sk (h.1 3 4) mk nm 19)), h1, h3, r_X7_never _ _ _ ⟨_, rfl⟩ (t_X7_never_0 _ _ ⟨_, _, r1, rfl, rfl⟩), r_X8_never _ _ _ ⟨_, rfl⟩ (t_X8_never_0 _ _ ⟨_, r2, g3⟩), hi.q hs (((f1.wk sI_A).tr (f2.wk sG_A)).tr (f3.wk sT_A)) ((k1.fr f2 (fun _ => rfl)).fr f3 (fun _ => rfl))⟩
def htV (ex : Nat → Bool) (x2 : Int32) : Nat → Nat → Nat → Int32
  | 0, _, found => if x2 = -1 then nI found else -4
  | m + 1, i, found => if ex i then (if nI found = x2 then nI (50 * i) else htV ex x2 m (i + 1) (found + 1)) else htV ex x2 m (i + 1) found
set_option maxHeartbeats 4000000 in
set_option maxRecDepth 100000 in
theorem p_heights {h : zH} (hi : Inv h) (a b : Int32) : Pair R_X7_heights R_X8_heights [.int a, .int b] h := by
  obtain ⟨t, f, sh, sk, n, w, hs⟩ := hi.1
  by_cases hv : (0 ≤ a ∧ a ≤ 65535) ∧ -1 ≤ b
  · obtain ⟨S, hS1, rfl⟩ := in_n (b := 65535) (by omega) hv.1.1 hv.1.2
    obtain ⟨mk, nm, hC, hM⟩ := hi.2.1
    have ca : CA t n w f sk nm (h.1 3 4) mk h := ⟨hs.cs, hs.rk, hC⟩
    generalize hEx : (fun i => exB t n w sk (h.1 3 4) mk nm S (50 * i)) = ex
    -- the class
    have keyC : ∀ (d i found : Nat) (h1 : zH), i + d = 19 → found ≤ i → Fr sI h h1 → RK h1 t n w → ∃ h', zG M_X7_heights (fun r1 h2 => r1 = some (.int (htV ex b d i found)) ∧ h2 = h') (zat M_X7_heights 19) [some (.ref 0), some (.int (nI S)), some (.int b), some (.int (nI found)), some (.int (nI (50 * i)))] [] h1 ∧ Fr sI h h' ∧ RK h' t n w := by
      intro d
      induction d with
      | zero =>
        intro i found h1 hi hfd hf hr
        have : i = 19 := by omega
        subst this
        refine ⟨h1, t_X7_heights_19 _ _ _ _ _ _ ⟨fun _ => ⟨fun z => ⟨?_, rfl⟩, fun z => ⟨?_, rfl⟩⟩, fun z => absurd (by decide) z⟩, hf, hr⟩
        · rw [htV, if_neg z]
        · rw [htV, if_pos (Classical.not_not.mp z)]
      | succ d ih =>
        intro i found h1 hi hfd hf hr
        have h9 : ¬ ((900 : Int32) < nI (50 * i)) := by rw [q900, nI_ltI (by omega) (by omega)]; omega
        obtain ⟨h2, r2, f2, k2⟩ := c_isExplained (ca.fr hf hr) (S := S) (hh := 50 * i) (by omega) (by omega)
        have ex_i : ex i = exB t n w sk (h.1 3 4) mk nm S (50 * i) := by rw [← hEx]
        rw [← ex_i] at r2
        have e50 : nI (50 * i) + 50 = nI (50 * (i + 1)) := by rw [q50, nI_add]; rfl
        cases hx : ex i with
        | false =>
          rw [hx] at r2
          obtain ⟨h', g1, g2⟩ := ih (i + 1) found h2 (by omega) (by omega) (hf.tr f2) k2
          have e : htV ex b (d + 1) i found = htV ex b d (i + 1) found := by simp [htV, hx]
          rw [← e] at g1
          refine ⟨h', t_X7_heights_19 _ _ _ _ _ _ ⟨fun z => absurd z h9, fun _ => ⟨_, _, r2, fun _ => by rw [e50]; exact g1, fun z => absurd rfl z⟩⟩, g2⟩
        | true =>
          rw [hx] at r2
          by_cases hq : nI found = b
          · have e : htV ex b (d + 1) i found = nI (50 * i) := by simp [htV, hx, hq]
            exact ⟨h2, t_X7_heights_19 _ _ _ _ _ _ ⟨fun z => absurd z h9, fun _ => ⟨_, _, r2, fun z => absurd z (by decide), fun _ => ⟨fun z => absurd hq z, fun _ => ⟨by rw [e], rfl⟩⟩⟩⟩, hf.tr f2, k2⟩
          · obtain ⟨h', g1, g2⟩ := ih (i + 1) (found + 1) h2 (by omega) (by omega) (hf.tr f2) k2
            have e : htV ex b (d + 1) i found = htV ex b d (i + 1) (found + 1) := by simp [htV, hx, hq]
            rw [← e] at g1
            exact ⟨h', t_X7_heights_19 _ _ _ _ _ _ ⟨fun z => absurd z h9, fun _ => ⟨_, _, r2, fun z => absurd z (by decide), fun _ => ⟨fun _ => by rw [e50, nI_1]; exact g1, fun z => absurd hq z⟩⟩⟩, g2⟩
    obtain ⟨h1, r1, f1, k1⟩ := keyC 19 0 0 h (by omega) (by omega) Fr.rf hs.rk
    have hs1 : SXc t f sh sk n w h1 := hs.fr (f1.wk sI_A) k1
    have hM1 : MM h1 mk nm := hM.fr f1 rfl (by rintro a j (rfl | rfl | rfl | rfl) <;> rfl)
    obtain ⟨h2, r2, k2, f2⟩ := m_layRings hs1.bm hs1.cw.2
    have ma := MA.mk' hs1 hM1 f2 k2
    rw [f1 3 4 rfl] at ma
    have keyM : ∀ (d i found : Nat) (h3 : zH), i + d = 19 → found ≤ i → Fr sT h2 h3 → ∃ h', zG M_X8_heights (fun r1 h2 => r1 = some (.int (htV ex b d i found)) ∧ h2 = h') (zat M_X8_heights 26) [some (.ref 42), some (.int (nI S)), some (.int b), some (.int (nI found)), some (.int (nI (50 * i)))] [] h3 ∧ Fr sT h2 h' := by
      intro d
      induction d with
      | zero =>
        intro i found h3 hi hfd hf
        have : i = 19 := by omega
        subst this
        have hb1 := m1_or (Int32.not_lt.mpr hv.2)
        refine ⟨h3, t_X8_heights_26 _ _ _ _ _ _ ⟨fun _ => ⟨fun z => ⟨?_, rfl⟩, fun z => ⟨?_, rfl⟩⟩, fun z => absurd (by decide) z⟩, hf⟩
        · rw [htV, if_neg (fun q => by rw [q] at z; exact absurd z (by decide))]
        · rw [htV, if_pos (hb1.resolve_right z)]
      | succ d ih =>
        intro i found h3 hi hfd hf
        have h9 : ¬ ((900 : Int32) < nI (50 * i)) := by rw [q900, nI_ltI (by omega) (by omega)]; omega
        obtain ⟨h4, r4, g4, f4⟩ := m_layMet (ma.fr hf) (hh := 50 * i) (by omega)
        have rb := m_metBy g4 (S := S) (by omega)
        have rA := m_allMarks ((ma.fr hf).fr f4).2.2
        have ex_i : ex i = exB t n w sk (h.1 3 4) mk nm S (50 * i) := by rw [← hEx]
        have hiff := exB_iff t n w sk (h.1 3 4) mk nm S (50 * i) hC.1
        rw [← ex_i] at hiff
        have e50 : nI (50 * i) + 50 = nI (50 * (i + 1)) := by rw [q50, nI_add]; rfl
        cases hx : ex i with
        | false =>
          rw [hx] at hiff
          obtain ⟨h', g1, g2⟩ := ih (i + 1) found h4 (by omega) (by omega) (hf.tr f4)
          have e : htV ex b (d + 1) i found = htV ex b d (i + 1) found := by simp [htV, hx]
          rw [← e] at g1
          exact ⟨h', t_X8_heights_26 _ _ _ _ _ _ ⟨fun z => absurd z h9, fun _ => ⟨_, r4, _, _, rb, _, _, rA, fun _ => by rw [e50]; exact g1, fun z => absurd (fun q => by cases hiff.mp q) z⟩⟩, g2⟩
        | true =>
          rw [hx] at hiff
          have hEq := hiff.mpr rfl
          by_cases hq : nI found = b
          · have e : htV ex b (d + 1) i found = nI (50 * i) := by simp [htV, hx, hq]
            exact ⟨h4, t_X8_heights_26 _ _ _ _ _ _ ⟨fun z => absurd z h9, fun _ => ⟨_, r4, _, _, rb, _, _, rA, fun z => absurd hEq z, fun _ => ⟨fun z => absurd hq z, fun _ => ⟨by rw [e], rfl⟩⟩⟩⟩, hf.tr f4⟩
          · obtain ⟨h', g1, g2⟩ := ih (i + 1) (found + 1) h4 (by omega) (by omega) (hf.tr f4)
            have e : htV ex b (d + 1) i found = htV ex b d (i + 1) (found + 1) := by simp [htV, hx, hq]
            rw [← e] at g1
            exact ⟨h', t_X8_heights_26 _ _ _ _ _ _ ⟨fun z => absurd z h9, fun _ => ⟨_, r4, _, _, rb, _, _, rA, fun z => absurd hEq z, fun _ => ⟨fun _ => by rw [e50, nI_1]; exact g1, fun z => absurd hq z⟩⟩⟩, g2⟩
    obtain ⟨h3, r3, f3⟩ := keyM 19 0 0 h2 (by omega) (by omega) Fr.rf
    exact ⟨.int (htV ex b 19 0 0), h1, h3, r_X7_heights _ _ _ _ _ ⟨_, rfl⟩ (t_X7_heights_0 _ _ _ _ (gd_isSet (fun z => absurd hv.1 z) (fun _ _ => ⟨fun _ => r1, fun z => absurd hv.2 z⟩))), r_X8_heights _ _ _ _ _ ⟨_, rfl⟩ (t_X8_heights_0 _ _ _ _ (ge (fun z => absurd hv.1 z) (fun _ _ => ⟨fun _ => ⟨_, r2, r3⟩, fun z => absurd hv.2 z⟩))), hi.q hs (((f1.wk sI_A).tr (f2.wk sG_A)).tr (f3.wk sT_A)) ((k1.fr f2 (fun _ => rfl)).fr f3 (fun _ => rfl))⟩
  · exact ⟨.int (-1), h, h, r_X7_heights _ _ _ _ _ ⟨_, rfl⟩ (t_X7_heights_0 _ _ _ _ (gd_isSet (fun _ => ⟨rfl, rfl⟩) (fun u0 w0 => ⟨fun z => absurd ⟨⟨u0, w0⟩, z⟩ hv, fun _ => ⟨rfl, rfl⟩⟩))), r_X8_heights _ _ _ _ _ ⟨_, rfl⟩ (t_X8_heights_0 _ _ _ _ (ge (fun _ => ⟨rfl, rfl⟩) (fun u0 w0 => ⟨fun z => absurd ⟨⟨u0, w0⟩, z⟩ hv, fun _ => ⟨rfl, rfl⟩⟩))), hi⟩
