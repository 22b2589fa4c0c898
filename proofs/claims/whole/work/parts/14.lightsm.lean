/-! ===== the lights of the model ===== -/
def MS (h : zH) (t : Nat → Nat) (f : Nat) (n w : Nat → Nat) (sk : Nat) (sw : Int32) : Prop := BM h t f ∧ CW h 44 45 n w ∧ (500 ≤ sk ∧ sk ≤ 9000 ∧ h.1 42 4 = nI sk) ∧ h.1 42 5 = sw
/-- the model's rings, laid -/
def RM (h : zH) (t n w : Nat → Nat) : Prop := ∀ k, k < 4 → ∀ i, i < n k → h.1 56 (3 * k + i) = oV (rg t (w (3 * k + i)))
theorem MS.fr {P : Nat → Nat → Bool} {h h' : zH} {t : Nat → Nat} {f : Nat} {n w : Nat → Nat} {sk : Nat} {sw : Int32} (hb : MS h t f n w sk sw) (hf : Fr P h h') (hP : ∀ a j, a = 43 ∨ a = 44 ∨ a = 45 ∨ (a = 42 ∧ j < 6) → P a j = false) : MS h' t f n w sk sw := by
  obtain ⟨b1, b2, b3, b4⟩ := hb
  have e : ∀ j, j < 6 → h'.1 42 j = h.1 42 j := fun j hj => hf 42 j (hP 42 j (Or.inr (Or.inr (Or.inr ⟨rfl, hj⟩))))
  exact ⟨⟨b1.1, b1.2.1, fun j hj => by rw [hf 43 j (hP 43 j (Or.inl rfl))]; exact b1.2.2.1 j hj, by rw [e 1 (by omega)]; exact b1.2.2.2⟩, b2.fr hf (fun j => hP 44 j (Or.inr (Or.inl rfl))) (fun j => hP 45 j (Or.inr (Or.inr (Or.inl rfl)))), ⟨b3.1, b3.2.1, by rw [e 4 (by omega)]; exact b3.2.2⟩, by rw [e 5 (by omega)]; exact b4⟩
theorem sM_ms : ∀ a j, a = 43 ∨ a = 44 ∨ a = 45 ∨ (a = 42 ∧ j < 6) → sM a j = false := by
  rintro a j (rfl | rfl | rfl | ⟨rfl, hj⟩)
  · rfl
  · rfl
  · rfl
  · simp [sM]; omega
theorem RM.fr {P : Nat → Nat → Bool} {h h' : zH} {t n w : Nat → Nat} (hb : RM h t n w) (hf : Fr P h h') (h6 : ∀ j, P 56 j = false) : RM h' t n w := fun k hk i hi => by rw [hf 56 _ (h6 _)]; exact hb k hk i hi
theorem m_putRing {h : zH} {L : List LT} (hL : HasM h L) (hn : L.length ≤ 5) {lean sk : Nat} {sw : Int32} (hl : lean < 4) (hs : 500 ≤ sk ∧ sk ≤ 9000) (hsk : h.1 42 4 = nI sk) (hsw : h.1 42 5 = sw) (d hh : Int32) : ∃ h', R_X8_putRing [.ref 42, .int (nI lean), .int d, .int hh] h none h' ∧ HasM h' (L ++ lgW lean d hh (nI sk) sw) ∧ Fr sM h h' := by
  have hne : ¬ nI sk = 0 := by rw [q0, nI_eq (by omega) (by omega)]; omega
  have fold : d + d * hh / nI sk = farV d hh (nI sk) := rfl
  rcases (by omega : lean = 0 ∨ lean = 1 ∨ lean = 2 ∨ lean = 3) with rfl | rfl | rfl | rfl
  · obtain ⟨h', r1, r2, r3⟩ := m_put hL (by omega) 0 0 d d
    have e0 : (nI 0).toInt = 0 := rfl
    refine ⟨h', r_X8_putRing _ _ _ _ _ _ rfl (t_X8_putRing_0 _ _ _ _ _ ?_), r2, r3⟩
    rw [hsk, e0]
    have X : ∀ {A B C : Prop}, ((0 : Int) < 0 ∨ 2 < (0 : Int) → A) ∧ ((0 : Int) = 0 → ∃ h1 : zH, R_X8_put [.ref 42, .int 0, .int 0, .int d, .int d] h none h1 ∧ ((none : Option Value) = none ∧ h1 = h')) ∧ ((0 : Int) = 1 → B) ∧ ((0 : Int) = 2 → C) ∧ True := ⟨fun z => absurd z (by omega), fun _ => ⟨_, r1, rfl, rfl⟩, fun z => absurd z (by omega), fun z => absurd z (by omega), trivial⟩
    exact ⟨hne, fun _ => X, fun _ => ⟨fun _ => X, fun _ => X⟩⟩
  · have e0 : (nI 1).toInt = 1 := rfl
    by_cases h1 : 600 < hh
    · refine ⟨h, r_X8_putRing _ _ _ _ _ _ rfl (t_X8_putRing_0 _ _ _ _ _ ?_), by simpa [lgW, h1] using hL, Fr.rf⟩
      rw [hsk, e0]
      exact ⟨hne, fun _ => ⟨fun z => absurd z (by omega), fun z => absurd z (by omega), fun _ => ⟨fun _ => ⟨rfl, rfl⟩, fun z => absurd rfl z⟩, fun z => absurd z (by omega), trivial⟩, fun z => absurd h1 z⟩
    · by_cases h2 : farV d hh (nI sk) ≤ 1800
      · obtain ⟨h', r1, r2, r3⟩ := m_put hL (by omega) 2 1 (farV d hh (nI sk)) (farV d hh (nI sk))
        refine ⟨h', r_X8_putRing _ _ _ _ _ _ rfl (t_X8_putRing_0 _ _ _ _ _ ?_), by simpa [lgW, h1, h2] using r2, r3⟩
        rw [hsk, e0]
        exact ⟨hne, fun z => absurd z h1, fun _ => ⟨fun z => absurd h2 (Int32.not_le.mpr z), fun _ => ⟨fun z => absurd z (by omega), fun z => absurd z (by omega), fun _ => ⟨fun z => absurd z (by decide), fun _ => ⟨_, r1, rfl, rfl⟩⟩, fun z => absurd z (by omega), trivial⟩⟩⟩
      · refine ⟨h, r_X8_putRing _ _ _ _ _ _ rfl (t_X8_putRing_0 _ _ _ _ _ ?_), by simpa [lgW, h1, h2] using hL, Fr.rf⟩
        rw [hsk, e0]
        exact ⟨hne, fun z => absurd z h1, fun _ => ⟨fun _ => ⟨fun z => absurd z (by omega), fun z => absurd z (by omega), fun _ => ⟨fun _ => ⟨rfl, rfl⟩, fun z => absurd rfl z⟩, fun z => absurd z (by omega), trivial⟩, fun z => absurd (Int32.not_lt.mp z) h2⟩⟩
  · have e0 : (nI 2).toInt = 2 := rfl
    have body : ∃ h', ((900 < (hh + d) → (hh < d → (none : Option Value) = none ∧ h = h') ∧ (¬ (hh < d) → ∃ h1 : zH, R_X8_put [.ref 42, .int 1, .int 3, .int d, .int d] h none h1 ∧ (none : Option Value) = none ∧ h1 = h')) ∧
        (¬ (900 < (hh + d)) → ∃ h1 : zH, R_X8_put [.ref 42, .int 1, .int 2, .int d, .int d] h none h1 ∧ (hh < d → (none : Option Value) = none ∧ h1 = h') ∧ (¬ (hh < d) → ∃ h2 : zH, R_X8_put [.ref 42, .int 1, .int 3, .int d, .int d] h1 none h2 ∧ (none : Option Value) = none ∧ h2 = h'))) ∧ HasM h' (L ++ lgW 2 d hh (nI sk) sw) ∧ Fr sM h h' := by
      by_cases h1 : 900 < hh + d
      · by_cases h2 : hh < d
        · exact ⟨h, ⟨fun _ => ⟨fun _ => ⟨rfl, rfl⟩, fun z => absurd h2 z⟩, fun z => absurd h1 z⟩, by simpa [lgW, h1, h2] using hL, Fr.rf⟩
        · obtain ⟨h', r1, r2, r3⟩ := m_put hL (by omega) 1 3 d d
          exact ⟨h', ⟨fun _ => ⟨fun z => absurd z h2, fun _ => ⟨_, r1, rfl, rfl⟩⟩, fun z => absurd h1 z⟩, by simpa [lgW, h1, h2] using r2, r3⟩
      · obtain ⟨h1', r1, r2, r3⟩ := m_put hL (by omega) 1 2 d d
        by_cases h2 : hh < d
        · exact ⟨h1', ⟨fun z => absurd z h1, fun _ => ⟨_, r1, fun _ => ⟨rfl, rfl⟩, fun z => absurd h2 z⟩⟩, by simpa [lgW, h1, h2] using r2, r3⟩
        · obtain ⟨h2', u1, u2, u3⟩ := m_put r2 (by simp; omega) 1 3 d d
          exact ⟨h2', ⟨fun z => absurd z h1, fun _ => ⟨_, r1, fun z => absurd z h2, fun _ => ⟨_, u1, rfl, rfl⟩⟩⟩, by simpa [lgW, h1, h2] using u2, r3.tr u3⟩
    obtain ⟨h', b1, b2⟩ := body
    refine ⟨h', r_X8_putRing _ _ _ _ _ _ rfl (t_X8_putRing_0 _ _ _ _ _ ?_), b2⟩
    rw [hsk, e0]
    exact ⟨hne, fun _ => ⟨fun z => absurd z (by omega), fun z => absurd z (by omega), fun z => absurd z (by omega), fun _ => b1, trivial⟩, fun _ => ⟨fun _ => ⟨fun z => absurd z (by omega), fun z => absurd z (by omega), fun z => absurd z (by omega), fun _ => b1, trivial⟩, fun _ => ⟨fun z => absurd z (by omega), fun z => absurd z (by omega), fun z => absurd z (by omega), fun _ => b1, trivial⟩⟩⟩
  · have e0 : (nI 3).toInt = 3 := rfl
    by_cases h1 : 600 < hh
    · refine ⟨h, r_X8_putRing _ _ _ _ _ _ rfl (t_X8_putRing_0 _ _ _ _ _ ?_), by simpa [lgW, h1] using hL, Fr.rf⟩
      rw [hsk, e0]
      exact ⟨hne, fun _ => ⟨fun _ => ⟨fun _ => ⟨rfl, rfl⟩, fun z => absurd rfl z⟩, fun z => absurd z (by omega), fun z => absurd z (by omega), fun z => absurd z (by omega), trivial⟩, fun z => absurd h1 z⟩
    · by_cases h2 : farV d hh (nI sk) ≤ 1800
      · obtain ⟨h', r1, r2, r3⟩ := m_put hL (by omega) 2 1 d (farV d hh (nI sk) + sw)
        refine ⟨h', r_X8_putRing _ _ _ _ _ _ rfl (t_X8_putRing_0 _ _ _ _ _ ?_), by simpa [lgW, h1, h2] using r2, r3⟩
        rw [hsk, hsw, e0]
        exact ⟨hne, fun z => absurd z h1, fun _ => ⟨fun z => absurd h2 (Int32.not_le.mpr z), fun _ => ⟨fun _ => ⟨fun z => absurd z (by decide), fun _ => ⟨_, r1, rfl, rfl⟩⟩, fun z => absurd z (by omega), fun z => absurd z (by omega), fun z => absurd z (by omega), trivial⟩⟩⟩
      · refine ⟨h, r_X8_putRing _ _ _ _ _ _ rfl (t_X8_putRing_0 _ _ _ _ _ ?_), by simpa [lgW, h1, h2] using hL, Fr.rf⟩
        rw [hsk, e0]
        exact ⟨hne, fun z => absurd z h1, fun _ => ⟨fun _ => ⟨fun _ => ⟨fun _ => ⟨rfl, rfl⟩, fun z => absurd rfl z⟩, fun z => absurd z (by omega), fun z => absurd z (by omega), fun z => absurd z (by omega), trivial⟩, fun z => absurd (Int32.not_lt.mp z) h2⟩⟩
set_option maxHeartbeats 4000000 in
set_option maxRecDepth 100000 in
theorem m_layLights {h : zH} {t : Nat → Nat} {f : Nat} {n w : Nat → Nat} {sk : Nat} {sw : Int32} (hb : MS h t f n w sk sw) (hr : RM h t n w) {cause hh : Nat} (hc : cause < 16) (hh9 : hh ≤ 900) :
    ∃ h', R_X8_layLights [.ref 42, .int (nI cause), .int (nI hh)] h none h' ∧ HasM h' (LTS t n w sk sw cause hh) ∧ Fr sM h h' := by
  have hk : cause / 4 < 4 := by omega
  have hl : cause % 4 < 4 := by omega
  have e1 : nI cause / 4 = nI (cause / 4) := by rw [q4, pk_div (by omega) (by omega) (by omega)]
  have e2 : nI cause - nI cause / 4 * 4 = nI (cause % 4) := by rw [q4, q_rem (by omega) (by omega) (by omega)]
  obtain ⟨hn, hcn⟩ := hb.2.1.1 _ hk
  have key : ∀ (m i : Nat) (h1 : zH), i + m = n (cause / 4) → Fr sM h h1 → HasM h1 (LTp t w (cause / 4) (cause % 4) (nI hh) (nI sk) sw i) → ∃ h', zG M_X8_layLights (fun r1 h2 => r1 = none ∧ h2 = h') (zat M_X8_layLights 17) [some (.ref 42), some (.int (nI cause)), some (.int (nI hh)), some (.int (nI (cause / 4))), some (.int (nI (cause % 4))), some (.int (nI i))] [] h1 ∧ HasM h' (LTS t n w sk sw cause hh) ∧ Fr sM h h' := by
    intro m
    induction m with
    | zero =>
      intro i h1 hi hf hL
      have : i = n (cause / 4) := by omega
      subst this
      have hb1 := hb.fr hf sM_ms
      have hlen := LTp_len t w (cause / 4) (cause % 4) (nI hh) (nI sk) sw (n (cause / 4))
      have hin : h1.1 44 (nI (cause / 4)).toNatClampNeg ≤ nI (n (cause / 4)) := by
        rw [nI_clamp (by omega), (hb1.2.1.1 _ hk).2]; exact nI_le (Nat.le_refl _) (by omega)
      have c6 := m_hasWedge hb1.2.1 (k := cause / 4) (v := 600) hk (by omega)
      have c9 := m_hasWedge hb1.2.1 (k := cause / 4) (v := 900) hk (by omega)
      have vp := vp_in_nI hk (show 4 < 2 ^ 31 by omega)
      unfold LTS
      rcases (by omega : cause % 4 = 0 ∨ cause % 4 = 1 ∨ cause % 4 = 2 ∨ cause % 4 = 3) with e | e | e | e <;> rw [e] at hL hlen ⊢
      · refine ⟨h1, t_X8_layLights_17 _ _ _ _ _ _ _ ⟨vp, fun _ => ⟨fun _ => ⟨fun _ => ⟨fun _ => ⟨rfl, rfl⟩, fun z => absurd (by decide) z⟩, fun z => absurd (by decide) z⟩, fun z => absurd (by decide) z⟩, fun z => absurd hin z⟩, by simpa [lgB] using hL, hf⟩
      · cases hp : hasP n w (cause / 4) 600 (n (cause / 4)) with
        | false =>
          rw [hp] at c6
          refine ⟨h1, t_X8_layLights_17 _ _ _ _ _ _ _ ⟨vp, fun _ => ⟨fun z => absurd rfl z, fun _ => ⟨_, _, c6, fun _ => ⟨fun _ => ⟨fun _ => ⟨rfl, rfl⟩, fun z => absurd (by decide) z⟩, fun z => absurd (by decide) z⟩, fun z => absurd rfl z⟩⟩, fun z => absurd hin z⟩, by simpa [lgB] using hL, hf⟩
        | true =>
          rw [hp] at c6
          obtain ⟨h', r1, r2, r3⟩ := m_put hL (by omega) 2 1 1200 1200
          refine ⟨h', t_X8_layLights_17 _ _ _ _ _ _ _ ⟨vp, fun _ => ⟨fun z => absurd rfl z, fun _ => ⟨_, _, c6, fun z => absurd z (by decide), fun _ => ⟨_, r1, fun _ => ⟨fun _ => ⟨rfl, rfl⟩, fun z => absurd (by decide) z⟩, fun z => absurd (by decide) z⟩⟩⟩, fun z => absurd hin z⟩, r2, hf.tr r3⟩
      · cases hp : hasP n w (cause / 4) 900 (n (cause / 4)) with
        | false =>
          rw [hp] at c9
          refine ⟨h1, t_X8_layLights_17 _ _ _ _ _ _ _ ⟨vp, fun _ => ⟨fun _ => ⟨fun z => absurd rfl z, fun _ => ⟨_, _, c9, fun _ => ⟨fun _ => ⟨rfl, rfl⟩, fun z => absurd (by decide) z⟩, fun z => absurd rfl z⟩⟩, fun z => absurd (by decide) z⟩, fun z => absurd hin z⟩, by simpa [lgB] using hL, hf⟩
        | true =>
          rw [hp] at c9
          obtain ⟨h', r1, r2, r3⟩ := m_put hL (by omega) 2 1 1800 1800
          refine ⟨h', t_X8_layLights_17 _ _ _ _ _ _ _ ⟨vp, fun _ => ⟨fun _ => ⟨fun z => absurd rfl z, fun _ => ⟨_, _, c9, fun z => absurd z (by decide), fun _ => ⟨_, r1, fun _ => ⟨rfl, rfl⟩, fun z => absurd (by decide) z⟩⟩⟩, fun z => absurd (by decide) z⟩, fun z => absurd hin z⟩, r2, hf.tr r3⟩
      · obtain ⟨h', r1, r2, r3⟩ := m_put hL (by omega) 3 1 0 1800
        refine ⟨h', t_X8_layLights_17 _ _ _ _ _ _ _ ⟨vp, fun _ => ⟨fun _ => ⟨fun _ => ⟨fun z => absurd rfl z, fun _ => ⟨_, r1, rfl, rfl⟩⟩, fun z => absurd (by decide) z⟩, fun z => absurd (by decide) z⟩, fun z => absurd hin z⟩, r2, hf.tr r3⟩
    | succ m ih =>
      intro i h1 hi hf hL
      have hb1 := hb.fr hf sM_ms
      have hr1 := hr.fr hf (fun _ => rfl)
      have hlen := LTp_len t w (cause / 4) (cause % 4) (nI hh) (nI sk) sw i
      have bd : ∀ d, rg t (w (3 * (cause / 4) + i)) = some d → d ≤ 1800 := fun d h => rg_bd h
      have hout : ¬ (h1.1 44 (nI (cause / 4)).toNatClampNeg ≤ nI i) := by
        rw [nI_clamp (by omega), (hb1.2.1.1 _ hk).2, nI_leI (by omega) (by omega)]; omega
      have vp : vp_in (nI (3 * (cause / 4) + i)) 12 := vp_in_nI (by omega) (by omega)
      have hv := hr1 _ hk i (by omega)
      have estep := LTp_s t w (cause / 4) (cause % 4) (nI hh) (nI sk) sw i
      cases ho : rg t (w (3 * (cause / 4) + i)) with
      | none =>
        rw [ho] at estep hv
        obtain ⟨h', g1, g2⟩ := ih (i + 1) h1 (by omega) hf (by rw [estep]; simpa [lgO] using hL)
        refine ⟨h', t_X8_layLights_17 _ _ _ _ _ _ _ ⟨vp_in_nI hk (by omega), fun z => absurd z hout, fun _ => ?_⟩, g2⟩
        rw [ix_3m, nI_clamp (by omega), hv, nI_1]
        exact ⟨vp, fun _ => g1, fun z => absurd rfl z⟩
      | some d =>
        have hd := bd d ho
        rw [ho] at estep hv
        obtain ⟨h3, r1, r2, r3⟩ := m_putRing hL (by omega) hl ⟨hb1.2.2.1.1, hb1.2.2.1.2.1⟩ hb1.2.2.1.2.2 hb1.2.2.2 (nI d) (nI hh)
        obtain ⟨h', g1, g2⟩ := ih (i + 1) h3 (by omega) (hf.tr r3) (by rw [estep]; exact r2)
        refine ⟨h', t_X8_layLights_17 _ _ _ _ _ _ _ ⟨vp_in_nI hk (by omega), fun z => absurd z hout, fun _ => ?_⟩, g2⟩
        rw [ix_3m, nI_clamp (by omega), hv, nI_1]
        refine ⟨vp, fun z => ?_, fun _ => ⟨vp, _, r1, g1⟩⟩
        have := (oV_none (o := some d) (B := 1800) (by omega) (fun e he => by cases he; exact hd)).mp z
        cases this
  have hf0 : Fr sM h (zsi h 42 21 0) := Fr.rf.si rfl
  obtain ⟨h', g1, g2⟩ := key (n (cause / 4)) 0 (zsi h 42 21 0) (by omega) hf0 ⟨by rw [zr_eq]; rfl, fun j q hq => by simp [LTp] at hq⟩
  refine ⟨h', r_X8_layLights _ _ _ _ _ rfl (t_X8_layLights_0 _ _ _ _ ⟨by decide, by decide, ?_⟩), g2⟩
  rw [e2, e1]
  exact g1
def sG (a _b : Nat) : Bool := a == 56
theorem m_layRings {h : zH} {t : Nat → Nat} {f : Nat} {n w : Nat → Nat} (hb : BM h t f) (hw : CW h 44 45 n w) : ∃ h', R_X8_layRings [.ref 42] h none h' ∧ RM h' t n w ∧ Fr sG h h' := by
  have inv : ∀ {h1 : zH}, Fr sG h h1 → BM h1 t f ∧ CW h1 44 45 n w := fun hf => ⟨⟨hb.1, hb.2.1, fun j hj => by rw [hf 43 j rfl]; exact hb.2.2.1 j hj, by rw [hf 42 1 rfl]; exact hb.2.2.2⟩, hw.fr hf (fun _ => rfl) (fun _ => rfl)⟩
  have key : ∀ (mk k : Nat) (h1 : zH), k + mk = 4 → Fr sG h h1 → (∀ k', k' < k → ∀ i, i < n k' → h1.1 56 (3 * k' + i) = oV (rg t (w (3 * k' + i)))) → ∃ h', zG M_X8_layRings (fun r1 h2 => r1 = none ∧ h2 = h') (zat M_X8_layRings 2) [some (.ref 42), some (.int (nI k)), none] [] h1 ∧ RM h' t n w ∧ Fr sG h h' := by
    intro mk
    induction mk with
    | zero =>
      intro k h1 hk hf hd
      have : k = 4 := by omega
      subst this
      exact ⟨h1, t_X8_layRings_2 _ _ _ ⟨fun _ => ⟨rfl, rfl⟩, fun z => absurd (by decide) z⟩, hd, hf⟩
    | succ mk ih =>
      intro k h1 hk hf hd
      have hk4 : k < 4 := by omega
      have inner : ∀ (m i : Nat) (h2 : zH), i + m = n k → Fr sG h h2 → (∀ k', k' < k → ∀ i, i < n k' → h2.1 56 (3 * k' + i) = oV (rg t (w (3 * k' + i)))) → (∀ j, j < i → h2.1 56 (3 * k + j) = oV (rg t (w (3 * k + j)))) → ∃ h', zG M_X8_layRings (fun r1 h2 => r1 = none ∧ h2 = h') (zat M_X8_layRings 9) [some (.ref 42), some (.int (nI k)), some (.int (nI i))] [] h2 ∧ RM h' t n w ∧ Fr sG h h' := by
        intro m
        induction m with
        | zero =>
          intro i h2 hi hf2 hd2 hj2
          have : i = n k := by omega
          subst this
          obtain ⟨hb2, hw2⟩ := inv hf2
          obtain ⟨hnk, hck⟩ := hw2.1 k hk4
          obtain ⟨h', g1, g2⟩ := ih (k + 1) h2 (by omega) hf2 (fun k' hk' i' hi' => by
            by_cases e : k' = k
            · subst e; exact hj2 i' hi'
            · exact hd2 k' (by omega) i' hi')
          refine ⟨h', t_X8_layRings_9 _ _ _ _ ⟨vp_in_nI hk4 (by omega), fun _ => by rw [nI_1]; exact g1, fun z => absurd ?_ z⟩, g2⟩
          rw [nI_clamp (by omega), hck]; exact nI_le (Nat.le_refl _) (by omega)
        | succ m ih2 =>
          intro i h2 hi hf2 hd2 hj2
          obtain ⟨hb2, hw2⟩ := inv hf2
          obtain ⟨hnk, hck⟩ := hw2.1 k hk4
          have hwi := hw2.2 (3 * k + i) (by omega)
          have hlt := m_ringOf (c := 0) hb2 (w := w (3 * k + i)) hwi.1 (by omega)
          rw [bn_c0] at hlt
          have vp : vp_in (nI (3 * k + i)) 12 := vp_in_nI (by omega) (by omega)
          obtain ⟨h', g1, g2⟩ := ih2 (i + 1) (zsi h2 56 (3 * k + i) (oV (rg t (w (3 * k + i))))) (by omega) (hf2.si rfl) (fun k' hk' i' hi' => by
            have := (hw2.1 k' (by omega)).1
            rw [zr_nj (by omega)]; exact hd2 k' hk' i' hi') (fun j hj => by
            by_cases e : j = i
            · subst e; rw [zr_eq]
            · rw [zr_nj (by omega)]; exact hj2 j (by omega))
          refine ⟨h', t_X8_layRings_9 _ _ _ _ ⟨vp_in_nI hk4 (by omega), fun z => ?_, fun _ => ?_⟩, g2⟩
          · rw [nI_clamp (by omega), hck, nI_leI (by omega) (by omega)] at z; omega
          · rw [ix_3m, nI_clamp (by omega), hwi.2, nI_1]
            exact ⟨vp, _, _, hlt, vp, g1⟩
      obtain ⟨h', g1, g2⟩ := inner (n k) 0 h1 (by omega) hf hd (fun j hj => by omega)
      refine ⟨h', t_X8_layRings_2 _ _ _ ⟨fun z => ?_, fun _ => g1⟩, g2⟩
      rw [q4, nI_leI (by omega) (by omega)] at z; omega
  obtain ⟨h', g1, g2⟩ := key 4 0 h (by omega) Fr.rf (fun k' hk' => by omega)
  exact ⟨h', r_X8_layRings _ _ _ rfl (t_X8_layRings_0 _ _ g1), g2⟩
