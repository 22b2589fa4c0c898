/-! ===== wedges: how a ray is turned, rings; of both ===== -/
def oV (o : Option Nat) : Int32 := match o with
  | none => -10000
  | some d => nI d
noncomputable def turnO (g : Nat → Nat) (w i : Nat) : Option Nat := if g i ≤ w then (if lof g (w - g i) ≤ 900 then some (i + lof g (w - g i) - w) else none) else none
def mnO (a b : Option Nat) : Option Nat := match a, b with
  | a, none => a
  | none, some b => some b
  | some a, some b => some (if a ≤ b then a else b)
noncomputable def rgO (g : Nat → Nat) (w : Nat) : Nat → Option Nat
  | 0 => none
  | n + 1 => mnO (rgO g w n) (turnO g w n)
/-- what bending is like -/
def GV (g : Nat → Nat) : Prop := (∀ i, i ≤ 900 → g i ≤ i) ∧ ∀ i j, i ≤ j → j ≤ 900 → g i ≤ g j
theorem gv_bn {t : Nat → Nat} (hv : TV t) {f s c : Nat} (hs : s ≤ 2) (hf : f ≤ 20) (hc : c ≤ 3) : GV (bn t f s c) := ⟨fun _ hi => bn_le hv (by omega) hi, fun _ _ hij hj => bn_mono hv (by omega) hf hc hij hj⟩
theorem turnO_ge {g : Nat → Nat} (hg : GV g) {w i : Nat} (hi : i ≤ 900) (h1 : g i ≤ w) (h2 : lof g (w - g i) ≤ 900) : w ≤ i + lof g (w - g i) := by
  have he := lof_is g (w - g i)
  have a := he.2.2 h2
  have b := hg.1 _ h2
  have c := hg.1 _ hi
  omega
theorem turnO_bd {g : Nat → Nat} {w i : Nat} (hi : i ≤ 900) {d : Nat} (h : turnO g w i = some d) : d ≤ 1800 - w := by
  unfold turnO at h
  split at h
  · split at h
    · cases h; omega
    · cases h
  · cases h
theorem rgO_bd {g : Nat → Nat} {w : Nat} : ∀ {n : Nat}, n ≤ 901 → ∀ {d : Nat}, rgO g w n = some d → d ≤ 1800 - w
  | 0, _, d, h => by cases h
  | n + 1, hn, d, h => by
    unfold rgO at h
    cases h1 : rgO g w n with
    | none =>
      rw [h1] at h
      cases h2 : turnO g w n with
      | none => rw [h2] at h; cases h
      | some b => rw [h2] at h; simp only [mnO, Option.some.injEq] at h; subst h; exact turnO_bd (by omega) h2
    | some a =>
      have ha := rgO_bd (n := n) (by omega) h1
      rw [h1] at h
      cases h2 : turnO g w n with
      | none => rw [h2] at h; simp only [mnO, Option.some.injEq] at h; omega
      | some b =>
        have hb := turnO_bd (by omega) h2
        rw [h2] at h
        simp only [mnO, Option.some.injEq] at h
        split at h <;> omega
theorem rgO_stop {g : Nat → Nat} (hg : GV g) {w i : Nat} (h : w < g i) : ∀ n, i ≤ n → n ≤ 901 → rgO g w n = rgO g w i
  | 0, h1, _ => by have : i = 0 := by omega
                   subst this; rfl
  | n + 1, h1, h2 => by
    by_cases hn : i = n + 1
    · subst hn; rfl
    · have ih := rgO_stop hg h n (by omega) (by omega)
      have := hg.2 i n (by omega) (by omega)
      have e : turnO g w n = none := by unfold turnO; rw [if_neg (by omega)]
      show mnO (rgO g w n) (turnO g w n) = _
      rw [e, ih]
      cases rgO g w i <;> rfl
theorem oV_none {o : Option Nat} {B : Nat} (hB : B ≤ 2000) (h : ∀ d, o = some d → d ≤ B) : oV o = -10000 ↔ o = none := by
  cases o with
  | none => simp [oV]
  | some d =>
    have := h d rfl
    refine ⟨fun z => ?_, fun z => by cases z⟩
    have z2 := congrArg Int32.toInt z
    simp only [oV] at z2
    rw [nI_toInt (by omega)] at z2
    have : (-10000 : Int32).toInt = -10000 := rfl
    omega
theorem lof_anti {g : Nat → Nat} {r r' : Nat} (h : r' ≤ r) : lof g r' ≤ lof g r := by
  have a := lof_is g r
  have b := lof_is g r'
  rcases Nat.lt_or_ge (lof g r) (lof g r') with q | q
  · have h1 := b.2.1 _ q
    have h2 := a.2.2 (by have := b.1; omega)
    omega
  · exact q
/-! turned -/
theorem c_turnOf {h : zH} {t : Nat → Nat} {f w c i : Nat} (hb : BT h t f) (hw : w ≤ 1200) (hc : c ≤ 3) (hi : i ≤ 900) : R_X4_turnOf [.ref 29, .int (nI w), .int (nI c), .int (nI i)] h (some (.int (oV (turnO (bn t f 1 c) w i)))) h := by
  refine r_X4_turnOf _ _ _ _ _ _ ⟨_, rfl⟩ (t_X4_turnOf_0 _ _ _ _ _ ?_)
  have hg := gv_bn hb.1 (f := f) (s := 1) (c := c) (by omega) hb.2.1 hc
  have hgi := hg.1 i hi
  refine ⟨_, _, c_bent hb (s := 1) (by omega) hc hi, fun h0 => ?_, fun h0 => ?_⟩
  · have hle : bn t f 1 c i ≤ w := by
      rcases Nat.lt_or_ge w (bn t f 1 c i) with q | q
      · exact absurd h0 (Int32.not_le.mpr (pk_sneg (by omega) q))
      · exact q
    rw [pk_sub hle]
    refine ⟨_, _, c_unbent hb (s := 1) (by omega) hc (by omega), fun hv => ⟨?_, rfl⟩, fun hv => ⟨?_, rfl⟩⟩
    · have h9 : lof (bn t f 1 c) (w - bn t f 1 c i) ≤ 900 := by
        rcases Nat.lt_or_ge 900 (lof (bn t f 1 c) (w - bn t f 1 c i)) with q | q
        · exact absurd (by rw [valE, if_neg (by omega)]) hv
        · exact q
      rw [valE, if_pos h9, nI_add, pk_sub (turnO_ge hg hi hle h9)]
      simp only [turnO, if_pos hle, if_pos h9, oV]
    · have h9 : ¬ lof (bn t f 1 c) (w - bn t f 1 c i) ≤ 900 := by
        intro q
        refine hv (fun z => ?_)
        rw [valE, if_pos q] at z
        have z2 := congrArg Int32.toInt z
        rw [nI_toInt (by omega)] at z2
        have : (-4 : Int32).toInt = -4 := rfl
        omega
      simp only [turnO, if_pos hle, if_neg h9, oV]
  · have hle : ¬ bn t f 1 c i ≤ w := by
      intro q
      rw [pk_sub q] at h0
      exact h0 (nI_pos' (by omega))
    exact ⟨by simp only [turnO, if_neg hle, oV], rfl⟩
theorem m_turnedBy {h : zH} {t : Nat → Nat} {f w c i : Nat} (hb : BM h t f) (hw : w ≤ 1200) (hc : c ≤ 3) (hi : i ≤ 900) : R_X8_turnedBy [.ref 42, .int (nI w), .int (nI c), .int (nI i)] h (some (.int (oV (turnO (bn t f 1 c) w i)))) h := by
  refine r_X8_turnedBy _ _ _ _ _ _ ⟨_, rfl⟩ (t_X8_turnedBy_0 _ _ _ _ _ ?_)
  have hg := gv_bn hb.1 (f := f) (s := 1) (c := c) (by omega) hb.2.1 hc
  have hgi := hg.1 i hi
  refine ⟨_, _, m_bent hb (s := 1) (by omega) hc hi, fun h0 => ?_, fun h0 => ?_⟩
  · have hle : bn t f 1 c i ≤ w := by
      rcases Nat.lt_or_ge w (bn t f 1 c i) with q | q
      · exact absurd h0 (Int32.not_le.mpr (pk_sneg (by omega) q))
      · exact q
    rw [pk_sub hle]
    refine ⟨_, _, m_least hb (s := 1) (by omega) hc (by omega), fun hv => ⟨?_, rfl⟩, fun hv => ⟨?_, rfl⟩⟩
    · have h9 : lof (bn t f 1 c) (w - bn t f 1 c i) ≤ 900 := by
        rcases Nat.lt_or_ge 900 (lof (bn t f 1 c) (w - bn t f 1 c i)) with q | q
        · exact absurd (by rw [valE, if_neg (by omega)]) hv
        · exact q
      rw [valE, if_pos h9, nI_add, pk_sub (turnO_ge hg hi hle h9)]
      simp only [turnO, if_pos hle, if_pos h9, oV]
    · have h9 : ¬ lof (bn t f 1 c) (w - bn t f 1 c i) ≤ 900 := by
        intro q
        refine hv (fun z => ?_)
        rw [valE, if_pos q] at z
        have z2 := congrArg Int32.toInt z
        rw [nI_toInt (by omega)] at z2
        have : (-4 : Int32).toInt = -4 := rfl
        omega
      simp only [turnO, if_pos hle, if_neg h9, oV]
  · have hle : ¬ bn t f 1 c i ≤ w := by
      intro q
      rw [pk_sub q] at h0
      exact h0 (nI_pos' (by omega))
    exact ⟨fun z => absurd rfl z, fun _ => ⟨by simp only [turnO, if_neg hle, oV], rfl⟩⟩
/-! rings -/
theorem m_ringOf {h : zH} {t : Nat → Nat} {f w c : Nat} (hb : BM h t f) (hw : w ≤ 1200) (hc : c ≤ 3) : R_X8_ringOf [.ref 42, .int (nI w), .int (nI c)] h (some (.int (oV (rgO (bn t f 1 c) w 901)))) h := by
  refine r_X8_ringOf _ _ _ _ _ ⟨_, rfl⟩ (t_X8_ringOf_0 _ _ _ _ ?_)
  have key : ∀ (n i : Nat), i + n = 901 → zG M_X8_ringOf (fun r1 h1 => r1 = some (.int (oV (rgO (bn t f 1 c) w 901))) ∧ h1 = h) (zat M_X8_ringOf 7) [some (.ref 42), some (.int (nI w)), some (.int (nI c)), some (.int (oV (rgO (bn t f 1 c) w i))), some (.int (nI i)), none] [] h := by
    intro n
    induction n with
    | zero =>
      intro i hi
      have : i = 901 := by omega
      subst this
      exact t_X8_ringOf_7 _ _ _ _ _ _ ⟨fun _ => ⟨rfl, rfl⟩, fun z => absurd (by decide) z⟩
    | succ n ih =>
      intro i hi
      refine t_X8_ringOf_7 _ _ _ _ _ _ ⟨fun z => ?_, fun _ => ?_⟩
      · rw [q900, nI_ltI (by omega) (by omega)] at z; omega
      have ih2 := ih (i + 1) (by omega)
      rw [nI_1]
      refine ⟨_, _, m_turnedBy hb hw hc (by omega), ?_⟩
      have e : rgO (bn t f 1 c) w (i + 1) = mnO (rgO (bn t f 1 c) w i) (turnO (bn t f 1 c) w i) := rfl
      have ba : ∀ d, rgO (bn t f 1 c) w i = some d → d ≤ 1800 := fun d h => by have := rgO_bd (by omega) h; omega
      have bb : ∀ d, turnO (bn t f 1 c) w i = some d → d ≤ 1800 := fun d h => by have := turnO_bd (by omega) h; omega
      rw [oV_none (by omega) ba, oV_none (by omega) bb]
      rw [e] at ih2
      cases h1 : rgO (bn t f 1 c) w i with
      | none =>
        rw [h1] at ih2
        cases h2 : turnO (bn t f 1 c) w i with
        | none => rw [h2] at ih2; exact ⟨fun _ => ih2, fun z => absurd rfl z⟩
        | some b => rw [h2] at ih2; exact ⟨fun z => (by cases z), fun _ => ⟨fun _ => ih2, fun z => absurd rfl z⟩⟩
      | some a =>
        rw [h1] at ih2
        have ha := ba a h1
        cases h2 : turnO (bn t f 1 c) w i with
        | none => rw [h2] at ih2; exact ⟨fun _ => ih2, fun z => absurd rfl z⟩
        | some b =>
          have hb2 := bb b h2
          rw [h2] at ih2
          simp only [mnO] at ih2
          refine ⟨fun z => (by cases z), fun _ => ⟨fun z => (by cases z), fun _ => ⟨fun z => ?_, fun z => ?_⟩⟩⟩
          · simp only [oV] at z
            rw [nI_leI (by omega) (by omega)] at z
            rw [if_pos z] at ih2; exact ih2
          · simp only [oV] at z
            rw [nI_leI (by omega) (by omega)] at z
            rw [if_neg z] at ih2; exact ih2
  exact key 901 0 (by omega)
theorem c_leastTurn {h : zH} {t : Nat → Nat} {f w c : Nat} (hb : BT h t f) (hw : w ≤ 1200) (hc : c ≤ 3) : R_X4_leastTurn [.ref 29, .int (nI w), .int (nI c)] h (some (.int (oV (rgO (bn t f 1 c) w 901)))) h := by
  refine r_X4_leastTurn _ _ _ _ _ ⟨_, rfl⟩ (t_X4_leastTurn_0 _ _ _ _ ?_)
  have hg := gv_bn hb.1 (f := f) (s := 1) (c := c) (by omega) hb.2.1 hc
  have ba : ∀ {i : Nat}, i ≤ 901 → ∀ d, rgO (bn t f 1 c) w i = some d → d ≤ 1800 := fun hi d h => by have := rgO_bd hi h; omega
  have key : ∀ (n i ep : Nat), i + n = 901 → ep ≤ 901 → (i ≤ 900 → lof (bn t f 1 c) (w - bn t f 1 c i) ≤ ep) → zG M_X4_leastTurn (fun r1 h1 => r1 = some (.int (oV (rgO (bn t f 1 c) w 901))) ∧ h1 = h) (zat M_X4_leastTurn 12) [some (.ref 29), some (.int (nI w)), some (.int (nI c)), some (.int (oV (rgO (bn t f 1 c) w i))), some (.int (nI ep)), some (.int (nI i)), none] [] h := by
    intro n
    induction n with
    | zero =>
      intro i ep hi hep hlo
      have : i = 901 := by omega
      subst this
      exact t_X4_leastTurn_12 _ _ _ _ _ _ _ ⟨fun _ => ⟨rfl, rfl⟩, fun z => absurd (by decide) z⟩
    | succ n ih =>
      intro i ep hi hep hlo
      have hgi := hg.1 i (by omega)
      refine t_X4_leastTurn_12 _ _ _ _ _ _ _ ⟨fun z => ?_, fun _ => ?_⟩
      · rw [q900, nI_ltI (by omega) (by omega)] at z; omega
      refine ⟨_, _, c_bent hb (s := 1) (by omega) hc (i := i) (by omega), fun h0 => ?_, fun h0 => ?_⟩
      · have hle : bn t f 1 c i ≤ w := by
          rcases Nat.lt_or_ge w (bn t f 1 c i) with q | q
          · exact absurd h0 (Int32.not_le.mpr (pk_sneg (by omega) q))
          · exact q
        rw [pk_sub hle]
        -- behind the inner loop
        have fin : ep ≤ 901 → ∀ e, e = lof (bn t f 1 c) (w - bn t f 1 c i) → (900 < nI e → zG M_X4_leastTurn (fun r1 h1 => r1 = some (.int (oV (rgO (bn t f 1 c) w 901))) ∧ h1 = h) (zat M_X4_leastTurn 12) [some (.ref 29), some (.int (nI w)), some (.int (nI c)), some (.int (oV (rgO (bn t f 1 c) w i))), some (.int (nI e)), some (.int (nI i + 1)), none] [] h) ∧
            (¬ (900 < nI e) → (oV (rgO (bn t f 1 c) w i) = -10000 → zG M_X4_leastTurn (fun r1 h1 => r1 = some (.int (oV (rgO (bn t f 1 c) w 901))) ∧ h1 = h) (zat M_X4_leastTurn 12) [some (.ref 29), some (.int (nI w)), some (.int (nI c)), some (.int ((nI i + nI e) - nI w)), some (.int (nI e)), some (.int (nI i + 1)), none] [] h) ∧
              (¬ (oV (rgO (bn t f 1 c) w i) = -10000) → (oV (rgO (bn t f 1 c) w i) ≤ ((nI i + nI e) - nI w) → zG M_X4_leastTurn (fun r1 h1 => r1 = some (.int (oV (rgO (bn t f 1 c) w 901))) ∧ h1 = h) (zat M_X4_leastTurn 12) [some (.ref 29), some (.int (nI w)), some (.int (nI c)), some (.int (oV (rgO (bn t f 1 c) w i))), some (.int (nI e)), some (.int (nI i + 1)), none] [] h) ∧
                (¬ (oV (rgO (bn t f 1 c) w i) ≤ ((nI i + nI e) - nI w)) → zG M_X4_leastTurn (fun r1 h1 => r1 = some (.int (oV (rgO (bn t f 1 c) w 901))) ∧ h1 = h) (zat M_X4_leastTurn 12) [some (.ref 29), some (.int (nI w)), some (.int (nI c)), some (.int ((nI i + nI e) - nI w)), some (.int (nI e)), some (.int (nI i + 1)), none] [] h))) := by
          intro _ e he
          have hle2 := (lof_is (bn t f 1 c) (w - bn t f 1 c i)).1
          have ih2 := ih (i + 1) e (by omega) (by omega) (fun h9 => by
            rw [he]
            have := hg.2 i (i + 1) (by omega) h9
            exact lof_anti (by omega))
          have er : rgO (bn t f 1 c) w (i + 1) = mnO (rgO (bn t f 1 c) w i) (turnO (bn t f 1 c) w i) := rfl
          rw [er] at ih2
          rw [nI_1, q900, nI_ltI (by omega) (by omega), oV_none (by omega) (ba (by omega))]
          by_cases h9 : e ≤ 900
          · have et : turnO (bn t f 1 c) w i = some (i + e - w) := by
              unfold turnO; rw [if_pos hle, ← he, if_pos h9]
            have hge : w ≤ i + e := by rw [he]; exact turnO_ge hg (by omega) hle (by omega)
            rw [et] at ih2
            rw [nI_add, pk_sub hge]
            refine ⟨fun z => (by omega), fun _ => ?_⟩
            cases h1 : rgO (bn t f 1 c) w i with
            | none => rw [h1] at ih2; exact ⟨fun _ => ih2, fun z => absurd rfl z⟩
            | some a =>
              have ha := ba (by omega) a h1
              rw [h1] at ih2
              simp only [mnO] at ih2
              refine ⟨fun z => (by cases z), fun _ => ⟨fun z => ?_, fun z => ?_⟩⟩
              · simp only [oV] at z
                rw [nI_leI (by omega) (by omega)] at z
                rw [if_pos z] at ih2; exact ih2
              · simp only [oV] at z
                rw [nI_leI (by omega) (by omega)] at z
                rw [if_neg z] at ih2; exact ih2
          · have et : turnO (bn t f 1 c) w i = none := by
              unfold turnO; rw [if_pos hle, ← he, if_neg h9]
            rw [et] at ih2
            refine ⟨fun _ => ?_, fun z => absurd (by omega) z⟩
            cases h1 : rgO (bn t f 1 c) w i with
            | none => rw [h1] at ih2; exact ih2
            | some a => rw [h1] at ih2; exact ih2
        have hlo2 := hlo (by omega)
        have inner : ∀ ep, ep ≤ 901 → lof (bn t f 1 c) (w - bn t f 1 c i) ≤ ep → zG M_X4_leastTurn (fun r1 h1 => r1 = some (.int (oV (rgO (bn t f 1 c) w 901))) ∧ h1 = h) (zat M_X4_leastTurn 43) [some (.ref 29), some (.int (nI w)), some (.int (nI c)), some (.int (oV (rgO (bn t f 1 c) w i))), some (.int (nI ep)), some (.int (nI i)), some (.int (nI (w - bn t f 1 c i)))] [] h := by
          intro ep
          induction ep with
          | zero =>
            intro h1 h2
            refine t_X4_leastTurn_43 _ _ _ _ _ _ _ _ ⟨fun _ => fin hep 0 (by omega), fun z => absurd (by decide) z⟩
          | succ ep ih3 =>
            intro h1 h2
            have hge := hg.1 ep (by omega)
            refine t_X4_leastTurn_43 _ _ _ _ _ _ _ _ ⟨fun z => ?_, fun _ => ?_⟩
            · rw [q0, nI_leI (by omega) (by omega)] at z; omega
            rw [nI_pred, pk_m1]
            have hl := lof_is (bn t f 1 c) (w - bn t f 1 c i)
            refine ⟨_, _, c_bent hb (s := 1) (by omega) hc (i := ep) (by omega), fun z => fin hep (ep + 1) ?_, fun z => ih3 (by omega) ?_⟩
            · rw [nI_ltI (by omega) (by omega)] at z
              rcases Nat.lt_or_ge ep (lof (bn t f 1 c) (w - bn t f 1 c i)) with q | q
              · omega
              · have a1 := hl.2.2 (by omega)
                have a2 := hg.2 _ _ q (by omega)
                omega
            · rw [nI_ltI (by omega) (by omega)] at z
              rcases Nat.lt_or_ge ep (lof (bn t f 1 c) (w - bn t f 1 c i)) with q | q
              · have := hl.2.1 _ q; omega
              · exact q
        exact inner ep hep hlo2
      · have hle : w < bn t f 1 c i := by
          rcases Nat.lt_or_ge w (bn t f 1 c i) with q | q
          · exact q
          · rw [pk_sub q] at h0
            exact absurd (nI_pos' (by omega)) h0
        exact ⟨by rw [rgO_stop hg hle 901 (by omega) (by omega)], rfl⟩
  exact key 901 0 901 (by omega) (by omega) (fun _ => (lof_is _ _).1)
