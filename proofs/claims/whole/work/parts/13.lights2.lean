/-! ===== the wedges of a kind; the lights of a cause ===== -/
def CW (h : zH) (lc lw : Nat) (n w : Nat → Nat) : Prop := (∀ k, k < 4 → n k ≤ 3 ∧ h.1 lc k = nI (n k)) ∧ ∀ j, j < 12 → w j ≤ 1200 ∧ h.1 lw j = nI (w j)
def hasP (n w : Nat → Nat) (k v i : Nat) : Bool := (List.range i).any (fun j => w (3 * k + j) == v)
def bI (b : Bool) : Int32 := if b then 1 else 0
theorem hasP_s (n w : Nat → Nat) (k v i : Nat) : hasP n w k v (i + 1) = (hasP n w k v i || w (3 * k + i) == v) := by
  unfold hasP
  rw [List.range_succ, List.any_append]
  simp
theorem hasP_grow {n w : Nat → Nat} {k v i : Nat} (h : hasP n w k v i = true) : ∀ m, hasP n w k v (i + m) = true
  | 0 => h
  | m + 1 => by rw [← Nat.add_assoc, hasP_s, hasP_grow h m]; rfl
theorem ix_3c {k i : Nat} : nI k * 3 + nI i = nI (3 * k + i) := by rw [q3, pk_mul, nI_add, Nat.mul_comm]
theorem ix_3m {k i : Nat} : 3 * nI k + nI i = nI (3 * k + i) := by rw [q3, pk_mul, nI_add]
theorem c_hasWedge {h : zH} {n w : Nat → Nat} (hw : CW h 5 4 n w) {k v : Nat} (hk : k < 4) (hv : v ≤ 2000) : R_X6_hasWedge [.ref 1, .int (nI k), .int (nI v)] h (some (.int (bI (hasP n w k v (n k))))) h := by
  refine r_X6_hasWedge _ _ _ _ _ (by cases hasP n w k v (n k) <;> simp [bI]) (t_X6_hasWedge_0 _ _ _ _ ?_)
  obtain ⟨hn, hc⟩ := hw.1 k hk
  have key : ∀ (m i : Nat), i + m = n k → hasP n w k v i = false → zG M_X6_hasWedge (fun r1 h1 => r1 = some (.int (bI (hasP n w k v (n k)))) ∧ h1 = h) (zat M_X6_hasWedge 2) [some (.ref 1), some (.int (nI k)), some (.int (nI v)), some (.int (nI i))] [] h := by
    intro m
    induction m with
    | zero =>
      intro i hi hf
      have : i = n k := by omega
      subst this
      refine t_X6_hasWedge_2 _ _ _ _ _ ⟨vp_in_nI hk (by omega), fun _ => ⟨by rw [hf]; rfl, rfl⟩, fun z => absurd ?_ z⟩
      rw [nI_clamp (by omega), hc]; exact nI_le (Nat.le_refl _) (by omega)
    | succ m ih =>
      intro i hi hf
      have hwi := hw.2 (3 * k + i) (by omega)
      refine t_X6_hasWedge_2 _ _ _ _ _ ⟨vp_in_nI hk (by omega), fun z => ?_, fun _ => ?_⟩
      · rw [nI_clamp (by omega), hc, nI_leI (by omega) (by omega)] at z; omega
      rw [ix_3c, nI_clamp (by omega), hwi.2, nI_1, nI_eq (by omega) (by omega)]
      refine ⟨vp_in_nI (by omega) (by omega), fun z => ih (i + 1) (by omega) ?_, fun z => ?_⟩
      · rw [hasP_s, hf]; simpa using z
      · have hz : w (3 * k + i) = v := Classical.not_not.mp z
        have h1 : hasP n w k v (i + 1) = true := by rw [hasP_s]; simp [hz]
        have h2 := hasP_grow h1 m
        rw [show i + 1 + m = n k by omega] at h2
        exact ⟨by rw [h2]; rfl, rfl⟩
  exact key (n k) 0 (by omega) rfl
theorem m_hasWedge {h : zH} {n w : Nat → Nat} (hw : CW h 44 45 n w) {k v : Nat} (hk : k < 4) (hv : v ≤ 2000) : R_X8_hasWedge [.ref 42, .int (nI k), .int (nI v)] h (some (.int (bI (hasP n w k v (n k))))) h := by
  refine r_X8_hasWedge _ _ _ _ _ (by cases hasP n w k v (n k) <;> simp [bI]) (t_X8_hasWedge_0 _ _ _ _ ?_)
  obtain ⟨hn, hc⟩ := hw.1 k hk
  have key : ∀ (m i : Nat), i + m = n k → zG M_X8_hasWedge (fun r1 h1 => r1 = some (.int (bI (hasP n w k v (n k)))) ∧ h1 = h) (zat M_X8_hasWedge 5) [some (.ref 42), some (.int (nI k)), some (.int (nI v)), some (.int (bI (hasP n w k v i))), some (.int (nI i))] [] h := by
    intro m
    induction m with
    | zero =>
      intro i hi
      have : i = n k := by omega
      subst this
      refine t_X8_hasWedge_5 _ _ _ _ _ _ ⟨vp_in_nI hk (by omega), fun _ => ⟨rfl, rfl⟩, fun z => absurd ?_ z⟩
      rw [nI_clamp (by omega), hc]; exact nI_le (Nat.le_refl _) (by omega)
    | succ m ih =>
      intro i hi
      have hwi := hw.2 (3 * k + i) (by omega)
      have ih2 := ih (i + 1) (by omega)
      refine t_X8_hasWedge_5 _ _ _ _ _ _ ⟨vp_in_nI hk (by omega), fun z => ?_, fun _ => ?_⟩
      · rw [nI_clamp (by omega), hc, nI_leI (by omega) (by omega)] at z; omega
      rw [ix_3m, nI_clamp (by omega), hwi.2, nI_1, nI_eq (by omega) (by omega)]
      rw [hasP_s] at ih2
      refine ⟨fun z => ?_, fun z => ⟨vp_in_nI (by omega) (by omega), fun z2 => ?_, fun z2 => ?_⟩⟩
      · cases hp : hasP n w k v i with
        | false => rw [hp] at z; exact absurd rfl z
        | true => rw [hp] at ih2; exact ih2
      · cases hp : hasP n w k v i with
        | false =>
          rw [hp] at ih2
          have : (w (3 * k + i) == v) = false := by simpa using z2
          rw [this] at ih2; exact ih2
        | true => rw [hp] at z; exact absurd (by decide) z
      · cases hp : hasP n w k v i with
        | false =>
          rw [hp] at ih2
          have : (w (3 * k + i) == v) = true := by simpa using Classical.not_not.mp z2
          rw [this] at ih2; exact ih2
        | true => rw [hp] at z; exact absurd (by decide) z
  exact key (n k) 0 (by omega)
theorem c_behind {h : zH} {n w : Nat → Nat} {L : List LT} (hw : CW h 5 4 n w) (hL : HasC h L) (hn : L.length ≤ 6) {k lean : Nat} (hk : k < 4) (hl : lean < 4) : ∃ h', R_X4_addLightsBehind [.ref 29, .int (nI k), .int (nI lean)] h none h' ∧ HasC h' (L ++ lgB lean (hasP n w k 600 (n k)) (hasP n w k 900 (n k))) ∧ Fr sL h h' := by
  have c6 := c_hasWedge hw (k := k) (v := 600) hk (by omega)
  have c9 := c_hasWedge hw (k := k) (v := 900) hk (by omega)
  rcases (by omega : lean = 0 ∨ lean = 1 ∨ lean = 2 ∨ lean = 3) with rfl | rfl | rfl | rfl
  · refine ⟨h, r_X4_addLightsBehind _ _ _ _ _ rfl (t_X4_addLightsBehind_0 _ _ _ _ ⟨fun _ => ⟨fun _ => ⟨fun _ => ⟨rfl, rfl⟩, fun z => absurd (by decide) z⟩, fun z => absurd (by decide) z⟩, fun z => absurd (by decide) z⟩), by simpa [lgB] using hL, Fr.rf⟩
  · cases hp : hasP n w k 600 (n k) with
    | false =>
      rw [hp] at c6
      refine ⟨h, r_X4_addLightsBehind _ _ _ _ _ rfl (t_X4_addLightsBehind_0 _ _ _ _ ⟨fun z => absurd rfl z, fun _ => ⟨_, _, c6, fun _ => ⟨fun _ => ⟨fun _ => ⟨rfl, rfl⟩, fun z => absurd (by decide) z⟩, fun z => absurd (by decide) z⟩, fun z => absurd rfl z⟩⟩), by simpa [lgB] using hL, Fr.rf⟩
    | true =>
      rw [hp] at c6
      obtain ⟨h', r1, r2, r3⟩ := c_add hL (by omega) 2 1 1200 1200
      exact ⟨h', r_X4_addLightsBehind _ _ _ _ _ rfl (t_X4_addLightsBehind_0 _ _ _ _ ⟨fun z => absurd rfl z, fun _ => ⟨_, _, c6, fun z => absurd z (by decide), fun _ => ⟨_, r1, rfl, rfl⟩⟩⟩), r2, r3⟩
  · cases hp : hasP n w k 900 (n k) with
    | false =>
      rw [hp] at c9
      refine ⟨h, r_X4_addLightsBehind _ _ _ _ _ rfl (t_X4_addLightsBehind_0 _ _ _ _ ⟨fun _ => ⟨fun z => absurd rfl z, fun _ => ⟨_, _, c9, fun _ => ⟨fun _ => ⟨rfl, rfl⟩, fun z => absurd (by decide) z⟩, fun z => absurd rfl z⟩⟩, fun z => absurd (by decide) z⟩), by simpa [lgB] using hL, Fr.rf⟩
    | true =>
      rw [hp] at c9
      obtain ⟨h', r1, r2, r3⟩ := c_add hL (by omega) 2 1 1800 1800
      exact ⟨h', r_X4_addLightsBehind _ _ _ _ _ rfl (t_X4_addLightsBehind_0 _ _ _ _ ⟨fun _ => ⟨fun z => absurd rfl z, fun _ => ⟨_, _, c9, fun z => absurd z (by decide), fun _ => ⟨_, r1, rfl, rfl⟩⟩⟩, fun z => absurd (by decide) z⟩), r2, r3⟩
  · obtain ⟨h', r1, r2, r3⟩ := c_add hL (by omega) 3 1 0 1800
    exact ⟨h', r_X4_addLightsBehind _ _ _ _ _ rfl (t_X4_addLightsBehind_0 _ _ _ _ ⟨fun _ => ⟨fun _ => ⟨fun z => absurd rfl z, fun _ => ⟨_, r1, rfl, rfl⟩⟩, fun z => absurd (by decide) z⟩, fun z => absurd (by decide) z⟩), r2, r3⟩
/-! the lights of a cause -/
noncomputable def rg (t : Nat → Nat) (w : Nat) : Option Nat := rgO (bn t 0 1 0) w 901
theorem bn_c0 (t : Nat → Nat) (f s : Nat) : bn t f s 0 = bn t 0 s 0 := by
  funext i; simp [bn_eq]
noncomputable def lgO (o : Option Nat) (lean : Nat) (hh sk sw : Int32) : List LT := match o with
  | none => []
  | some d => lgW lean (nI d) hh sk sw
noncomputable def LTp (t w : Nat → Nat) (k lean : Nat) (hh sk sw : Int32) (i : Nat) : List LT := (List.range i).flatMap (fun j => lgO (rg t (w (3 * k + j))) lean hh sk sw)
noncomputable def LTS (t n w : Nat → Nat) (sk : Nat) (sw : Int32) (cause hh : Nat) : List LT := LTp t w (cause / 4) (cause % 4) (nI hh) (nI sk) sw (n (cause / 4)) ++ lgB (cause % 4) (hasP n w (cause / 4) 600 (n (cause / 4))) (hasP n w (cause / 4) 900 (n (cause / 4)))
theorem LTp_s (t w : Nat → Nat) (k lean : Nat) (hh sk sw : Int32) (i : Nat) : LTp t w k lean hh sk sw (i + 1) = LTp t w k lean hh sk sw i ++ lgO (rg t (w (3 * k + i))) lean hh sk sw := by
  unfold LTp
  rw [List.range_succ, List.flatMap_append]
  simp
theorem lgO_len (o : Option Nat) (lean : Nat) (hh sk sw : Int32) : (lgO o lean hh sk sw).length ≤ 2 := by
  cases o with
  | none => simp [lgO]
  | some d => exact lgW_len _ _ _ _ _
theorem LTp_len (t w : Nat → Nat) (k lean : Nat) (hh sk sw : Int32) : ∀ i, (LTp t w k lean hh sk sw i).length ≤ 2 * i
  | 0 => by simp [LTp]
  | i + 1 => by
    have h1 := LTp_len t w k lean hh sk sw i
    have h2 := lgO_len (rg t (w (3 * k + i))) lean hh sk sw
    rw [LTp_s, List.length_append]; omega
theorem lgB_len (lean : Nat) (s n : Bool) : (lgB lean s n).length ≤ 1 := by
  unfold lgB
  split <;> (repeat' split) <;> simp
theorem LTS_len {t n w : Nat → Nat} {sk : Nat} {sw : Int32} {cause hh : Nat} (hn : n (cause / 4) ≤ 3) : (LTS t n w sk sw cause hh).length ≤ 7 := by
  unfold LTS
  have h1 := LTp_len t w (cause / 4) (cause % 4) (nI hh) (nI sk) sw (n (cause / 4))
  have h2 := lgB_len (cause % 4) (hasP n w (cause / 4) 600 (n (cause / 4))) (hasP n w (cause / 4) 900 (n (cause / 4)))
  rw [List.length_append]; omega
theorem rg_bd {t : Nat → Nat} {w d : Nat} (h : rg t w = some d) : d ≤ 1800 := by
  have := rgO_bd (g := bn t 0 1 0) (w := w) (n := 901) (by omega) h
  omega
/-- the class's setup, as far as light needs it; its rings are right, or unknown -/
def RK (h : zH) (t n w : Nat → Nat) : Prop := ∀ k, k < 4 → ∀ i, i < n k → h.1 6 (3 * k + i) = -1 ∨ h.1 6 (3 * k + i) = oV (rg t (w (3 * k + i)))
def CS (h : zH) (t : Nat → Nat) (f : Nat) (n w : Nat → Nat) (sk : Nat) (sw : Int32) : Prop := BT h t f ∧ CW h 5 4 n w ∧ (500 ≤ sk ∧ sk ≤ 9000 ∧ h.1 3 3 = nI sk) ∧ h.1 3 4 = sw
theorem BT.fr {P : Nat → Nat → Bool} {h h' : zH} {t : Nat → Nat} {f : Nat} (hb : BT h t f) (hf : Fr P h h') (h2 : ∀ j, P 2 j = false) (h3 : ∀ j, P 3 j = false) : BT h' t f := ⟨hb.1, hb.2.1, fun j hj => by rw [hf 2 j (h2 j)]; exact hb.2.2.1 j hj, by rw [hf 3 0 (h3 0)]; exact hb.2.2.2⟩
theorem CW.fr {P : Nat → Nat → Bool} {h h' : zH} {lc lw : Nat} {n w : Nat → Nat} (hb : CW h lc lw n w) (hf : Fr P h h') (h2 : ∀ j, P lc j = false) (h3 : ∀ j, P lw j = false) : CW h' lc lw n w := ⟨fun k hk => ⟨(hb.1 k hk).1, by rw [hf lc k (h2 k)]; exact (hb.1 k hk).2⟩, fun j hj => ⟨(hb.2 j hj).1, by rw [hf lw j (h3 j)]; exact (hb.2 j hj).2⟩⟩
theorem CS.fr {P : Nat → Nat → Bool} {h h' : zH} {t : Nat → Nat} {f : Nat} {n w : Nat → Nat} {sk : Nat} {sw : Int32} (hb : CS h t f n w sk sw) (hf : Fr P h h') (hP : ∀ a j, a = 2 ∨ a = 3 ∨ a = 4 ∨ a = 5 → P a j = false) : CS h' t f n w sk sw := by
  obtain ⟨b1, b2, b3, b4⟩ := hb
  exact ⟨b1.fr hf (fun j => hP 2 j (Or.inl rfl)) (fun j => hP 3 j (Or.inr (Or.inl rfl))), b2.fr hf (fun j => hP 5 j (Or.inr (Or.inr (Or.inr rfl)))) (fun j => hP 4 j (Or.inr (Or.inr (Or.inl rfl)))), ⟨b3.1, b3.2.1, by rw [hf 3 3 (hP 3 3 (Or.inr (Or.inl rfl)))]; exact b3.2.2⟩, by rw [hf 3 4 (hP 3 4 (Or.inr (Or.inl rfl)))]; exact b4⟩
theorem sI_cs : ∀ a j, a = 2 ∨ a = 3 ∨ a = 4 ∨ a = 5 → sI a j = false := by
  rintro a j (rfl | rfl | rfl | rfl) <;> rfl
theorem RK.fr {P : Nat → Nat → Bool} {h h' : zH} {t n w : Nat → Nat} (hb : RK h t n w) (hf : Fr P h h') (h6 : ∀ j, P 6 j = false) : RK h' t n w := fun k hk i hi => by rw [hf 6 _ (h6 _)]; exact hb k hk i hi
theorem oV_ne1 {o : Option Nat} (h : ∀ d, o = some d → d ≤ 1800) : ¬ oV o = -1 := by
  intro z
  have z2 := congrArg Int32.toInt z
  cases o with
  | none => have e : (oV none).toInt = -10000 := rfl
            have : (-1 : Int32).toInt = -1 := rfl
            omega
  | some d =>
    have := h d rfl
    simp only [oV] at z2
    rw [nI_toInt (by omega)] at z2
    have : (-1 : Int32).toInt = -1 := rfl
    omega
set_option maxHeartbeats 4000000 in
set_option maxRecDepth 100000 in
theorem c_lightUp {h : zH} {t : Nat → Nat} {f : Nat} {n w : Nat → Nat} {sk : Nat} {sw : Int32} (hb : CS h t f n w sk sw) (hr : RK h t n w) {cause hh : Nat} (hc : cause < 16) (hh9 : hh ≤ 900) :
    ∃ h', R_X4_lightUp [.ref 29, .int (nI cause), .int (nI hh)] h none h' ∧ HasC h' (LTS t n w sk sw cause hh) ∧ Fr sI h h' ∧ RK h' t n w := by
  have hk : cause / 4 < 4 := by omega
  have hl : cause % 4 < 4 := by omega
  have e1 : nI cause / 4 = nI (cause / 4) := by rw [q4, pk_div (by omega) (by omega) (by omega)]
  have e2 : nI cause - nI cause / 4 * 4 = nI (cause % 4) := by rw [q4, q_rem (by omega) (by omega) (by omega)]
  obtain ⟨hn, hcn⟩ := hb.2.1.1 _ hk
  -- the loop
  have key : ∀ (m i : Nat) (h1 : zH), i + m = n (cause / 4) → Fr sI h h1 → RK h1 t n w → HasC h1 (LTp t w (cause / 4) (cause % 4) (nI hh) (nI sk) sw i) → ∃ h', zG M_X4_lightUp (fun r1 h2 => r1 = none ∧ h2 = h') (zat M_X4_lightUp 20) [some (.ref 29), some (.int (nI cause)), some (.int (nI hh)), some (.int (nI (cause / 4))), some (.int (nI (cause % 4))), some (.int (nI i)), none, none] [] h1 ∧ HasC h' (LTS t n w sk sw cause hh) ∧ Fr sI h h' ∧ RK h' t n w := by
    intro m
    induction m with
    | zero =>
      intro i h1 hi hf hr1 hL
      have : i = n (cause / 4) := by omega
      subst this
      have hb1 := hb.fr hf sI_cs
      have hlen := LTp_len t w (cause / 4) (cause % 4) (nI hh) (nI sk) sw (n (cause / 4))
      obtain ⟨h', r1, r2, r3⟩ := c_behind hb1.2.1 hL (by omega) hk hl
      refine ⟨h', t_X4_lightUp_20 _ _ _ _ _ _ _ ⟨vp_in_nI hk (by omega), fun _ => ⟨_, r1, rfl, rfl⟩, fun z => absurd ?_ z⟩, r2, hf.tr (r3.wk sL_I), hr1.fr r3 (fun _ => rfl)⟩
      rw [nI_clamp (by omega), (hb1.2.1.1 _ hk).2]; exact nI_le (Nat.le_refl _) (by omega)
    | succ m ih =>
      intro i h1 hi hf hr1 hL
      have hb1 := hb.fr hf sI_cs
      have hlen := LTp_len t w (cause / 4) (cause % 4) (nI hh) (nI sk) sw i
      have hwi := hb1.2.1.2 (3 * (cause / 4) + i) (by omega)
      have bd : ∀ d, rg t (w (3 * (cause / 4) + i)) = some d → d ≤ 1800 := fun d h => rg_bd h
      -- once the ring is known
      have go : ∀ h2 : zH, Fr sI h h2 → RK h2 t n w → HasC h2 (LTp t w (cause / 4) (cause % 4) (nI hh) (nI sk) sw i) → ∃ h', ((¬ oV (rg t (w (3 * (cause / 4) + i))) = -10000 →
          (¬ nI (cause % 4) = 0 → (¬ nI (cause % 4) = 2 → ∃ h3 : zH, R_X4_addSpot [.ref 29, .int (nI (cause % 4)), .int (oV (rg t (w (3 * (cause / 4) + i)))), .int (nI hh)] h2 none h3 ∧ zG M_X4_lightUp (fun r1 h2 => r1 = none ∧ h2 = h') (zat M_X4_lightUp 20) [some (.ref 29), some (.int (nI cause)), some (.int (nI hh)), some (.int (nI (cause / 4))), some (.int (nI (cause % 4))), some (.int (nI (i + 1))), none, none] [] h3) ∧
            (¬ ¬ nI (cause % 4) = 2 → ∃ h3 : zH, R_X4_addArcs [.ref 29, .int (oV (rg t (w (3 * (cause / 4) + i)))), .int (nI hh)] h2 none h3 ∧ zG M_X4_lightUp (fun r1 h2 => r1 = none ∧ h2 = h') (zat M_X4_lightUp 20) [some (.ref 29), some (.int (nI cause)), some (.int (nI hh)), some (.int (nI (cause / 4))), some (.int (nI (cause % 4))), some (.int (nI (i + 1))), none, none] [] h3)) ∧
          (¬ ¬ nI (cause % 4) = 0 → ∃ h3 : zH, R_X5_add [.ref 30, .int 0, .int 0, .int (oV (rg t (w (3 * (cause / 4) + i)))), .int (oV (rg t (w (3 * (cause / 4) + i))))] h2 none h3 ∧ zG M_X4_lightUp (fun r1 h2 => r1 = none ∧ h2 = h') (zat M_X4_lightUp 20) [some (.ref 29), some (.int (nI cause)), some (.int (nI hh)), some (.int (nI (cause / 4))), some (.int (nI (cause % 4))), some (.int (nI (i + 1))), none, none] [] h3)) ∧
          (¬ ¬ oV (rg t (w (3 * (cause / 4) + i))) = -10000 → zG M_X4_lightUp (fun r1 h2 => r1 = none ∧ h2 = h') (zat M_X4_lightUp 20) [some (.ref 29), some (.int (nI cause)), some (.int (nI hh)), some (.int (nI (cause / 4))), some (.int (nI (cause % 4))), some (.int (nI (i + 1))), none, none] [] h2)) ∧ HasC h' (LTS t n w sk sw cause hh) ∧ Fr sI h h' ∧ RK h' t n w := by
        intro h2 hf2 hr2 hL2
        have hb2 := hb.fr hf2 sI_cs
        rw [oV_none (by omega) bd]
        have estep := LTp_s t w (cause / 4) (cause % 4) (nI hh) (nI sk) sw i
        cases ho : rg t (w (3 * (cause / 4) + i)) with
        | none =>
          rw [ho] at estep
          obtain ⟨h', g1, g2⟩ := ih (i + 1) h2 (by omega) hf2 hr2 (by rw [estep]; simpa [lgO] using hL2)
          exact ⟨h', ⟨fun z => absurd rfl z, fun _ => g1⟩, g2⟩
        | some d =>
          rw [ho] at estep
          have hno : ¬ (some d = none) := fun z => by cases z
          rcases (by omega : cause % 4 = 0 ∨ cause % 4 = 2 ∨ (cause % 4 = 1 ∨ cause % 4 = 3)) with e | e | e
          · obtain ⟨h3, r1, r2, r3⟩ := c_add hL2 (by omega) 0 0 (nI d) (nI d)
            obtain ⟨h', g1, g2⟩ := ih (i + 1) h3 (by omega) (hf2.tr (r3.wk sL_I)) (hr2.fr r3 (fun _ => rfl)) (by rw [estep, e]; rw [e] at r2; exact r2)
            refine ⟨h', ⟨fun _ => ⟨fun z => absurd (by rw [e]; rfl) z, fun _ => ⟨h3, r1, g1⟩⟩, fun z => absurd hno z⟩, g2⟩
          · obtain ⟨h3, r1, r2, r3⟩ := c_addArcs hL2 (by omega) (nI d) (nI hh) (nI sk) sw
            obtain ⟨h', g1, g2⟩ := ih (i + 1) h3 (by omega) (hf2.tr (r3.wk sL_I)) (hr2.fr r3 (fun _ => rfl)) (by rw [estep, e]; rw [e] at r2; exact r2)
            refine ⟨h', ⟨fun _ => ⟨fun _ => ⟨fun z => absurd (by rw [e]; rfl) z, fun _ => ⟨h3, r1, g1⟩⟩, fun z => absurd (by rw [e]; decide) z⟩, fun z => absurd hno z⟩, g2⟩
          · obtain ⟨h3, r1, r2, r3⟩ := c_addSpot hL2 (by omega) e ⟨hb2.2.2.1.1, hb2.2.2.1.2.1⟩ hb2.2.2.1.2.2 (nI d) (nI hh)
            rw [hb2.2.2.2] at r2
            obtain ⟨h', g1, g2⟩ := ih (i + 1) h3 (by omega) (hf2.tr (r3.wk sL_I)) (hr2.fr r3 (fun _ => rfl)) (by rw [estep]; exact r2)
            refine ⟨h', ⟨fun _ => ⟨fun _ => ⟨fun _ => ⟨h3, r1, g1⟩, fun z => absurd (by rcases e with e | e <;> rw [e] <;> decide) z⟩, fun z => absurd (by rcases e with e | e <;> rw [e] <;> decide) z⟩, fun z => absurd hno z⟩, g2⟩
      have hout : ¬ (h1.1 5 (nI (cause / 4)).toNatClampNeg ≤ nI i) := by
        rw [nI_clamp (by omega), (hb1.2.1.1 _ hk).2, nI_leI (by omega) (by omega)]; omega
      have vp : vp_in (nI (3 * (cause / 4) + i)) 12 := vp_in_nI (by omega) (by omega)
      rcases hr1 _ hk i (by omega) with hv | hv
      · -- unknown: it is sought, and kept
        have hlt := c_leastTurn (c := 0) hb1.1 (w := w (3 * (cause / 4) + i)) (by omega) (by omega)
        rw [bn_c0] at hlt
        have e6 : (zsi h1 6 (3 * (cause / 4) + i) (oV (rg t (w (3 * (cause / 4) + i))))).1 6 (3 * (cause / 4) + i) = oV (rg t (w (3 * (cause / 4) + i))) := zr_eq
        have hfz : Fr sI h (zsi h1 6 (3 * (cause / 4) + i) (oV (rg t (w (3 * (cause / 4) + i))))) := hf.si rfl
        obtain ⟨h', g1, g2⟩ := go (zsi h1 6 (3 * (cause / 4) + i) (oV (rg t (w (3 * (cause / 4) + i))))) hfz (by
          intro k2 hk2 i2 hi2
          by_cases hs : 3 * k2 + i2 = 3 * (cause / 4) + i
          · rw [hs, zr_eq]; exact Or.inr rfl
          · rw [zr_nj hs]; exact hr1 k2 hk2 i2 hi2) (by
          obtain ⟨a1, a2⟩ := hL
          exact ⟨by rw [zr_ne (by omega)]; exact a1, fun j q hq => by
            simp (disch := omega) only [zr_ne]
            exact a2 j q hq⟩)
        refine ⟨h', t_X4_lightUp_20 _ _ _ _ _ _ _ ⟨vp_in_nI hk (by omega), fun z => absurd z hout, fun _ => ?_⟩, g2⟩
        rw [ix_3c, nI_clamp (by omega), hv, nI_1, hwi.2]
        refine ⟨vp, fun z => absurd rfl z, fun _ => ⟨vp, _, _, hlt, vp, vp, ?_⟩⟩
        rw [show rgO (bn t 0 1 0) (w (3 * (cause / 4) + i)) 901 = rg t (w (3 * (cause / 4) + i)) from rfl, e6]
        exact g1
      · obtain ⟨h', g1, g2⟩ := go h1 hf hr1 hL
        refine ⟨h', t_X4_lightUp_20 _ _ _ _ _ _ _ ⟨vp_in_nI hk (by omega), fun z => absurd z hout, fun _ => ?_⟩, g2⟩
        rw [ix_3c, nI_clamp (by omega), hv, nI_1]
        exact ⟨vp, fun _ => ⟨vp, g1⟩, fun z => absurd (oV_ne1 bd) z⟩
  have hf0 : Fr sI h (zsi h 30 1 0) := Fr.rf.si rfl
  obtain ⟨h', g1, g2⟩ := key (n (cause / 4)) 0 (zsi h 30 1 0) (by omega) hf0 (fun k hk i hi => by rw [zr_ne (by omega)]; exact hr k hk i hi) ⟨by rw [zr_eq]; rfl, fun j q hq => by simp [LTp] at hq⟩
  refine ⟨h', r_X4_lightUp _ _ _ _ _ rfl (t_X4_lightUp_0 _ _ _ _ ⟨by decide, by decide, ?_⟩), g2⟩
  rw [e2, e1]
  exact g1
