/-! ===== marks of the model ===== -/
def MM (h : zH) (mk : Nat → LT) (nm : Nat) : Prop := nm ≤ 12 ∧ h.1 42 8 = nI nm ∧ ∀ m, m < 12 → h.1 46 m = (mk m).1 ∧ h.1 47 m = (mk m).2.1 ∧ h.1 48 m = (mk m).2.2.1 ∧ h.1 49 m = (mk m).2.2.2 ∧ -1 ≤ (mk m).1 ∧ -1 ≤ (mk m).2.1
theorem MM.fr {P : Nat → Nat → Bool} {h h' : zH} {mk : Nat → LT} {nm : Nat} (hb : MM h mk nm) (hf : Fr P h h') (h2 : P 42 8 = false) (h3 : ∀ a j, a = 46 ∨ a = 47 ∨ a = 48 ∨ a = 49 → P a j = false) : MM h' mk nm := ⟨hb.1, by rw [hf 42 8 h2]; exact hb.2.1, fun m hm => by
  rw [hf 46 _ (h3 46 _ (Or.inl rfl)), hf 47 _ (h3 47 _ (Or.inr (Or.inl rfl))), hf 48 _ (h3 48 _ (Or.inr (Or.inr (Or.inl rfl)))), hf 49 _ (h3 49 _ (Or.inr (Or.inr (Or.inr rfl))))]
  exact hb.2.2 m hm⟩
theorem lt0_iff {x : Int32} (h : -1 ≤ x) : x < 0 ↔ x = -1 := by
  rw [Int32.lt_iff_toInt_lt, ← Int32.toInt_inj]
  have := Int32.le_iff_toInt_le.mp h
  have e1 : (-1 : Int32).toInt = -1 := rfl
  have e0 : (0 : Int32).toInt = 0 := rfl
  omega
set_option maxHeartbeats 4000000 in
set_option maxRecDepth 100000 in
theorem m_meets {h : zH} {L : List LT} {mk : Nat → LT} {nm : Nat} (hL : HasM h L) (hn : L.length ≤ 7) (hm : MM h mk nm) {j m : Nat} {l : LT} (hj : L[j]? = some l) (hm12 : m < 12) : R_X8_meets [.ref 42, .int (nI j), .int (nI m)] h (some (.int (bI (meetsB l (mk m))))) h := by
  have hlt : j < L.length := (List.getElem?_eq_some_iff.mp hj).1
  obtain ⟨a0, a1, a2, a3⟩ := hL.2 j l hj
  obtain ⟨k0, k1, k2, k3, k4, k5⟩ := hm.2.2 m hm12
  refine r_X8_meets _ _ _ _ _ (by cases meetsB l (mk m) <;> simp [bI]) (t_X8_meets_0 _ _ _ _ ?_)
  rw [nI_clamp (show j < 2 ^ 31 by omega), nI_clamp (show m < 2 ^ 31 by omega), k0, k1, k2, k3, a0, a1, a2, a3, lt0_iff k4, lt0_iff k5]
  have v0 : vp_in (nI m) 12 := vp_in_nI (by omega) (by omega)
  have v1 : vp_in (nI j) 8 := vp_in_nI (by omega) (by omega)
  unfold meetsB
  generalize (mk m).1 = F at *
  generalize (mk m).2.1 = S at *
  generalize (mk m).2.2.1 = N at *
  generalize (mk m).2.2.2 = D at *
  have last : ∀ {B : Bool}, B = (!decide (N < l.2.2.1 - D) && !decide (l.2.2.2 + D < N)) → vp_in (nI m) 12 ∧ vp_in (nI j) 8 ∧ vp_in (nI m) 12 ∧ (N < l.2.2.1 - D → some (Value.int 0) = some (Value.int (bI B)) ∧ h = h) ∧ (¬ (N < l.2.2.1 - D) → vp_in (nI m) 12 ∧ vp_in (nI j) 8 ∧ vp_in (nI m) 12 ∧ (l.2.2.2 + D < N → some (Value.int 0) = some (Value.int (bI B)) ∧ h = h) ∧ (¬ (l.2.2.2 + D < N) → some (Value.int 1) = some (Value.int (bI B)) ∧ h = h)) := by
    intro B hB
    subst hB
    refine ⟨v0, v1, v0, fun z => ⟨by simp [z, bI], rfl⟩, fun z => ⟨v0, v1, v0, fun z2 => ⟨by simp [z2, bI], rfl⟩, fun z2 => ⟨by simp [z, z2, bI], rfl⟩⟩⟩
  have T : ∀ {A B : Prop}, B → (((1 : Int32) = 0 → A) ∧ (¬ ((1 : Int32) = 0) → B)) := fun hB => ⟨fun z => absurd z (by decide), fun _ => hB⟩
  have U : ∀ {A B : Prop}, A → (((0 : Int32) = 0 → A) ∧ (¬ ((0 : Int32) = 0) → B)) := fun hA => ⟨fun _ => hA, fun z => absurd rfl z⟩
  refine ⟨v0, fun f => ⟨v0, fun s => T (T (last (by simp [f, s]))), fun s => ⟨v0, v1, fun z => T (U ⟨by simp [s, z, bI], rfl⟩), fun z => T (T (last (by simp [f, Classical.not_not.mp z])))⟩⟩, fun f => ⟨v0, v1, fun z => ⟨v0, fun s => U ⟨by simp [f, z, bI], rfl⟩, fun s => ⟨v0, v1, fun z2 => U ⟨by simp [f, z, bI], rfl⟩, fun z2 => U ⟨by simp [f, z, bI], rfl⟩⟩⟩, fun z => ⟨v0, fun s => T (T (last (by simp [s, Classical.not_not.mp z]))), fun s => ⟨v0, v1, fun z2 => T (U ⟨by simp [s, z2, bI], rfl⟩), fun z2 => T (T (last (by simp [Classical.not_not.mp z, Classical.not_not.mp z2])))⟩⟩⟩⟩
def sT (a b : Nat) : Bool := a == 61 || sM a b
theorem sM_T : ∀ x y, sT x y = false → sM x y = false := by intro x y h; simp [sT] at h; exact h.2
theorem sT_ms : ∀ a j, a = 43 ∨ a = 44 ∨ a = 45 ∨ (a = 42 ∧ j < 6) → sT a j = false := by
  rintro a j (rfl | rfl | rfl | ⟨rfl, hj⟩)
  · rfl
  · rfl
  · rfl
  · simp [sT, sM]; omega
theorem sT_mm : ∀ a j, a = 46 ∨ a = 47 ∨ a = 48 ∨ a = 49 → sT a j = false := by
  rintro a j (rfl | rfl | rfl | rfl) <;> rfl
theorem HasM.fr {P : Nat → Nat → Bool} {h h' : zH} {L : List LT} (hL : HasM h L) (hf : Fr P h h') (hP : P 42 21 = false ∧ ∀ a j, a = 57 ∨ a = 58 ∨ a = 59 ∨ a = 60 → P a j = false) : HasM h' L := ⟨by rw [hf 42 21 hP.1]; exact hL.1, fun j q hq => by
  rw [hf 57 _ (hP.2 57 _ (Or.inl rfl)), hf 58 _ (hP.2 58 _ (Or.inr (Or.inl rfl))), hf 59 _ (hP.2 59 _ (Or.inr (Or.inr (Or.inl rfl)))), hf 60 _ (hP.2 60 _ (Or.inr (Or.inr (Or.inr rfl))))]
  exact hL.2 j q hq⟩
def s61 (a _b : Nat) : Bool := a == 61
theorem s61_h : s61 42 21 = false ∧ ∀ a j, a = 57 ∨ a = 58 ∨ a = 59 ∨ a = 60 → s61 a j = false := ⟨rfl, by rintro a j (rfl | rfl | rfl | rfl) <;> rfl⟩
theorem s61_T : ∀ x y, sT x y = false → s61 x y = false := by intro x y h; simp [sT] at h; simp [s61, h.1]
section MKM
variable {t n w : Nat → Nat} {f sk nm : Nat} {sw : Int32} {mk : Nat → LT}
def MA (t n w : Nat → Nat) (f sk nm : Nat) (sw : Int32) (mk : Nat → LT) (h : zH) : Prop := MS h t f n w sk sw ∧ RM h t n w ∧ MM h mk nm
theorem MA.fr {h h' : zH} (hb : MA t n w f sk nm sw mk h) (hf : Fr sT h h') : MA t n w f sk nm sw mk h' := ⟨hb.1.fr hf sT_ms, hb.2.1.fr hf (fun _ => rfl), hb.2.2.fr hf rfl sT_mm⟩
set_option maxHeartbeats 4000000 in
set_option maxRecDepth 100000 in
theorem m_layMet {h : zH} (hb : MA t n w f sk nm sw mk h) {hh : Nat} (hh9 : hh ≤ 900) : ∃ h', R_X8_layMet [.ref 42, .int (nI hh)] h none h' ∧ (∀ c, c < 16 → h'.1 61 c = nI (metN t n w sk sw mk nm c hh)) ∧ Fr sT h h' := by
  have h12 := hb.2.2.1
  have key : ∀ (d c : Nat) (h1 : zH), c + d = 16 → Fr sT h h1 → (∀ c', c' < c → h1.1 61 c' = nI (metN t n w sk sw mk nm c' hh)) → ∃ h', zG M_X8_layMet (fun r1 h2 => r1 = none ∧ h2 = h') (zat M_X8_layMet 2) [some (.ref 42), some (.int (nI hh)), some (.int (nI c)), none, none] [] h1 ∧ (∀ c, c < 16 → h'.1 61 c = nI (metN t n w sk sw mk nm c hh)) ∧ Fr sT h h' := by
    intro d
    induction d with
    | zero =>
      intro c h1 hc hf hd
      have : c = 16 := by omega
      subst this
      exact ⟨h1, t_X8_layMet_2 _ _ _ _ ⟨fun _ => ⟨rfl, rfl⟩, fun z => absurd (by decide) z⟩, hd, hf⟩
    | succ d ih =>
      intro c h1 hc hf hd
      have h16 : ¬ ((16 : Int32) ≤ nI c) := by rw [q16, nI_leI (by omega) (by omega)]; omega
      have hb1 := hb.fr hf
      obtain ⟨h2, r1, hL, r2⟩ := m_layLights hb1.1 hb1.2.1 (cause := c) (hh := hh) (by omega) hh9
      have hlen : (LTS t n w sk sw c hh).length ≤ 7 := LTS_len (hb.1.2.1.1 _ (by omega)).1
      have vc : vp_in (nI c) 16 := vp_in_nI (by omega) (by omega)
      have hd2 : ∀ c', c' < c → h2.1 61 c' = nI (metN t n w sk sw mk nm c' hh) := fun c' hc' => by rw [r2 61 c' rfl]; exact hd c' hc'
      have hmet : metN t n w sk sw mk nm c hh = bm (fun m => anyM (LTS t n w sk sw c hh) (mk m)) nm := rfl
      generalize LTS t n w sk sw c hh = L at *
      -- the marks
      have marks : ∀ (e m : Nat) (h3 : zH), m + e = nm → Fr s61 h2 h3 → (∀ c', c' < c → h3.1 61 c' = nI (metN t n w sk sw mk nm c' hh)) → h3.1 61 c = nI (bm (fun m' => decide (m' < m) && anyM L (mk m')) nm) → ∃ h', zG M_X8_layMet (fun r1 h2 => r1 = none ∧ h2 = h') (zat M_X8_layMet 23) [some (.ref 42), some (.int (nI hh)), some (.int (nI c)), some (.int (nI m)), none] [] h3 ∧ (∀ c, c < 16 → h'.1 61 c = nI (metN t n w sk sw mk nm c hh)) ∧ Fr sT h h' := by
        intro e
        induction e with
        | zero =>
          intro m h3 hm hf3 hd3 hc3
          have : m = nm := by omega
          subst this
          have hf4 : Fr sT h h3 := (hf.tr (r2.wk sM_T)).tr (hf3.wk s61_T)
          have hb3 := hb.fr hf4
          obtain ⟨h', g1, g2⟩ := ih (c + 1) h3 (by omega) hf4 (fun c' hc' => by
            by_cases ec : c' = c
            · subst ec
              rw [hc3, hmet, bm_congr (p := fun m' => decide (m' < m) && anyM L (mk m')) (q := fun m' => anyM L (mk m')) (fun i hi => by simp [hi])]
            · exact hd3 c' (by omega))
          refine ⟨h', t_X8_layMet_23 _ _ _ _ _ ⟨fun _ => by rw [nI_1]; exact g1, fun z => absurd ?_ z⟩, g2⟩
          rw [hb3.2.2.2.1]; exact nI_le (Nat.le_refl _) (by omega)
        | succ e ih2 =>
          intro m h3 hm hf3 hd3 hc3
          have hb3 := hb.fr ((hf.tr (r2.wk sM_T)).tr (hf3.wk s61_T))
          have hout : ¬ (h3.1 42 8 ≤ nI m) := by rw [hb3.2.2.2.1, nI_leI (by omega) (by omega)]; omega
          -- the lights
          have lights : ∀ (g j : Nat) (h4 : zH), j + g = L.length → Fr s61 h2 h4 → (∀ c', c' < c → h4.1 61 c' = nI (metN t n w sk sw mk nm c' hh)) → h4.1 61 c = nI (bm (fun m' => (decide (m' < m) && anyM L (mk m')) || (decide (m' = m) && anyM (L.take j) (mk m'))) nm) → ∃ h', zG M_X8_layMet (fun r1 h2 => r1 = none ∧ h2 = h') (zat M_X8_layMet 34) [some (.ref 42), some (.int (nI hh)), some (.int (nI c)), some (.int (nI m)), some (.int (nI j))] [] h4 ∧ (∀ c, c < 16 → h'.1 61 c = nI (metN t n w sk sw mk nm c hh)) ∧ Fr sT h h' := by
            intro g
            induction g with
            | zero =>
              intro j h4 hj hf4 hd4 hc4
              have : j = L.length := by omega
              subst this
              have hL4 := hL.fr hf4 s61_h
              obtain ⟨h', g1, g2⟩ := ih2 (m + 1) h4 (by omega) hf4 hd4 (by
                rw [hc4, List.take_length]
                congr 1
                apply bm_congr
                intro i hi
                by_cases h1 : i < m
                · simp [h1, show i < m + 1 by omega, show i ≠ m by omega]
                · by_cases h2 : i = m
                  · simp [h2]
                  · simp [h1, h2, show ¬ i < m + 1 by omega])
              refine ⟨h', t_X8_layMet_34 _ _ _ _ _ _ ⟨fun _ => by rw [nI_1]; exact g1, fun z => absurd ?_ z⟩, g2⟩
              rw [hL4.1]; exact nI_le (Nat.le_refl _) (by omega)
            | succ g ih3 =>
              intro j h4 hj hf4 hd4 hc4
              obtain ⟨l, hl⟩ : ∃ l, L[j]? = some l := ⟨L[j], List.getElem?_eq_getElem (by omega)⟩
              have hL4 := hL.fr hf4 s61_h
              have hb4 := hb.fr ((hf.tr (r2.wk sM_T)).tr (hf4.wk s61_T))
              have upd : ∀ b, meetsB l (mk m) = b → bm (fun m' => (decide (m' < m) && anyM L (mk m')) || (decide (m' = m) && anyM (L.take (j + 1)) (mk m'))) nm = bm (fun m' => (decide (m' < m) && anyM L (mk m')) || (decide (m' = m) && anyM (L.take j) (mk m'))) nm ||| (if b then 2 ^ m else 0) := by
                intro b hb
                refine bm_or (by omega) (fun i hi => ?_) ?_
                · simp [hi]
                · simp [anyM_take hl, hb]
              have store : ∀ v : Nat, nI v = nI (bm (fun m' => (decide (m' < m) && anyM L (mk m')) || (decide (m' = m) && anyM (L.take (j + 1)) (mk m'))) nm) → ∃ h', zG M_X8_layMet (fun r1 h2 => r1 = none ∧ h2 = h') (zat M_X8_layMet 34) [some (.ref 42), some (.int (nI hh)), some (.int (nI c)), some (.int (nI m)), some (.int (nI (j + 1)))] [] (zsi h4 61 c (nI v)) ∧ (∀ c, c < 16 → h'.1 61 c = nI (metN t n w sk sw mk nm c hh)) ∧ Fr sT h h' := fun v hv =>
                ih3 (j + 1) _ (by omega) (hf4.si rfl) (fun c' hc' => by rw [zr_nj (by omega)]; exact hd4 c' hc') (by rw [zr_eq]; exact hv)
              have hin : ¬ (h4.1 42 21 ≤ nI j) := by rw [hL4.1, nI_leI (by omega) (by omega)]; omega
              cases hbm : meetsB l (mk m) with
              | false =>
                obtain ⟨h', g1, g2⟩ := store (bm (fun m' => (decide (m' < m) && anyM L (mk m')) || (decide (m' = m) && anyM (L.take j) (mk m'))) nm) (by rw [upd false hbm]; simp)
                refine ⟨h', t_X8_layMet_34 _ _ _ _ _ _ ⟨fun z => absurd z hin, fun _ => ⟨vc, _, _, m_meets hL4 hlen hb4.2.2 hl (m := m) (by omega), fun _ => ⟨vc, ?_⟩, fun z => absurd (by rw [hbm]; rfl) z⟩⟩, g2⟩
                rw [nI_clamp (by omega), hc4, n_or0, nI_1]
                exact g1
              | true =>
                obtain ⟨h', g1, g2⟩ := store (bm (fun m' => (decide (m' < m) && anyM L (mk m')) || (decide (m' = m) && anyM (L.take j) (mk m'))) nm ||| 2 ^ m) (by rw [upd true hbm]; rfl)
                refine ⟨h', t_X8_layMet_34 _ _ _ _ _ _ ⟨fun z => absurd z hin, fun _ => ⟨vc, _, _, m_meets hL4 hlen hb4.2.2 hl (m := m) (by omega), fun z => absurd z (by rw [hbm]; decide), fun _ => ⟨vc, ?_⟩⟩⟩, g2⟩
                rw [nI_clamp (by omega), hc4, n_shl (by omega), n_or, nI_1]
                exact g1
          obtain ⟨h', g1, g2⟩ := lights L.length 0 h3 (by omega) hf3 hd3 (by
            rw [hc3]
            congr 1
            apply bm_congr
            intro i hi
            simp [anyM])
          exact ⟨h', t_X8_layMet_23 _ _ _ _ _ ⟨fun z => absurd z hout, fun _ => g1⟩, g2⟩
      obtain ⟨h', g1, g2⟩ := marks nm 0 (zsi h2 61 c 0) (by omega) (Fr.rf.si rfl) (fun c' hc' => by rw [zr_nj (by omega)]; exact hd2 c' hc') (by
        rw [zr_eq, bm_congr (p := fun m' => decide (m' < 0) && anyM L (mk m')) (q := fun _ => false) (fun i hi => by simp)]
        have e0 : bm (fun _ => false) nm = 0 := by
          apply Nat.eq_of_testBit_eq; intro i; rw [bm_bit]; simp
        rw [e0]; rfl)
      refine ⟨h', t_X8_layMet_2 _ _ _ _ ⟨fun z => absurd z h16, fun _ => ⟨_, r1, vc, ?_⟩⟩, g2⟩
      rw [nI_clamp (by omega)]
      exact g1
  obtain ⟨h', g1, g2⟩ := key 16 0 h (by omega) Fr.rf (fun c' hc' => by omega)
  exact ⟨h', r_X8_layMet _ _ _ _ rfl (t_X8_layMet_0 _ _ _ g1), g2⟩
theorem m_metBy {h : zH} {g : Nat → Nat} (hg : ∀ c, c < 16 → h.1 61 c = nI (g c)) {S : Nat} (hS : S < 65536) : R_X8_metBy [.ref 42, .int (nI S)] h (some (.int (nI (unM S g 16)))) h := by
  refine r_X8_metBy _ _ _ _ ⟨_, rfl⟩ (t_X8_metBy_0 _ _ _ ?_)
  have key : ∀ (d c : Nat), c + d = 16 → zG M_X8_metBy (fun r1 h2 => r1 = some (.int (nI (unM S g 16))) ∧ h2 = h) (zat M_X8_metBy 4) [some (.ref 42), some (.int (nI S)), some (.int (nI (unM S g c))), some (.int (nI c))] [] h := by
    intro d
    induction d with
    | zero =>
      intro c hc
      have : c = 16 := by omega
      subst this
      exact t_X8_metBy_4 _ _ _ _ _ ⟨fun _ => ⟨rfl, rfl⟩, fun z => absurd (by decide) z⟩
    | succ d ih =>
      intro c hc
      have ih2 := ih (c + 1) (by omega)
      rw [unM_s S g c] at ih2
      refine t_X8_metBy_4 _ _ _ _ _ ⟨fun z => ?_, fun _ => ?_⟩
      · rw [q16, nI_leI (by omega) (by omega)] at z; omega
      rw [n_bit (by omega) (by omega), nI_1, n_or0, nI_clamp (by omega), hg c (by omega), n_or]
      refine ⟨fun z => ?_, fun z => ⟨vp_in_nI (by omega) (by omega), ?_⟩⟩
      · rw [if_neg z] at ih2; exact ih2
      · rw [if_pos (Classical.not_not.mp z)] at ih2; exact ih2
  exact key 16 0 (by omega)
theorem m_allMarks {h : zH} (hm : MM h mk nm) : R_X8_allMarks [.ref 42] h (some (.int (nI (2 ^ nm - 1)))) h := by
  refine r_X8_allMarks _ _ _ ⟨_, rfl⟩ (t_X8_allMarks_0 _ _ ⟨?_, rfl⟩)
  rw [hm.2.1, n_all (by have := hm.1; omega)]
theorem metN_lt (t n w : Nat → Nat) (sk : Nat) (sw : Int32) (mk : Nat → LT) (nm c hh : Nat) : metN t n w sk sw mk nm c hh < 2 ^ nm := bm_lt _ _
theorem left_iff {S : Nat} {g : Nat → Nat} (hg : ∀ c, g c < 2 ^ nm) : leftM S g (2 ^ nm - 1) 16 = 0 ↔ unM S g 16 = 2 ^ nm - 1 := by
  have hu := unM_lt (S := S) hg 16
  constructor
  · intro h0
    apply Nat.eq_of_testBit_eq
    intro i
    rw [all_bit]
    have h1 : (leftM S g (2 ^ nm - 1) 16).testBit i = false := by rw [h0]; simp
    rw [leftM_bit, all_bit] at h1
    by_cases hi : i < nm
    · simp only [hi, decide_true, Bool.true_and] at h1 ⊢
      cases hb : (unM S g 16).testBit i <;> simp_all
    · cases hb : (unM S g 16).testBit i with
      | false => simp [hi]
      | true => exact absurd (bit_lt hu hb) hi
  · intro h0
    unfold leftM
    rw [h0, Nat.and_self, Nat.xor_self]
end MKM
