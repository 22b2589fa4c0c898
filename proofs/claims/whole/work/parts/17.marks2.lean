/-! ===== what a set of causes meets, in the class ===== -/
noncomputable def metN (t n w : Nat → Nat) (sk : Nat) (sw : Int32) (mk : Nat → LT) (nm c hh : Nat) : Nat := bm (fun m => anyM (LTS t n w sk sw c hh) (mk m)) nm
/-- what a set meets, causes below c -/
def unM (S : Nat) (g : Nat → Nat) : Nat → Nat
  | 0 => 0
  | c + 1 => if S.testBit c then unM S g c ||| g c else unM S g c
theorem unM_s (S : Nat) (g : Nat → Nat) (c : Nat) : unM S g (c + 1) = if S.testBit c then unM S g c ||| g c else unM S g c := rfl
theorem nI_z {a : Nat} (h : a < 2 ^ 31) : nI a = 0 ↔ a = 0 := by rw [q0, nI_eq h (by omega)]
theorem unM_grow {S : Nat} {g : Nat → Nat} {i c : Nat} (h : (unM S g c).testBit i = true) : ∀ d, (unM S g (c + d)).testBit i = true
  | 0 => h
  | d + 1 => by
    have ih := unM_grow h d
    rw [← Nat.add_assoc]
    unfold unM
    split
    · rw [Nat.testBit_or, ih]; rfl
    · exact ih
theorem unM_lt {S : Nat} {g : Nat → Nat} {n : Nat} (hg : ∀ c, g c < 2 ^ n) : ∀ c, unM S g c < 2 ^ n
  | 0 => Nat.pow_pos (by omega)
  | c + 1 => by
    have ih := unM_lt (S := S) hg c
    unfold unM
    split
    · exact or_lt ih (hg c)
    · exact ih
def leftM (S : Nat) (g : Nat → Nat) (A c : Nat) : Nat := A ^^^ (A &&& unM S g c)
theorem leftM_bit (S : Nat) (g : Nat → Nat) (A c i : Nat) : (leftM S g A c).testBit i = (A.testBit i && !(unM S g c).testBit i) := an_bit _ _ _
theorem leftM_0 {S : Nat} {g : Nat → Nat} {A c : Nat} (h : leftM S g A c = 0) (d : Nat) : leftM S g A (c + d) = 0 := by
  apply Nat.eq_of_testBit_eq
  intro i
  have h1 : (leftM S g A c).testBit i = false := by rw [h]; simp
  rw [leftM_bit] at h1 ⊢
  rw [Nat.zero_testBit]
  cases ha : A.testBit i with
  | false => rfl
  | true =>
    rw [ha] at h1
    have : (unM S g c).testBit i = true := by cases hb : (unM S g c).testBit i <;> simp_all
    rw [unM_grow this d]; rfl
theorem anyM_take {L : List LT} {j : Nat} {l : LT} (hj : L[j]? = some l) (q : LT) : anyM (L.take (j + 1)) q = (anyM (L.take j) q || meetsB l q) := by
  unfold anyM
  rw [List.take_add_one, hj, List.any_append]
  simp
theorem bm_or {p q : Nat → Bool} {n i : Nat} {b : Bool} (hi : i < n) (ho : ∀ m, m ≠ i → q m = p m) (hq : q i = (p i || b)) : bm q n = bm p n ||| (if b then 2 ^ i else 0) := by
  apply Nat.eq_of_testBit_eq
  intro m
  rw [Nat.testBit_or, bm_bit, bm_bit]
  by_cases hm : m = i
  · subst hm
    rw [hq]
    cases b <;> simp [hi, Nat.testBit_two_pow_self]
  · rw [ho m hm]
    have : (if b then 2 ^ i else 0).testBit m = false := by
      cases b
      · simp
      · exact Nat.testBit_two_pow_of_ne (Ne.symm hm)
    rw [this, Bool.or_false]
section MK
variable {t n w : Nat → Nat} {f sk nm : Nat} {sw : Int32} {mk : Nat → LT}
def CA (t n w : Nat → Nat) (f sk nm : Nat) (sw : Int32) (mk : Nat → LT) (h : zH) : Prop := CS h t f n w sk sw ∧ RK h t n w ∧ MC h mk nm
theorem CA.fr {h h' : zH} (hb : CA t n w f sk nm sw mk h) (hf : Fr sI h h') (hr : RK h' t n w) : CA t n w f sk nm sw mk h' := ⟨hb.1.fr hf sI_cs, hr, hb.2.2.fr hf (fun _ => rfl) (fun _ => rfl)⟩
theorem HasC.len {h : zH} {L : List LT} (hL : HasC h L) : h.1 30 1 = nI L.length := hL.1
set_option maxHeartbeats 4000000 in
set_option maxRecDepth 100000 in
theorem c_marksMet {h : zH} (hb : CA t n w f sk nm sw mk h) {c hh A : Nat} (hc : c < 16) (hh9 : hh ≤ 900) (hA : A < 2 ^ 31) :
    ∃ h', R_X2_marksMet [.ref 32, .int (nI c), .int (nI hh), .int (nI A)] h (some (.int (nI (bm (fun m => A.testBit m && anyM (LTS t n w sk sw c hh) (mk m)) nm)))) h' ∧ Fr sI h h' ∧ RK h' t n w := by
  obtain ⟨h1, r1, hL, hf, hr⟩ := c_lightUp hb.1 hb.2.1 hc hh9
  have hb1 := hb.fr hf hr
  obtain ⟨h12, hsz, -⟩ := hb1.2.2
  have hlen : (LTS t n w sk sw c hh).length ≤ 7 := LTS_len (hb.1.2.1.1 _ (by omega)).1
  refine ⟨h1, r_X2_marksMet _ _ _ _ _ _ ⟨_, rfl⟩ (t_X2_marksMet_0 _ _ _ _ _ ⟨_, r1, ?_⟩), hf, hr⟩
  generalize LTS t n w sk sw c hh = L at *
  have outer : ∀ (d j : Nat), j + d = L.length → zG M_X2_marksMet (fun r1 h2 => r1 = some (.int (nI (bm (fun m => A.testBit m && anyM L (mk m)) nm))) ∧ h2 = h1) (zat M_X2_marksMet 15) [some (.ref 32), some (.int (nI c)), some (.int (nI hh)), some (.int (nI A)), some (.int (nI (bm (fun m => A.testBit m && anyM (L.take j) (mk m)) nm))), some (.int (nI j)), none] [] h1 := by
    intro d
    induction d with
    | zero =>
      intro j hj
      have : j = L.length := by omega
      subst this
      refine t_X2_marksMet_15 _ _ _ _ _ _ _ ⟨fun _ => ⟨by rw [List.take_length], rfl⟩, fun z => absurd ?_ z⟩
      rw [hL.1]; exact nI_le (Nat.le_refl _) (by omega)
    | succ d ih =>
      intro j hj
      obtain ⟨l, hl⟩ : ∃ l, L[j]? = some l := ⟨L[j], List.getElem?_eq_getElem (by omega)⟩
      refine t_X2_marksMet_15 _ _ _ _ _ _ _ ⟨fun z => ?_, fun _ => ?_⟩
      · rw [hL.1, nI_leI (by omega) (by omega)] at z; omega
      have inner : ∀ (e i : Nat), i + e = nm → zG M_X2_marksMet (fun r1 h2 => r1 = some (.int (nI (bm (fun m => A.testBit m && anyM L (mk m)) nm))) ∧ h2 = h1) (zat M_X2_marksMet 33) [some (.ref 32), some (.int (nI c)), some (.int (nI hh)), some (.int (nI A)), some (.int (nI (bm (fun m => A.testBit m && (if m < i then anyM (L.take (j + 1)) (mk m) else anyM (L.take j) (mk m))) nm))), some (.int (nI j)), some (.int (nI i))] [] h1 := by
        intro e
        induction e with
        | zero =>
          intro i hi
          have : i = nm := by omega
          subst this
          refine t_X2_marksMet_33 _ _ _ _ _ _ _ _ ⟨fun _ => ?_, fun z => absurd ?_ z⟩
          · rw [nI_1, bm_congr (p := fun m => A.testBit m && (if m < i then anyM (L.take (j + 1)) (mk m) else anyM (L.take j) (mk m))) (q := fun m => A.testBit m && anyM (L.take (j + 1)) (mk m)) (fun m hm => by rw [if_pos hm])]
            exact ih (j + 1) (by omega)
          · rw [hsz]; exact nI_le (Nat.le_refl _) (by omega)
        | succ e ih2 =>
          intro i hi
          have ih3 := ih2 (i + 1) (by omega)
          have hx : ∀ m, m ≠ i → (A.testBit m && (if m < i + 1 then anyM (L.take (j + 1)) (mk m) else anyM (L.take j) (mk m))) = (A.testBit m && (if m < i then anyM (L.take (j + 1)) (mk m) else anyM (L.take j) (mk m))) := by
            intro m hm
            by_cases h3 : m < i
            · rw [if_pos h3, if_pos (by omega)]
            · rw [if_neg h3, if_neg (by omega)]
          refine t_X2_marksMet_33 _ _ _ _ _ _ _ _ ⟨fun z => ?_, fun _ => ?_⟩
          · rw [hsz, nI_leI (by omega) (by omega)] at z; omega
          rw [n_bit hA (by omega), nI_1, n_shl (by omega), n_or]
          refine ⟨fun z => ?_, fun z => ⟨_, _, c_meets hL hlen hb1.2.2 hl (m := i) (by omega), fun z2 => ?_, fun z2 => ?_⟩⟩
          · have hz : A.testBit i = false := by cases ha : A.testBit i <;> simp_all
            rw [bm_or (p := fun m => A.testBit m && (if m < i then anyM (L.take (j + 1)) (mk m) else anyM (L.take j) (mk m))) (i := i) (b := false) (by omega) hx (by simp [hz])] at ih3
            simpa using ih3
          · have ht : A.testBit i = true := Classical.not_not.mp z
            have hm := bI_0.mp z2
            rw [bm_or (p := fun m => A.testBit m && (if m < i then anyM (L.take (j + 1)) (mk m) else anyM (L.take j) (mk m))) (i := i) (b := false) (by omega) hx (by simp [ht, anyM_take hl, hm])] at ih3
            simpa using ih3
          · have ht : A.testBit i = true := Classical.not_not.mp z
            have hm : meetsB l (mk i) = true := by
              cases hb : meetsB l (mk i) with
              | false => rw [hb] at z2; exact absurd rfl z2
              | true => rfl
            rw [bm_or (p := fun m => A.testBit m && (if m < i then anyM (L.take (j + 1)) (mk m) else anyM (L.take j) (mk m))) (i := i) (b := true) (by omega) hx (by simp [ht, anyM_take hl, hm])] at ih3
            simpa using ih3
      have := inner nm 0 (by omega)
      rw [bm_congr (p := fun m => A.testBit m && (if m < 0 then anyM (L.take (j + 1)) (mk m) else anyM (L.take j) (mk m))) (q := fun m => A.testBit m && anyM (L.take j) (mk m)) (fun m hm => by rw [if_neg (by omega)])] at this
      exact this
  have := outer L.length 0 (by omega)
  rw [bm_congr (p := fun m => A.testBit m && anyM (L.take 0) (mk m)) (q := fun _ => false) (fun m hm => by simp [anyM])] at this
  have e0 : bm (fun _ => false) nm = 0 := by
    apply Nat.eq_of_testBit_eq; intro i; rw [bm_bit]; simp
  rw [e0] at this
  exact this
set_option maxHeartbeats 4000000 in
set_option maxRecDepth 100000 in
theorem c_marksLeft {h : zH} (hb : CA t n w f sk nm sw mk h) {S hh A : Nat} (hS : S < 65536) (hh9 : hh ≤ 900) (hA : A < 2 ^ nm) :
    ∃ h', R_X2_marksLeft [.ref 32, .int (nI S), .int (nI hh), .int (nI A)] h (some (.int (nI (leftM S (fun c => metN t n w sk sw mk nm c hh) A 16)))) h' ∧ Fr sI h h' ∧ RK h' t n w := by
  have h4096 := p12 hb.2.2.1
  have key : ∀ (d c : Nat) (h1 : zH), c + d = 16 → Fr sI h h1 → RK h1 t n w → ∃ h', zG M_X2_marksLeft (fun r1 h2 => r1 = some (.int (nI (leftM S (fun c => metN t n w sk sw mk nm c hh) A 16))) ∧ h2 = h') (zat M_X2_marksLeft 6) [some (.ref 32), some (.int (nI S)), some (.int (nI hh)), some (.int (nI A)), some (.int (nI (leftM S (fun c => metN t n w sk sw mk nm c hh) A c))), some (.int (nI c))] [] h1 ∧ Fr sI h h' ∧ RK h' t n w := by
    intro d
    induction d with
    | zero =>
      intro c h1 hc hf hr
      have : c = 16 := by omega
      subst this
      exact ⟨h1, t_X2_marksLeft_6 _ _ _ _ _ _ _ ⟨fun _ => ⟨rfl, rfl⟩, fun z => absurd (by decide) z⟩, hf, hr⟩
    | succ d ih =>
      intro c h1 hc hf hr
      have hlt : leftM S (fun c => metN t n w sk sw mk nm c hh) A c < 2 ^ nm := an_lt hA
      have h16 : ¬ ((16 : Int32) ≤ nI c) := by rw [q16, nI_leI (by omega) (by omega)]; omega
      by_cases h0 : leftM S (fun c => metN t n w sk sw mk nm c hh) A c = 0
      · have he := leftM_0 h0 (d + 1)
        rw [hc] at he
        refine ⟨h1, t_X2_marksLeft_6 _ _ _ _ _ _ _ ⟨fun z => absurd z h16, fun _ => ⟨fun _ => ⟨by rw [h0, he], rfl⟩, fun z => absurd (by rw [h0]; rfl) z⟩⟩, hf, hr⟩
      · have hne : ¬ nI (leftM S (fun c => metN t n w sk sw mk nm c hh) A c) = 0 := by rw [q0, nI_eq (by omega) (by omega)]; exact h0
        cases hbit : S.testBit c with
        | false =>
          obtain ⟨h', g1, g2⟩ := ih (c + 1) h1 (by omega) hf hr
          have e : leftM S (fun c => metN t n w sk sw mk nm c hh) A (c + 1) = leftM S (fun c => metN t n w sk sw mk nm c hh) A c := by
            unfold leftM; rw [unM_s, if_neg (by simp [hbit])]
          rw [e] at g1
          refine ⟨h', t_X2_marksLeft_6 _ _ _ _ _ _ _ ⟨fun z => absurd z h16, fun _ => ⟨fun z => absurd z hne, fun _ => ?_⟩⟩, g2⟩
          rw [n_bit (by omega) (by omega), nI_1]
          exact ⟨fun _ => g1, fun z => absurd (by simp [hbit]) z⟩
        | true =>
          obtain ⟨h2, r1, r2, r3⟩ := c_marksMet (hb.fr hf hr) (c := c) (hh := hh) (A := leftM S (fun c => metN t n w sk sw mk nm c hh) A c) (by omega) hh9 (by omega)
          obtain ⟨h', g1, g2⟩ := ih (c + 1) h2 (by omega) (hf.tr r2) r3
          have e : leftM S (fun c => metN t n w sk sw mk nm c hh) A (c + 1) = leftM S (fun c => metN t n w sk sw mk nm c hh) A c ^^^ (leftM S (fun c => metN t n w sk sw mk nm c hh) A c &&& bm (fun m => (leftM S (fun c => metN t n w sk sw mk nm c hh) A c).testBit m && anyM (LTS t n w sk sw c hh) (mk m)) nm) := by
            apply Nat.eq_of_testBit_eq
            intro i
            rw [an_bit, leftM_bit, leftM_bit, bm_bit, leftM_bit]
            have eu : unM S (fun c => metN t n w sk sw mk nm c hh) (c + 1) = unM S (fun c => metN t n w sk sw mk nm c hh) c ||| metN t n w sk sw mk nm c hh := by
              rw [unM_s, if_pos hbit]
            rw [eu, Nat.testBit_or]
            show _ = _
            have em : (metN t n w sk sw mk nm c hh).testBit i = (decide (i < nm) && anyM (LTS t n w sk sw c hh) (mk i)) := bm_bit _ _ _
            rw [em]
            cases A.testBit i <;> cases (unM S (fun c => metN t n w sk sw mk nm c hh) c).testBit i <;> cases decide (i < nm) <;> cases anyM (LTS t n w sk sw c hh) (mk i) <;> rfl
          rw [e] at g1
          refine ⟨h', t_X2_marksLeft_6 _ _ _ _ _ _ _ ⟨fun z => absurd z h16, fun _ => ⟨fun z => absurd z hne, fun _ => ?_⟩⟩, g2⟩
          rw [n_bit (by omega) (by omega), nI_1]
          refine ⟨fun z => absurd hbit z, fun _ => ⟨_, _, r1, ?_⟩⟩
          rw [n_andnot]
          exact g1
  obtain ⟨h', g1, g2⟩ := key 16 0 h (by omega) Fr.rf hb.2.1
  have e0 : leftM S (fun c => metN t n w sk sw mk nm c hh) A 0 = A := by unfold leftM unM; simp
  rw [e0] at g1
  exact ⟨h', r_X2_marksLeft _ _ _ _ _ _ ⟨_, rfl⟩ (t_X2_marksLeft_0 _ _ _ _ _ g1), g2⟩
/-- the set explains, at hh -/
noncomputable def exB (t n w : Nat → Nat) (sk : Nat) (sw : Int32) (mk : Nat → LT) (nm S hh : Nat) : Bool := decide (leftM S (fun c => metN t n w sk sw mk nm c hh) (2 ^ nm - 1) 16 = 0)
theorem c_isExplained {h : zH} (hb : CA t n w f sk nm sw mk h) {S hh : Nat} (hS : S < 65536) (hh9 : hh ≤ 900) :
    ∃ h', R_X2_isExplained [.ref 32, .int (nI S), .int (nI hh)] h (some (.int (bI (exB t n w sk sw mk nm S hh)))) h' ∧ Fr sI h h' ∧ RK h' t n w := by
  have h4096 := p12 hb.2.2.1
  have hp : 0 < 2 ^ nm := Nat.pow_pos (by omega)
  obtain ⟨h1, r1, r2, r3⟩ := c_marksLeft hb hS hh9 (A := 2 ^ nm - 1) (by omega)
  have hlt : leftM S (fun c => metN t n w sk sw mk nm c hh) (2 ^ nm - 1) 16 < 2 ^ nm := an_lt (by omega)
  refine ⟨h1, r_X2_isExplained _ _ _ _ _ (by cases exB t n w sk sw mk nm S hh <;> simp [bI]) (t_X2_isExplained_0 _ _ _ _ ⟨_, _, c_allMarks hb.2.2, _, _, r1, ?_⟩), r2, r3⟩
  rw [nI_z (by omega)]
  unfold exB
  exact ⟨fun z => ⟨by simp [z, bI], rfl⟩, fun z => ⟨by simp [Classical.not_not.mp z, bI], rfl⟩⟩
/-- the marks that are met at no height below 50 i -/
noncomputable def lvN (t n w : Nat → Nat) (sk : Nat) (sw : Int32) (mk : Nat → LT) (nm : Nat) : Nat → Nat
  | 0 => 2 ^ nm - 1
  | i + 1 => leftM 65535 (fun c => metN t n w sk sw mk nm c (50 * i)) (lvN t n w sk sw mk nm i) 16
theorem lvN_lt (t n w : Nat → Nat) (sk : Nat) (sw : Int32) (mk : Nat → LT) (nm : Nat) : ∀ i, lvN t n w sk sw mk nm i < 2 ^ nm
  | 0 => by have : 0 < 2 ^ nm := Nat.pow_pos (by omega)
            unfold lvN; omega
  | i + 1 => an_lt (lvN_lt t n w sk sw mk nm i)
theorem lvN_0 {t n w : Nat → Nat} {sk : Nat} {sw : Int32} {mk : Nat → LT} {nm i : Nat} (h : lvN t n w sk sw mk nm i = 0) : ∀ d, lvN t n w sk sw mk nm (i + d) = 0
  | 0 => h
  | d + 1 => by
    rw [← Nat.add_assoc]
    unfold lvN
    rw [lvN_0 h d]
    unfold leftM; simp
theorem c_never {h : zH} (hb : CA t n w f sk nm sw mk h) : ∃ h', R_X2_marksNeverMet [.ref 32] h (some (.int (nI (lvN t n w sk sw mk nm 19)))) h' ∧ Fr sI h h' ∧ RK h' t n w := by
  have h4096 := p12 hb.2.2.1
  have key : ∀ (d i : Nat) (h1 : zH), i + d = 19 → Fr sI h h1 → RK h1 t n w → ∃ h', zG M_X2_marksNeverMet (fun r1 h2 => r1 = some (.int (nI (lvN t n w sk sw mk nm 19))) ∧ h2 = h') (zat M_X2_marksNeverMet 7) [some (.ref 32), some (.int (nI (lvN t n w sk sw mk nm i))), some (.int (nI (50 * i)))] [] h1 ∧ Fr sI h h' ∧ RK h' t n w := by
    intro d
    induction d with
    | zero =>
      intro i h1 hi hf hr
      have : i = 19 := by omega
      subst this
      exact ⟨h1, t_X2_marksNeverMet_7 _ _ _ _ ⟨fun _ => ⟨rfl, rfl⟩, fun z => absurd (by decide) z⟩, hf, hr⟩
    | succ d ih =>
      intro i h1 hi hf hr
      have hlt := lvN_lt t n w sk sw mk nm i
      have h9 : ¬ ((900 : Int32) < nI (50 * i)) := by rw [q900, nI_ltI (by omega) (by omega)]; omega
      by_cases h0 : lvN t n w sk sw mk nm i = 0
      · have he := lvN_0 h0 (d + 1)
        rw [hi] at he
        exact ⟨h1, t_X2_marksNeverMet_7 _ _ _ _ ⟨fun z => absurd z h9, fun _ => ⟨fun _ => ⟨by rw [h0, he], rfl⟩, fun z => absurd (by rw [h0]; rfl) z⟩⟩, hf, hr⟩
      · have hne : ¬ nI (lvN t n w sk sw mk nm i) = 0 := by rw [q0, nI_eq (by omega) (by omega)]; exact h0
        obtain ⟨h2, r1, r2, r3⟩ := c_marksLeft (hb.fr hf hr) (S := 65535) (hh := 50 * i) (by omega) (by omega) hlt
        obtain ⟨h', g1, g2⟩ := ih (i + 1) h2 (by omega) (hf.tr r2) r3
        refine ⟨h', t_X2_marksNeverMet_7 _ _ _ _ ⟨fun z => absurd z h9, fun _ => ⟨fun z => absurd z hne, fun _ => ⟨_, _, r1, ?_⟩⟩⟩, g2⟩
        rw [q50, nI_add, show 50 * i + 50 = 50 * (i + 1) by omega]
        exact g1
  obtain ⟨h', g1, g2⟩ := key 19 0 h (by omega) Fr.rf hb.2.1
  exact ⟨h', r_X2_marksNeverMet _ _ _ ⟨_, rfl⟩ (t_X2_marksNeverMet_0 _ _ ⟨_, _, c_allMarks hb.2.2, g1⟩), g2⟩
/-! owed -/
def cntL (mk : Nat → LT) (nm : Nat) (L : List LT) : Nat := (L.filter (fun l => !anyK mk nm l)).length
theorem cntL_take {mk : Nat → LT} {nm : Nat} {L : List LT} {j : Nat} {l : LT} (hj : L[j]? = some l) : cntL mk nm (L.take (j + 1)) = cntL mk nm (L.take j) + (if anyK mk nm l then 0 else 1) := by
  unfold cntL
  rw [List.take_add_one, hj, List.filter_append, List.length_append]
  cases h : anyK mk nm l <;> simp [h]
theorem cntL_le {mk : Nat → LT} {nm : Nat} (L : List LT) : cntL mk nm L ≤ L.length := List.length_filter_le _ _
noncomputable def owN (t n w : Nat → Nat) (sk : Nat) (sw : Int32) (mk : Nat → LT) (nm S hh : Nat) : Nat → Nat
  | 0 => 0
  | c + 1 => if S.testBit c then owN t n w sk sw mk nm S hh c + cntL mk nm (LTS t n w sk sw c hh) else owN t n w sk sw mk nm S hh c
theorem owN_le {t n w : Nat → Nat} {sk : Nat} {sw : Int32} {mk : Nat → LT} {nm S hh : Nat} (hn : ∀ k, k < 4 → n k ≤ 3) : ∀ c, c ≤ 16 → owN t n w sk sw mk nm S hh c ≤ 7 * c
  | 0, _ => by simp [owN]
  | c + 1, hc => by
    have ih := owN_le (S := S) (hh := hh) (t := t) (w := w) (sk := sk) (sw := sw) (mk := mk) (nm := nm) hn c (by omega)
    have h1 := cntL_le (mk := mk) (nm := nm) (LTS t n w sk sw c hh)
    have h2 : (LTS t n w sk sw c hh).length ≤ 7 := LTS_len (hn _ (by omega))
    unfold owN
    split <;> omega
set_option maxHeartbeats 4000000 in
set_option maxRecDepth 100000 in
theorem c_unseen {h : zH} (hb : CA t n w f sk nm sw mk h) {S hh : Nat} (hS : S < 65536) (hh9 : hh ≤ 900) :
    ∃ h', R_X2_unseen [.ref 32, .int (nI S), .int (nI hh)] h (some (.int (nI (owN t n w sk sw mk nm S hh 16)))) h' ∧ Fr sI h h' ∧ RK h' t n w := by
  have hn3 : ∀ k, k < 4 → n k ≤ 3 := fun k hk => (hb.1.2.1.1 k hk).1
  have key : ∀ (d c : Nat) (h1 : zH), c + d = 16 → Fr sI h h1 → RK h1 t n w → ∃ h', zG M_X2_unseen (fun r1 h2 => r1 = some (.int (nI (owN t n w sk sw mk nm S hh 16))) ∧ h2 = h') (zat M_X2_unseen 5) [some (.ref 32), some (.int (nI S)), some (.int (nI hh)), some (.int (nI (owN t n w sk sw mk nm S hh c))), some (.int (nI c)), none] [] h1 ∧ Fr sI h h' ∧ RK h' t n w := by
    intro d
    induction d with
    | zero =>
      intro c h1 hc hf hr
      have : c = 16 := by omega
      subst this
      exact ⟨h1, t_X2_unseen_5 _ _ _ _ _ _ ⟨fun _ => ⟨rfl, rfl⟩, fun z => absurd (by decide) z⟩, hf, hr⟩
    | succ d ih =>
      intro c h1 hc hf hr
      have h16 : ¬ ((16 : Int32) ≤ nI c) := by rw [q16, nI_leI (by omega) (by omega)]; omega
      have hb1 := hb.fr hf hr
      cases hbit : S.testBit c with
      | false =>
        obtain ⟨h', g1, g2⟩ := ih (c + 1) h1 (by omega) hf hr
        have e : owN t n w sk sw mk nm S hh (c + 1) = owN t n w sk sw mk nm S hh c := by
          conv => lhs; unfold owN
          simp [hbit]
        rw [e] at g1
        refine ⟨h', t_X2_unseen_5 _ _ _ _ _ _ ⟨fun z => absurd z h16, fun _ => ?_⟩, g2⟩
        rw [n_bit (by omega) (by omega), nI_1]
        exact ⟨fun _ => g1, fun z => absurd (by simp [hbit]) z⟩
      | true =>
        obtain ⟨h2, r1, hL, r2, r3⟩ := c_lightUp hb1.1 hb1.2.1 (cause := c) (hh := hh) (by omega) hh9
        have hb2 := hb1.fr r2 r3
        obtain ⟨h', g1, g2⟩ := ih (c + 1) h2 (by omega) (hf.tr r2) r3
        have hlen : (LTS t n w sk sw c hh).length ≤ 7 := LTS_len (hn3 _ (by omega))
        have hu := owN_le (S := S) (hh := hh) (t := t) (w := w) (sk := sk) (sw := sw) (mk := mk) (nm := nm) hn3 c (by omega)
        have e : owN t n w sk sw mk nm S hh (c + 1) = owN t n w sk sw mk nm S hh c + cntL mk nm (LTS t n w sk sw c hh) := by
          conv => lhs; unfold owN
          simp [hbit]
        rw [e] at g1
        refine ⟨h', t_X2_unseen_5 _ _ _ _ _ _ ⟨fun z => absurd z h16, fun _ => ?_⟩, g2⟩
        rw [n_bit (by omega) (by omega), nI_1]
        refine ⟨fun z => absurd hbit z, fun _ => ⟨_, r1, ?_⟩⟩
        generalize LTS t n w sk sw c hh = L at *
        generalize owN t n w sk sw mk nm S hh c = u at *
        have inner : ∀ (e j : Nat), j + e = L.length → zG M_X2_unseen (fun r1 h2 => r1 = some (.int (nI (owN t n w sk sw mk nm S hh 16))) ∧ h2 = h') (zat M_X2_unseen 35) [some (.ref 32), some (.int (nI S)), some (.int (nI hh)), some (.int (nI (u + cntL mk nm (L.take j)))), some (.int (nI c)), some (.int (nI j))] [] h2 := by
          intro e
          induction e with
          | zero =>
            intro j hj
            have : j = L.length := by omega
            subst this
            refine t_X2_unseen_35 _ _ _ _ _ _ _ ⟨fun _ => ?_, fun z => absurd ?_ z⟩
            · rw [List.take_length, nI_1]; exact g1
            · rw [hL.1]; exact nI_le (Nat.le_refl _) (by omega)
          | succ e ih2 =>
            intro j hj
            obtain ⟨l, hl⟩ : ∃ l, L[j]? = some l := ⟨L[j], List.getElem?_eq_getElem (by omega)⟩
            have ih3 := ih2 (j + 1) (by omega)
            rw [cntL_take hl] at ih3
            refine t_X2_unseen_35 _ _ _ _ _ _ _ ⟨fun z => ?_, fun _ => ⟨_, _, c_meetsAny hL hlen hb2.2.2 hl, fun z => ?_, fun z => ?_⟩⟩
            · rw [hL.1, nI_leI (by omega) (by omega)] at z; omega
            · rw [bI_0.mp z] at ih3
              rw [nI_1, nI_1]
              exact ih3
            · have ht : anyK mk nm l = true := by
                cases hb : anyK mk nm l with
                | false => rw [hb] at z; exact absurd rfl z
                | true => rfl
              rw [ht] at ih3
              rw [nI_1, q0, nI_add]
              exact ih3
        exact inner L.length 0 (by omega)
  obtain ⟨h', g1, g2⟩ := key 16 0 h (by omega) Fr.rf hb.2.1
  exact ⟨h', r_X2_unseen _ _ _ _ _ ⟨_, rfl⟩ (t_X2_unseen_0 _ _ _ _ g1), g2⟩
end MK
