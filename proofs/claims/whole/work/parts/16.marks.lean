/-! ===== marks of the class ===== -/
def meetsB (l q : LT) : Bool := (decide (q.1 = -1) || decide (q.1 = l.1)) && ((decide (q.2.1 = -1) || decide (q.2.1 = l.2.1)) && (!decide (q.2.2.1 < l.2.2.1 - q.2.2.2) && !decide (l.2.2.2 + q.2.2.2 < q.2.2.1)))
def MC (h : zH) (mk : Nat → LT) (nm : Nat) : Prop := nm ≤ 12 ∧ h.1 32 2 = nI nm ∧ ∀ m, m < 12 → h.1 33 (4 * m) = (mk m).1 ∧ h.1 33 (4 * m + 1) = (mk m).2.1 ∧ h.1 33 (4 * m + 2) = (mk m).2.2.1 ∧ h.1 33 (4 * m + 3) = (mk m).2.2.2
theorem MC.fr {P : Nat → Nat → Bool} {h h' : zH} {mk : Nat → LT} {nm : Nat} (hb : MC h mk nm) (hf : Fr P h h') (h2 : ∀ j, P 32 j = false) (h3 : ∀ j, P 33 j = false) : MC h' mk nm := ⟨hb.1, by rw [hf 32 2 (h2 2)]; exact hb.2.1, fun m hm => by rw [hf 33 _ (h3 _), hf 33 _ (h3 _), hf 33 _ (h3 _), hf 33 _ (h3 _)]; exact hb.2.2 m hm⟩
theorem c_part {h : zH} {L : List LT} (hL : HasC h L) (hn : L.length ≤ 7) {j : Nat} {l : LT} (hj : L[j]? = some l) : R_X5_part [.ref 30, .int (nI j), .int 0] h (some (.int l.1)) h ∧ R_X5_part [.ref 30, .int (nI j), .int 1] h (some (.int l.2.1)) h ∧ R_X5_part [.ref 30, .int (nI j), .int 2] h (some (.int l.2.2.1)) h ∧ R_X5_part [.ref 30, .int (nI j), .int 3] h (some (.int l.2.2.2)) h := by
  have hlt : j < L.length := (List.getElem?_eq_some_iff.mp hj).1
  obtain ⟨a0, a1, a2, a3⟩ := hL.2 j l hj
  refine ⟨r_X5_part _ _ _ _ _ ⟨_, rfl⟩ (t_X5_part_0 _ _ _ _ ?_), r_X5_part _ _ _ _ _ ⟨_, rfl⟩ (t_X5_part_0 _ _ _ _ ?_), r_X5_part _ _ _ _ _ ⟨_, rfl⟩ (t_X5_part_0 _ _ _ _ ?_), r_X5_part _ _ _ _ _ ⟨_, rfl⟩ (t_X5_part_0 _ _ _ _ ?_)⟩
  · rw [ix_4 0 q0, nI_clamp (by omega)]
    exact ⟨vp_in_nI (by omega) (by omega), by rw [← a0]; rfl, rfl⟩
  · rw [ix_4 1 q1, nI_clamp (by omega)]
    exact ⟨vp_in_nI (by omega) (by omega), by rw [← a1], rfl⟩
  · rw [ix_4 2 q2, nI_clamp (by omega)]
    exact ⟨vp_in_nI (by omega) (by omega), by rw [← a2], rfl⟩
  · rw [ix_4 3 q3, nI_clamp (by omega)]
    exact ⟨vp_in_nI (by omega) (by omega), by rw [← a3], rfl⟩
def nearB (l : LT) (a d : Int32) : Bool := !decide (a < l.2.2.1 - d) && !decide (l.2.2.2 + d < a)
theorem c_isNear {h : zH} {L : List LT} (hL : HasC h L) (hn : L.length ≤ 7) {j : Nat} {l : LT} (hj : L[j]? = some l) (a d : Int32) : R_X5_isNear [.ref 30, .int (nI j), .int a, .int d] h (some (.int (bI (nearB l a d)))) h := by
  obtain ⟨-, -, c2, c3⟩ := c_part hL hn hj
  refine r_X5_isNear _ _ _ _ _ _ (by cases nearB l a d <;> simp [bI]) (t_X5_isNear_0 _ _ _ _ _ ⟨_, _, c2, fun z => ⟨?_, rfl⟩, fun z => ⟨_, _, c3, fun z2 => ⟨?_, rfl⟩, fun z2 => ⟨?_, rfl⟩⟩⟩)
  · simp [nearB, z, bI]
  · simp [nearB, z, z2, bI]
  · simp [nearB, z, z2, bI]
theorem bI_0 {b : Bool} : bI b = 0 ↔ b = false := by cases b <;> simp [bI]
theorem c_meets {h : zH} {L : List LT} {mk : Nat → LT} {nm : Nat} (hL : HasC h L) (hn : L.length ≤ 7) (hm : MC h mk nm) {j m : Nat} {l : LT} (hj : L[j]? = some l) (hm12 : m < 12) : R_X2_meets [.ref 32, .int (nI j), .int (nI m)] h (some (.int (bI (meetsB l (mk m))))) h := by
  obtain ⟨c0, c1, -, -⟩ := c_part hL hn hj
  obtain ⟨-, -, hmk⟩ := hm
  obtain ⟨k0, k1, k2, k3⟩ := hmk m hm12
  have cn := c_isNear hL hn hj (mk m).2.2.1 (mk m).2.2.2
  refine r_X2_meets _ _ _ _ _ (by cases meetsB l (mk m) <;> simp [bI]) (t_X2_meets_0 _ _ _ _ ?_)
  rw [ix_4 0 q0, ix_4 1 q1, ix_4 2 q2, ix_4 3 q3, nI_clamp (by omega), nI_clamp (by omega), nI_clamp (by omega), nI_clamp (by omega), Nat.add_zero, k0, k1]
  have v0 : vp_in (nI (4 * m)) 48 := vp_in_nI (by omega) (by omega)
  have v1 : vp_in (nI (4 * m + 1)) 48 := vp_in_nI (by omega) (by omega)
  have v2 : vp_in (nI (4 * m + 2)) 48 := vp_in_nI (by omega) (by omega)
  have v3 : vp_in (nI (4 * m + 3)) 48 := vp_in_nI (by omega) (by omega)
  have e : meetsB l (mk m) = ((decide ((mk m).1 = -1) || decide ((mk m).1 = l.1)) && ((decide ((mk m).2.1 = -1) || decide ((mk m).2.1 = l.2.1)) && nearB l (mk m).2.2.1 (mk m).2.2.2)) := rfl
  rw [e]
  generalize (mk m).1 = F at *
  generalize (mk m).2.1 = S at *
  generalize nearB l (mk m).2.2.1 (mk m).2.2.2 = N at *
  rw [← k2, ← k3] at cn
  have last : ∀ {B : Bool}, B = N → vp_in (nI (4 * m + 2)) 48 ∧ vp_in (nI (4 * m + 3)) 48 ∧ ∃ (v1 : Int32) (h1 : zH), R_X5_isNear [.ref 30, .int (nI j), .int (h.1 33 (4 * m + 2)), .int (h.1 33 (4 * m + 3))] h (some (.int v1)) h1 ∧ (v1 = 0 → some (Value.int 0) = some (Value.int (bI B)) ∧ h1 = h) ∧ (¬ (v1 = 0) → some (Value.int 1) = some (Value.int (bI B)) ∧ h1 = h) := by
    intro B hB
    subst hB
    refine ⟨v2, v3, _, _, cn, fun z => ⟨?_, rfl⟩, fun z => ⟨?_, rfl⟩⟩
    · rw [z]
    · cases B with
      | false => exact absurd rfl z
      | true => rfl
  refine ⟨v0, v1, fun f => ⟨fun s => last (by simp [f, s]), fun s => ⟨_, _, c1, fun z => ⟨by simp [f, s, z, bI], rfl⟩, fun z => last (by simp [f, Classical.not_not.mp z])⟩⟩, fun f => ⟨_, _, c0, fun z => ⟨by simp [f, z, bI], rfl⟩, fun z => ⟨fun s => last (by simp [s, Classical.not_not.mp z]), fun s => ⟨_, _, c1, fun z2 => ⟨by simp [s, z2, bI], rfl⟩, fun z2 => last (by simp [Classical.not_not.mp z, Classical.not_not.mp z2])⟩⟩⟩⟩
def anyM (L : List LT) (q : LT) : Bool := L.any (fun l => meetsB l q)
def anyK (mk : Nat → LT) (nm : Nat) (l : LT) : Bool := (List.range nm).any (fun m => meetsB l (mk m))
theorem anyK_s (mk : Nat → LT) (i : Nat) (l : LT) : anyK mk (i + 1) l = (anyK mk i l || meetsB l (mk i)) := by
  unfold anyK
  rw [List.range_succ, List.any_append]
  simp
theorem anyK_grow {mk : Nat → LT} {i : Nat} {l : LT} (h : anyK mk i l = true) : ∀ m, anyK mk (i + m) l = true
  | 0 => h
  | m + 1 => by rw [← Nat.add_assoc, anyK_s, anyK_grow h m]; rfl
theorem c_meetsAny {h : zH} {L : List LT} {mk : Nat → LT} {nm : Nat} (hL : HasC h L) (hn : L.length ≤ 7) (hm : MC h mk nm) {j : Nat} {l : LT} (hj : L[j]? = some l) : R_X2_meetsAny [.ref 32, .int (nI j)] h (some (.int (bI (anyK mk nm l)))) h := by
  refine r_X2_meetsAny _ _ _ _ (by cases anyK mk nm l <;> simp [bI]) (t_X2_meetsAny_0 _ _ _ ?_)
  have key : ∀ (d i : Nat), i + d = nm → anyK mk i l = false → zG M_X2_meetsAny (fun r1 h1 => r1 = some (.int (bI (anyK mk nm l))) ∧ h1 = h) (zat M_X2_meetsAny 2) [some (.ref 32), some (.int (nI j)), some (.int (nI i))] [] h := by
    intro d
    induction d with
    | zero =>
      intro i hi hf
      have : i = nm := by omega
      subst this
      refine t_X2_meetsAny_2 _ _ _ _ ⟨fun _ => ⟨by rw [hf]; rfl, rfl⟩, fun z => absurd ?_ z⟩
      rw [hm.2.1]; exact nI_le (Nat.le_refl _) (by have := hm.1; omega)
    | succ d ih =>
      intro i hi hf
      have h12 := hm.1
      refine t_X2_meetsAny_2 _ _ _ _ ⟨fun z => ?_, fun _ => ⟨_, _, c_meets hL hn hm hj (m := i) (by omega), fun z => ?_, fun z => ?_⟩⟩
      · rw [hm.2.1, nI_leI (by omega) (by omega)] at z; omega
      · rw [nI_1]
        exact ih (i + 1) (by omega) (by rw [anyK_s, hf, bI_0.mp z]; rfl)
      · have ht : meetsB l (mk i) = true := by
          cases hb : meetsB l (mk i) with
          | false => rw [hb] at z; exact absurd rfl z
          | true => rfl
        have h1 : anyK mk (i + 1) l = true := by rw [anyK_s, ht, Bool.or_true]
        have h2 := anyK_grow h1 d
        rw [show i + 1 + d = nm by omega] at h2
        exact ⟨by rw [h2]; rfl, rfl⟩
  exact key nm 0 (by omega) rfl
theorem c_allMarks {h : zH} {mk : Nat → LT} {nm : Nat} (hm : MC h mk nm) : R_X2_allMarks [.ref 32] h (some (.int (nI (2 ^ nm - 1)))) h := by
  refine r_X2_allMarks _ _ _ ⟨_, rfl⟩ (t_X2_allMarks_0 _ _ ⟨?_, rfl⟩)
  rw [hm.2.1, n_all (by have := hm.1; omega)]
