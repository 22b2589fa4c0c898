/-! ===== drops ===== -/
theorem rem36 (x : Int32) : (x - x / 3600 * 3600).toInt = x.toInt.tmod 3600 := by
  have h1 := Int32.toInt_lt x
  have h2 := Int32.le_toInt x
  have e : (3600 : Int32).toInt = 3600 := rfl
  have hd : x.toInt.tdiv 3600 * 3600 + x.toInt.tmod 3600 = x.toInt := by
    rw [Int.mul_comm]; exact Int.mul_tdiv_add_tmod x.toInt 3600
  have hm := tmod_bounds (a := x.toInt) (M := 3600) (by omega)
  have hs : (0 ≤ x.toInt → 0 ≤ x.toInt.tmod 3600) ∧ (x.toInt ≤ 0 → x.toInt.tmod 3600 ≤ 0) := by
    constructor
    · intro h; exact Int.tmod_nonneg 3600 h
    · intro h
      have := Int.tmod_nonneg (a := -x.toInt) 3600 (by omega)
      rw [Int.neg_tmod] at this
      omega
  have e2 : (x / 3600).toInt = x.toInt.tdiv 3600 := by
    rw [Int32.toInt_div, e]
    exact Int.bmod_eq_of_le (by omega) (by omega)
  have e3 : (x / 3600 * 3600).toInt = x.toInt.tdiv 3600 * 3600 := by
    rw [Int32.toInt_mul, e, e2]
    exact Int.bmod_eq_of_le (by omega) (by omega)
  rw [Int32.toInt_sub, e3]
  rw [show x.toInt - x.toInt.tdiv 3600 * 3600 = x.toInt.tmod 3600 by omega]
  exact Int.bmod_eq_of_le (by omega) (by omega)
theorem xor_sign (x : Int32) : 0 ≤ x ^^^ 3600 ↔ 0 ≤ x := by
  have key : ∀ y : Int32, 0 ≤ y ↔ y.toBitVec.msb = false := by
    intro y
    rw [Int32.le_iff_toInt_le, show (0 : Int32).toInt = 0 from rfl, BitVec.msb_eq_toInt]
    show 0 ≤ y.toInt ↔ decide (y.toInt < 0) = false
    rw [decide_eq_false_iff_not]; omega
  rw [key, key, Int32.toBitVec_xor, BitVec.msb_xor]
  rw [show (3600 : Int32).toBitVec.msb = false from rfl, Bool.xor_false]
/-- FROM THE SUN -/
def fsN (x : Int32) : Nat := if (x.toInt % 3600).toNat ≤ 1800 then (x.toInt % 3600).toNat else 3600 - (x.toInt % 3600).toNat
theorem fsN_le (x : Int32) : fsN x ≤ 1800 := by unfold fsN; split <;> omega
theorem em_bd (x : Int32) : (x.toInt % 3600).toNat < 3600 := by omega
theorem rem_val (x : Int32) : (0 ≤ x - x / 3600 * 3600 → x - x / 3600 * 3600 = nI (x.toInt % 3600).toNat) ∧ (¬ 0 ≤ x - x / 3600 * 3600 → x - x / 3600 * 3600 + 3600 = nI (x.toInt % 3600).toNat) := by
  have hr := rem36 x
  have hm := tmod_bounds (a := x.toInt) (M := 3600) (by omega)
  have hb := em_bd x
  have ht : x.toInt.tmod 3600 = x.toInt % 3600 ∨ x.toInt.tmod 3600 = x.toInt % 3600 - 3600 := by
    rw [Int.tmod_eq_emod]
    split
    · left; omega
    · right; rfl
  have h1 := Int.emod_nonneg x.toInt (show (3600 : Int) ≠ 0 by omega)
  have h2 := Int.emod_lt_of_pos x.toInt (show (0 : Int) < 3600 by omega)
  constructor
  · intro h0
    rw [Int32.le_iff_toInt_le, hr, show (0 : Int32).toInt = 0 from rfl] at h0
    apply Int32.toInt_inj.mp
    rw [hr, nI_toInt (by omega)]
    omega
  · intro h0
    rw [Int32.le_iff_toInt_le, hr, show (0 : Int32).toInt = 0 from rfl] at h0
    apply Int32.toInt_inj.mp
    rw [Int32.toInt_add, hr, nI_toInt (by omega), show (3600 : Int32).toInt = 3600 from rfl]
    rw [Int.bmod_eq_of_le (by omega) (by omega)]
    omega
theorem fs_fold {r : Nat} (hr : r < 3600) {B : Int32 → Prop} (h : B (nI (if r ≤ 1800 then r else 3600 - r))) : (nI r ≤ 1800 → B (nI r)) ∧ (¬ (nI r ≤ 1800) → B (3600 - nI r)) := by
  rw [q1800, nI_leI (by omega) (by omega)]
  refine ⟨fun z => by rw [if_pos z] at h; exact h, fun z => ?_⟩
  rw [if_neg z] at h
  rw [q3600, pk_sub (by omega)]; exact h
def turnV (b k i sq : Int32) : Int32 := ((2 * i) - (2 * b)) + (k * ((1800 - (2 * b)) + sq))
/-- what goes on after k mirrors -/
def itN (sh x : Nat) : Nat → Nat
  | 0 => x
  | k + 1 => itN sh x k * sh / 100
def liN (i : Nat) : Nat := i * (900 - i)
def ouN (sh k i : Nat) : Nat := itN sh (liN i - liN i * sh / 100) k - itN sh (liN i - liN i * sh / 100) k * sh / 100
theorem liN_le {i : Nat} (hi : i ≤ 900) : liN i ≤ 810000 := by
  have : i * (900 - i) ≤ 900 * 900 := Nat.mul_le_mul hi (by omega)
  unfold liN; omega
theorem sh_le {x sh : Nat} (hs : sh ≤ 100) : x * sh / 100 ≤ x := by
  have : x * sh ≤ x * 100 := Nat.mul_le_mul_left x hs
  omega
theorem itN_le {sh x : Nat} (hs : sh ≤ 100) : ∀ k, itN sh x k ≤ x
  | 0 => Nat.le_refl _
  | k + 1 => Nat.le_trans (sh_le hs) (itN_le hs k)
theorem ouN_le {sh k i : Nat} (hs : sh ≤ 100) (hi : i ≤ 900) : ouN sh k i ≤ 810000 := by
  have h1 := liN_le hi
  have h2 := itN_le (x := liN i - liN i * sh / 100) hs k
  unfold ouN; omega
theorem tb_val {x sh : Nat} (hx : x ≤ 810000) (hs : sh ≤ 100) : nI x * nI sh / 100 = nI (x * sh / 100) := by
  have : x * sh ≤ 810000 * 100 := Nat.mul_le_mul hx hs
  rw [pk_mul, q100, pk_div (by omega) (by omega) (by omega)]
theorem li_val {i : Nat} (hi : i ≤ 900) : nI i * (900 - nI i) = nI (liN i) := by rw [q900, pk_sub hi, pk_mul]; rfl
/-- the class's drops, the model's -/
def DC (h : zH) (t : Nat → Nat) (f sh : Nat) (sq : Int32) : Prop := BT h t f ∧ sh ≤ 100 ∧ h.1 3 2 = nI sh ∧ h.1 3 1 = sq
def DM (h : zH) (t : Nat → Nat) (f sh : Nat) (sq : Int32) : Prop := BM h t f ∧ sh ≤ 100 ∧ h.1 42 3 = nI sh ∧ h.1 42 2 = sq
theorem DC.of {h h' : zH} {t : Nat → Nat} {f sh : Nat} {sq : Int32} (hd : DC h t f sh sq) (e : h'.1 = h.1) : DC h' t f sh sq := by
  unfold DC BT at *; rw [e]; exact hd
theorem DM.of {h h' : zH} {t : Nat → Nat} {f sh : Nat} {sq : Int32} (hd : DM h t f sh sq) (e : h'.1 = h.1) : DM h' t f sh sq := by
  unfold DM BM at *; rw [e]; exact hd
section DR
variable {t : Nat → Nat} {f sh : Nat} {sq : Int32}
def tuV (t : Nat → Nat) (f : Nat) (sq : Int32) (k c i : Nat) : Int32 := turnV (nI (bn t f 0 c i)) (nI k) (nI i) sq
theorem c_dturn {h : zH} (hd : DC h t f sh sq) {k c i : Nat} (hc : c ≤ 3) (hi : i ≤ 900) : R_X3_turnOf [.ref 26, .int (nI k), .int (nI c), .int (nI i)] h (some (.int (tuV t f sq k c i))) h := by
  refine r_X3_turnOf _ _ _ _ _ _ ⟨_, rfl⟩ (t_X3_turnOf_0 _ _ _ _ _ ⟨_, _, c_bent hd.1 (s := 0) (by omega) hc hi, vp_in_nI (n := 1) (by omega) (by omega), ?_, rfl⟩)
  rw [show (1 : Int32).toNatClampNeg = 1 from rfl, hd.2.2.2]; rfl
theorem m_dturn {h : zH} (hd : DM h t f sh sq) {k c i : Nat} (hc : c ≤ 3) (hi : i ≤ 900) : R_X8_turns [.ref 42, .int (nI k), .int (nI c), .int (nI i)] h (some (.int (tuV t f sq k c i))) h := by
  refine r_X8_turns _ _ _ _ _ _ ⟨_, rfl⟩ (t_X8_turns_0 _ _ _ _ _ ⟨_, _, m_bent hd.1 (s := 0) (by omega) hc hi, ?_, rfl⟩)
  rw [hd.2.2.2]; rfl
theorem c_floorMod {h : zH} (x : Int32) : R_J9_floorMod_7cf53 [.int x, .int 3600] h (some (.int (nI (x.toInt % 3600).toNat))) h := by
  obtain ⟨r1, r2⟩ := rem_val x
  have hr := rem36 x
  refine r_J9_floorMod_7cf53 _ _ _ _ _ ⟨_, rfl⟩ (t_J9_floorMod_7cf53_0 _ _ _ _ ⟨by decide, ?_⟩)
  rw [xor_sign]
  refine ⟨fun z => ⟨?_, rfl⟩, fun z => ⟨fun z2 => ⟨?_, rfl⟩, fun z2 => ⟨?_, rfl⟩⟩⟩
  · rw [r1]
    rw [Int32.le_iff_toInt_le, hr, show (0 : Int32).toInt = 0 from rfl]
    exact Int.tmod_nonneg 3600 (Int32.le_iff_toInt_le.mp z)
  · rw [r1 (by rw [z2]; decide)]
  · rw [r2]
    intro z3
    rw [Int32.le_iff_toInt_le, hr, show (0 : Int32).toInt = 0 from rfl] at z3
    rw [Int32.le_iff_toInt_le, show (0 : Int32).toInt = 0 from rfl] at z
    have h0 := Int.tmod_nonneg (a := -x.toInt) 3600 (by omega)
    rw [Int.neg_tmod] at h0
    refine z2 (Int32.toInt_inj.mp ?_)
    rw [hr, show (0 : Int32).toInt = 0 from rfl]; omega
theorem c_fromSun {h : zH} (hd : DC h t f sh sq) {k c i : Nat} (hc : c ≤ 3) (hi : i ≤ 900) : R_X3_fromSun [.ref 26, .int (nI k), .int (nI c), .int (nI i)] h (some (.int (nI (fsN (tuV t f sq k c i))))) h := by
  refine r_X3_fromSun _ _ _ _ _ _ ⟨_, rfl⟩ (t_X3_fromSun_0 _ _ _ _ _ ⟨_, _, c_dturn hd hc hi, _, _, c_floorMod _, ?_⟩)
  exact fs_fold (em_bd _) (B := fun v => some (Value.int v) = some (Value.int (nI (fsN (tuV t f sq k c i)))) ∧ h = h) ⟨rfl, rfl⟩
theorem m_from {h : zH} (hd : DM h t f sh sq) {k c i : Nat} (hc : c ≤ 3) (hi : i ≤ 900) : R_X8_from [.ref 42, .int (nI k), .int (nI c), .int (nI i)] h (some (.int (nI (fsN (tuV t f sq k c i))))) h := by
  obtain ⟨r1, r2⟩ := rem_val (tuV t f sq k c i)
  refine r_X8_from _ _ _ _ _ _ ⟨_, rfl⟩ (t_X8_from_0 _ _ _ _ _ ⟨_, _, m_dturn hd hc hi, by decide, fun z => ?_, fun z => ?_⟩)
  · rw [r1 z]
    exact fs_fold (em_bd _) (B := fun v => some (Value.int v) = some (Value.int (nI (fsN (tuV t f sq k c i)))) ∧ h = h) ⟨rfl, rfl⟩
  · rw [r2 z]
    exact fs_fold (em_bd _) (B := fun v => some (Value.int v) = some (Value.int (nI (fsN (tuV t f sq k c i)))) ∧ h = h) ⟨rfl, rfl⟩
theorem c_lightIn {h : zH} {i : Nat} (hi : i ≤ 900) : R_X3_lightIn [.ref 26, .int (nI i)] h (some (.int (nI (liN i)))) h := by
  refine r_X3_lightIn _ _ _ _ ⟨_, rfl⟩ (t_X3_lightIn_0 _ _ _ ⟨?_, rfl⟩)
  rw [li_val hi]
theorem c_thrownBack {h : zH} (hd : DC h t f sh sq) {x : Nat} (hx : x ≤ 810000) : R_X3_thrownBack [.ref 26, .int (nI x)] h (some (.int (nI (x * sh / 100)))) h := by
  refine r_X3_thrownBack _ _ _ _ ⟨_, rfl⟩ (t_X3_thrownBack_0 _ _ _ ⟨vp_in_nI (n := 2) (by omega) (by omega), by decide, ?_, rfl⟩)
  rw [show (2 : Int32).toNatClampNeg = 2 from rfl, hd.2.2.1, tb_val hx hd.2.1]
theorem c_lightOut {h : zH} (hd : DC h t f sh sq) {k i : Nat} (hk : k ≤ 5) (hi : i ≤ 900) : R_X3_lightOut [.ref 26, .int (nI k), .int (nI i)] h (some (.int (nI (ouN sh k i)))) h := by
  have hl := liN_le hi
  have hs := sh_le (x := liN i) hd.2.1
  refine r_X3_lightOut _ _ _ _ _ ⟨_, rfl⟩ (t_X3_lightOut_0 _ _ _ _ ⟨_, _, c_lightIn hi, _, _, c_thrownBack hd hl, ?_⟩)
  rw [pk_sub hs]
  have key : ∀ (d j : Nat), j + d = k → zG M_X3_lightOut (fun r1 h1 => r1 = some (.int (nI (ouN sh k i))) ∧ h1 = h) (zat M_X3_lightOut 17) [some (.ref 26), some (.int (nI k)), some (.int (nI i)), some (.int (nI (itN sh (liN i - liN i * sh / 100) j))), some (.int (nI j))] [] h := by
    intro d
    induction d with
    | zero =>
      intro j hj
      have : j = k := by omega
      subst this
      have h2 := itN_le (x := liN i - liN i * sh / 100) hd.2.1 j
      refine t_X3_lightOut_17 _ _ _ _ _ _ ⟨fun _ => ⟨_, _, c_thrownBack hd (by omega), ?_, rfl⟩, fun z => absurd (nI_le (Nat.le_refl _) (by omega)) z⟩
      rw [pk_sub (sh_le hd.2.1)]; rfl
    | succ d ih =>
      intro j hj
      have h2 := itN_le (x := liN i - liN i * sh / 100) hd.2.1 j
      refine t_X3_lightOut_17 _ _ _ _ _ _ ⟨fun z => ?_, fun _ => ⟨_, _, c_thrownBack hd (by omega), ?_⟩⟩
      · rw [nI_leI (by omega) (by omega)] at z; omega
      · rw [nI_1]; exact ih (j + 1) (by omega)
  exact key k 0 (by omega)
theorem m_out {h : zH} (hd : DM h t f sh sq) {k i : Nat} (hk : k ≤ 5) (hi : i ≤ 900) : R_X8_out [.ref 42, .int (nI k), .int (nI i)] h (some (.int (nI (ouN sh k i)))) h := by
  have hl := liN_le hi
  have hs := sh_le (x := liN i) hd.2.1
  refine r_X8_out _ _ _ _ _ ⟨_, rfl⟩ (t_X8_out_0 _ _ _ _ ⟨by decide, ?_⟩)
  rw [li_val hi, hd.2.2.1, tb_val hl hd.2.1, pk_sub hs]
  have key : ∀ (d j : Nat), j + d = k → zG M_X8_out (fun r1 h1 => r1 = some (.int (nI (ouN sh k i))) ∧ h1 = h) (zat M_X8_out 23) [some (.ref 42), some (.int (nI k)), some (.int (nI i)), some (.int (nI (itN sh (liN i - liN i * sh / 100) j))), some (.int (nI j))] [] h := by
    intro d
    induction d with
    | zero =>
      intro j hj
      have : j = k := by omega
      subst this
      have h2 := itN_le (x := liN i - liN i * sh / 100) hd.2.1 j
      refine t_X8_out_23 _ _ _ _ _ _ ⟨fun _ => ⟨by decide, ?_, rfl⟩, fun z => absurd (nI_le (Nat.le_refl _) (by omega)) z⟩
      rw [hd.2.2.1, tb_val (by omega) hd.2.1, pk_sub (sh_le hd.2.1)]; rfl
    | succ d ih =>
      intro j hj
      have h2 := itN_le (x := liN i - liN i * sh / 100) hd.2.1 j
      refine t_X8_out_23 _ _ _ _ _ _ ⟨fun z => ?_, fun _ => ⟨by decide, ?_⟩⟩
      · rw [nI_leI (by omega) (by omega)] at z; omega
      · rw [nI_1, hd.2.2.1, tb_val (by omega) hd.2.1]; exact ih (j + 1) (by omega)
  exact key k 0 (by omega)
/-! maps: the first n rays -/
def skN (t : Nat → Nat) (f sh : Nat) (sq : Int32) (k c : Nat) : Nat → Nat → Nat
  | 0, _ => 0
  | n + 1, d => skN t f sh sq k c n d + (if fsN (tuV t f sq k c (5 * n)) / 10 = d then ouN sh k (5 * n) else 0)
theorem skN_s (t : Nat → Nat) (f sh : Nat) (sq : Int32) (k c n d : Nat) : skN t f sh sq k c (n + 1) d = skN t f sh sq k c n d + (if fsN (tuV t f sq k c (5 * n)) / 10 = d then ouN sh k (5 * n) else 0) := rfl
theorem skN_le (hs : sh ≤ 100) {k c : Nat} : ∀ n, n ≤ 181 → ∀ d, skN t f sh sq k c n d ≤ 810000 * n
  | 0, _, d => by simp [skN]
  | n + 1, hn, d => by
    have ih := skN_le hs (k := k) (c := c) n (by omega) d
    have h1 := ouN_le (k := k) hs (i := 5 * n) (by omega)
    rw [skN_s]
    split <;> omega
theorem zl_ne {h : zH} {k j a b : Nat} {x : Int64} (hn : a ≠ k) : (zsl h k j x).2 a b = h.2 a b := by simp [zsl, hn]
theorem zl_nj {h : zH} {k j a b : Nat} {x : Int64} (hn : b ≠ j) : (zsl h k j x).2 a b = h.2 a b := by simp [zsl, hn]
theorem zl_eq {h : zH} {k j : Nat} {x : Int64} : (zsl h k j x).2 k j = x := by simp [zsl]
theorem zl_1 {h : zH} {k j : Nat} {x : Int64} : (zsl h k j x).1 = h.1 := rfl
/-- only the row r of the longs has changed -/
def FrL (r : Nat) (h h' : zH) : Prop := h'.1 = h.1 ∧ ∀ a, a ≠ r → ∀ b, h'.2 a b = h.2 a b
theorem FrL.rf {r : Nat} {h : zH} : FrL r h h := ⟨rfl, fun _ _ _ => rfl⟩
theorem FrL.sl {r : Nat} {h h' : zH} (hf : FrL r h h') (j : Nat) (x : Int64) : FrL r h (zsl h' r j x) := ⟨hf.1, fun a ha b => by rw [zl_ne ha]; exact hf.2 a ha b⟩
/-- the place of most light among the first n, the lowest -/
def agN (S : Nat → Nat) : Nat → Nat
  | 0 => 0
  | 1 => 0
  | n + 2 => if S (agN S (n + 1)) < S (n + 1) then n + 1 else agN S (n + 1)
theorem agN_s (S : Nat → Nat) (n : Nat) (hn : 1 ≤ n) : agN S (n + 1) = if S (agN S n) < S n then n else agN S n := by
  obtain ⟨m, rfl⟩ : ∃ m, n = m + 1 := ⟨n - 1, by omega⟩
  rfl
theorem agN_lt (S : Nat → Nat) : ∀ n, 1 ≤ n → agN S n < n
  | 0, h => by omega
  | 1, _ => by simp [agN]
  | n + 2, _ => by
    have := agN_lt S (n + 1) (by omega)
    unfold agN
    split <;> omega
def bwV (S : Nat → Nat) : Int32 := if 0 < S (agN S 181) then nI (agN S 181) else -4
theorem c_filla {h : zH} : ∃ h', R_J7_fill_d0a16 [.ref 27, .long 0] h none h' ∧ FrL 27 h h' ∧ ∀ d, d < 181 → h'.2 27 d = lN 0 := by
  have key : ∀ (m i : Nat) (h1 : zH), i + m = 181 → FrL 27 h h1 → (∀ d, d < i → h1.2 27 d = lN 0) → ∃ h', zG M_J7_fill_d0a16 (fun r1 h2 => r1 = none ∧ h2 = h') (zat M_J7_fill_d0a16 6) [some (.ref 27), some (.long 0), none, some (.int (nI i)), some (.int 181)] [] h1 ∧ FrL 27 h h' ∧ ∀ d, d < 181 → h'.2 27 d = lN 0 := by
    intro m
    induction m with
    | zero =>
      intro i h1 hi hf hd
      have : i = 181 := by omega
      subst this
      exact ⟨h1, t_J7_fill_d0a16a_6 _ _ _ _ _ ⟨fun _ => ⟨rfl, rfl⟩, fun z => absurd (by decide) z⟩, hf, hd⟩
    | succ m ih =>
      intro i h1 hi hf hd
      obtain ⟨h', g1, g2⟩ := ih (i + 1) (zsl h1 27 i 0) (by omega) (hf.sl _ _) (fun d hd2 => by
        by_cases e : d = i
        · subst e; rw [zl_eq]; rfl
        · rw [zl_nj e]; exact hd d (by omega))
      refine ⟨h', t_J7_fill_d0a16a_6 _ _ _ _ _ ⟨fun z => ?_, fun _ => ⟨vp_in_nI (by omega) (by omega), ?_⟩⟩, g2⟩
      · rw [q181, nI_leI (by omega) (by omega)] at z; omega
      · rw [nI_clamp (by omega), nI_1]; exact g1
  obtain ⟨h', g1, g2⟩ := key 181 0 h (by omega) FrL.rf (fun d hd => by omega)
  exact ⟨h', r_J7_fill_d0a16a _ _ _ _ rfl (t_J7_fill_d0a16a_0 _ _ _ g1), g2⟩
theorem c_fillSkya {h : zH} (hd : DC h t f sh sq) {k c : Nat} (hk : k ≤ 5) (hc : c ≤ 3) : ∃ h', R_X3_fillSky [.ref 26, .ref 27, .int (nI k), .int (nI c)] h none h' ∧ FrL 27 h h' ∧ ∀ d, d < 181 → h'.2 27 d = lN (skN t f sh sq k c 181 d) := by
  obtain ⟨h0, r0, f0, z0⟩ := c_filla (h := h)
  have key : ∀ (m n : Nat) (h1 : zH), n + m = 181 → FrL 27 h h1 → (∀ d, d < 181 → h1.2 27 d = lN (skN t f sh sq k c n d)) → ∃ h', zG M_X3_fillSky (fun r1 h2 => r1 = none ∧ h2 = h') (zat M_X3_fillSky 8) [some (.ref 26), some (.ref 27), some (.int (nI k)), some (.int (nI c)), some (.int (nI (5 * n)))] [] h1 ∧ FrL 27 h h' ∧ ∀ d, d < 181 → h'.2 27 d = lN (skN t f sh sq k c 181 d) := by
    intro m
    induction m with
    | zero =>
      intro n h1 hn hf hs
      have : n = 181 := by omega
      subst this
      exact ⟨h1, t_X3_fillSkya_8 _ _ _ _ _ ⟨fun _ => ⟨rfl, rfl⟩, fun z => absurd (by decide) z⟩, hf, hs⟩
    | succ m ih =>
      intro n h1 hn hf hs
      have hd1 := hd.of hf.1
      have hfs := fsN_le (tuV t f sq k c (5 * n))
      have hou := ouN_le (k := k) hd.2.1 (i := 5 * n) (by omega)
      have vp : vp_in (nI (fsN (tuV t f sq k c (5 * n)) / 10)) 181 := vp_in_nI (by omega) (by omega)
      obtain ⟨h', g1, g2⟩ := ih (n + 1) (zsl h1 27 (fsN (tuV t f sq k c (5 * n)) / 10) (lN (skN t f sh sq k c n (fsN (tuV t f sq k c (5 * n)) / 10) + ouN sh k (5 * n)))) (by omega) (hf.sl _ _) (fun d hd2 => by
        rw [skN_s]
        by_cases e : d = fsN (tuV t f sq k c (5 * n)) / 10
        · subst e; rw [zl_eq, if_pos rfl]
        · rw [zl_nj e, if_neg (Ne.symm e), Nat.add_zero]; exact hs d hd2)
      refine ⟨h', t_X3_fillSkya_8 _ _ _ _ _ ⟨fun z => ?_, fun _ => ⟨_, _, c_fromSun hd1 hc (by omega), by decide, ?_⟩⟩, g2⟩
      · rw [q900, nI_ltI (by omega) (by omega)] at z; omega
      rw [q10, pk_div (by omega) (by omega) (by omega), nI_clamp (by omega), q5, nI_add, show 5 * n + 5 = 5 * (n + 1) by omega]
      refine ⟨vp, _, _, c_lightOut hd1 hk (by omega), vp, ?_⟩
      rw [hs _ (by omega), nI_l (by omega), lN_add]
      exact g1
  obtain ⟨h', g1, g2⟩ := key 181 0 h0 (by omega) f0 (fun d hd => by rw [z0 d hd]; rfl)
  exact ⟨h', r_X3_fillSkya _ _ _ _ _ rfl (t_X3_fillSkya_0 _ _ _ _ ⟨_, r0, g1⟩), g2⟩
theorem c_brightesta {h : zH} {S : Nat → Nat} (hS : ∀ d, d < 181 → S d < 2 ^ 31 ∧ h.2 27 d = lN (S d)) : R_X3_brightest [.ref 26, .ref 27] h (some (.int (bwV S))) h := by
  refine r_X3_brightesta _ _ _ ⟨_, rfl⟩ (t_X3_brightesta_0 _ _ ?_)
  have key : ∀ (m n : Nat), 1 ≤ n → n + m = 181 → zG M_X3_brightest (fun r1 h1 => r1 = some (.int (bwV S)) ∧ h1 = h) (zat M_X3_brightest 4) [some (.ref 26), some (.ref 27), some (.int (nI (agN S n))), some (.int (nI n))] [] h := by
    intro m
    induction m with
    | zero =>
      intro n h1 hn
      have : n = 181 := by omega
      subst this
      have ha := agN_lt S 181 (by omega)
      obtain ⟨s1, s2⟩ := hS _ ha
      refine t_X3_brightesta_4 _ _ _ _ ⟨fun _ => ⟨vp_in_nI ha (by omega), ?_⟩, fun z => absurd (by decide) z⟩
      rw [nI_clamp (by omega), s2, lg_cmp_le, show (0 : Int64) = lN 0 from rfl, lN_le s1 (by omega)]
      refine ⟨fun z => ⟨?_, rfl⟩, fun z => ⟨?_, rfl⟩⟩
      · rw [bwV, if_neg (by omega)]
      · rw [bwV, if_pos (by omega)]
    | succ m ih =>
      intro n h1 hn
      have ha := agN_lt S n h1
      obtain ⟨s1, s2⟩ := hS (agN S n) (by omega)
      obtain ⟨s3, s4⟩ := hS n (by omega)
      have ih2 := ih (n + 1) (by omega) (by omega)
      rw [agN_s S n h1] at ih2
      refine t_X3_brightesta_4 _ _ _ _ ⟨fun z => ?_, fun _ => ⟨vp_in_nI (by omega) (by omega), vp_in_nI (by omega) (by omega), ?_⟩⟩
      · rw [q181, nI_leI (by omega) (by omega)] at z; omega
      rw [nI_clamp (by omega), nI_clamp (by omega), s2, s4, lg_cmp_le, lN_le s3 s1, nI_1]
      refine ⟨fun z => ?_, fun z => ?_⟩
      · rw [if_neg (by omega)] at ih2; exact ih2
      · rw [if_pos (by omega)] at ih2; exact ih2
  exact key 180 1 (by omega) (by omega)
theorem c_fillb {h : zH} : ∃ h', R_J7_fill_d0a16 [.ref 28, .long 0] h none h' ∧ FrL 28 h h' ∧ ∀ d, d < 181 → h'.2 28 d = lN 0 := by
  have key : ∀ (m i : Nat) (h1 : zH), i + m = 181 → FrL 28 h h1 → (∀ d, d < i → h1.2 28 d = lN 0) → ∃ h', zG M_J7_fill_d0a16 (fun r1 h2 => r1 = none ∧ h2 = h') (zat M_J7_fill_d0a16 6) [some (.ref 28), some (.long 0), none, some (.int (nI i)), some (.int 181)] [] h1 ∧ FrL 28 h h' ∧ ∀ d, d < 181 → h'.2 28 d = lN 0 := by
    intro m
    induction m with
    | zero =>
      intro i h1 hi hf hd
      have : i = 181 := by omega
      subst this
      exact ⟨h1, t_J7_fill_d0a16b_6 _ _ _ _ _ ⟨fun _ => ⟨rfl, rfl⟩, fun z => absurd (by decide) z⟩, hf, hd⟩
    | succ m ih =>
      intro i h1 hi hf hd
      obtain ⟨h', g1, g2⟩ := ih (i + 1) (zsl h1 28 i 0) (by omega) (hf.sl _ _) (fun d hd2 => by
        by_cases e : d = i
        · subst e; rw [zl_eq]; rfl
        · rw [zl_nj e]; exact hd d (by omega))
      refine ⟨h', t_J7_fill_d0a16b_6 _ _ _ _ _ ⟨fun z => ?_, fun _ => ⟨vp_in_nI (by omega) (by omega), ?_⟩⟩, g2⟩
      · rw [q181, nI_leI (by omega) (by omega)] at z; omega
      · rw [nI_clamp (by omega), nI_1]; exact g1
  obtain ⟨h', g1, g2⟩ := key 181 0 h (by omega) FrL.rf (fun d hd => by omega)
  exact ⟨h', r_J7_fill_d0a16b _ _ _ _ rfl (t_J7_fill_d0a16b_0 _ _ _ g1), g2⟩
theorem c_fillSkyb {h : zH} (hd : DC h t f sh sq) {k c : Nat} (hk : k ≤ 5) (hc : c ≤ 3) : ∃ h', R_X3_fillSky [.ref 26, .ref 28, .int (nI k), .int (nI c)] h none h' ∧ FrL 28 h h' ∧ ∀ d, d < 181 → h'.2 28 d = lN (skN t f sh sq k c 181 d) := by
  obtain ⟨h0, r0, f0, z0⟩ := c_fillb (h := h)
  have key : ∀ (m n : Nat) (h1 : zH), n + m = 181 → FrL 28 h h1 → (∀ d, d < 181 → h1.2 28 d = lN (skN t f sh sq k c n d)) → ∃ h', zG M_X3_fillSky (fun r1 h2 => r1 = none ∧ h2 = h') (zat M_X3_fillSky 8) [some (.ref 26), some (.ref 28), some (.int (nI k)), some (.int (nI c)), some (.int (nI (5 * n)))] [] h1 ∧ FrL 28 h h' ∧ ∀ d, d < 181 → h'.2 28 d = lN (skN t f sh sq k c 181 d) := by
    intro m
    induction m with
    | zero =>
      intro n h1 hn hf hs
      have : n = 181 := by omega
      subst this
      exact ⟨h1, t_X3_fillSkyb_8 _ _ _ _ _ ⟨fun _ => ⟨rfl, rfl⟩, fun z => absurd (by decide) z⟩, hf, hs⟩
    | succ m ih =>
      intro n h1 hn hf hs
      have hd1 := hd.of hf.1
      have hfs := fsN_le (tuV t f sq k c (5 * n))
      have hou := ouN_le (k := k) hd.2.1 (i := 5 * n) (by omega)
      have vp : vp_in (nI (fsN (tuV t f sq k c (5 * n)) / 10)) 181 := vp_in_nI (by omega) (by omega)
      obtain ⟨h', g1, g2⟩ := ih (n + 1) (zsl h1 28 (fsN (tuV t f sq k c (5 * n)) / 10) (lN (skN t f sh sq k c n (fsN (tuV t f sq k c (5 * n)) / 10) + ouN sh k (5 * n)))) (by omega) (hf.sl _ _) (fun d hd2 => by
        rw [skN_s]
        by_cases e : d = fsN (tuV t f sq k c (5 * n)) / 10
        · subst e; rw [zl_eq, if_pos rfl]
        · rw [zl_nj e, if_neg (Ne.symm e), Nat.add_zero]; exact hs d hd2)
      refine ⟨h', t_X3_fillSkyb_8 _ _ _ _ _ ⟨fun z => ?_, fun _ => ⟨_, _, c_fromSun hd1 hc (by omega), by decide, ?_⟩⟩, g2⟩
      · rw [q900, nI_ltI (by omega) (by omega)] at z; omega
      rw [q10, pk_div (by omega) (by omega) (by omega), nI_clamp (by omega), q5, nI_add, show 5 * n + 5 = 5 * (n + 1) by omega]
      refine ⟨vp, _, _, c_lightOut hd1 hk (by omega), vp, ?_⟩
      rw [hs _ (by omega), nI_l (by omega), lN_add]
      exact g1
  obtain ⟨h', g1, g2⟩ := key 181 0 h0 (by omega) f0 (fun d hd => by rw [z0 d hd]; rfl)
  exact ⟨h', r_X3_fillSkyb _ _ _ _ _ rfl (t_X3_fillSkyb_0 _ _ _ _ ⟨_, r0, g1⟩), g2⟩
theorem c_brightestb {h : zH} {S : Nat → Nat} (hS : ∀ d, d < 181 → S d < 2 ^ 31 ∧ h.2 28 d = lN (S d)) : R_X3_brightest [.ref 26, .ref 28] h (some (.int (bwV S))) h := by
  refine r_X3_brightestb _ _ _ ⟨_, rfl⟩ (t_X3_brightestb_0 _ _ ?_)
  have key : ∀ (m n : Nat), 1 ≤ n → n + m = 181 → zG M_X3_brightest (fun r1 h1 => r1 = some (.int (bwV S)) ∧ h1 = h) (zat M_X3_brightest 4) [some (.ref 26), some (.ref 28), some (.int (nI (agN S n))), some (.int (nI n))] [] h := by
    intro m
    induction m with
    | zero =>
      intro n h1 hn
      have : n = 181 := by omega
      subst this
      have ha := agN_lt S 181 (by omega)
      obtain ⟨s1, s2⟩ := hS _ ha
      refine t_X3_brightestb_4 _ _ _ _ ⟨fun _ => ⟨vp_in_nI ha (by omega), ?_⟩, fun z => absurd (by decide) z⟩
      rw [nI_clamp (by omega), s2, lg_cmp_le, show (0 : Int64) = lN 0 from rfl, lN_le s1 (by omega)]
      refine ⟨fun z => ⟨?_, rfl⟩, fun z => ⟨?_, rfl⟩⟩
      · rw [bwV, if_neg (by omega)]
      · rw [bwV, if_pos (by omega)]
    | succ m ih =>
      intro n h1 hn
      have ha := agN_lt S n h1
      obtain ⟨s1, s2⟩ := hS (agN S n) (by omega)
      obtain ⟨s3, s4⟩ := hS n (by omega)
      have ih2 := ih (n + 1) (by omega) (by omega)
      rw [agN_s S n h1] at ih2
      refine t_X3_brightestb_4 _ _ _ _ ⟨fun z => ?_, fun _ => ⟨vp_in_nI (by omega) (by omega), vp_in_nI (by omega) (by omega), ?_⟩⟩
      · rw [q181, nI_leI (by omega) (by omega)] at z; omega
      rw [nI_clamp (by omega), nI_clamp (by omega), s2, s4, lg_cmp_le, lN_le s3 s1, nI_1]
      refine ⟨fun z => ?_, fun z => ?_⟩
      · rw [if_neg (by omega)] at ih2; exact ih2
      · rw [if_pos (by omega)] at ih2; exact ih2
  exact key 180 1 (by omega) (by omega)
/-! the model's map -/
theorem m_layMap {h : zH} (hd : DM h t f sh sq) {k c : Nat} (hk : k ≤ 5) (hc : c ≤ 3) : ∃ h', R_X8_layMap [.ref 42, .int (nI k), .int (nI c)] h none h' ∧ FrL 54 h h' ∧ ∀ d, d < 181 → h'.2 54 d = lN (skN t f sh sq k c 181 d) := by
  have key : ∀ (m n : Nat) (h1 : zH), n + m = 181 → FrL 54 h h1 → (∀ d, d < 181 → h1.2 54 d = lN (skN t f sh sq k c n d)) → ∃ h', zG M_X8_layMap (fun r1 h2 => r1 = none ∧ h2 = h') (zat M_X8_layMap 24) [some (.ref 42), some (.int (nI k)), some (.int (nI c)), some (.int (nI (5 * n)))] [] h1 ∧ FrL 54 h h' ∧ ∀ d, d < 181 → h'.2 54 d = lN (skN t f sh sq k c 181 d) := by
    intro m
    induction m with
    | zero =>
      intro n h1 hn hf hs
      have : n = 181 := by omega
      subst this
      exact ⟨h1, t_X8_layMap_24 _ _ _ _ _ ⟨fun _ => ⟨rfl, rfl⟩, fun z => absurd (by decide) z⟩, hf, hs⟩
    | succ m ih =>
      intro n h1 hn hf hs
      have hd1 := hd.of hf.1
      have hfs := fsN_le (tuV t f sq k c (5 * n))
      have hou := ouN_le (k := k) hd.2.1 (i := 5 * n) (by omega)
      have vp : vp_in (nI (fsN (tuV t f sq k c (5 * n)) / 10)) 181 := vp_in_nI (by omega) (by omega)
      obtain ⟨h', g1, g2⟩ := ih (n + 1) (zsl h1 54 (fsN (tuV t f sq k c (5 * n)) / 10) (lN (skN t f sh sq k c n (fsN (tuV t f sq k c (5 * n)) / 10) + ouN sh k (5 * n)))) (by omega) (hf.sl _ _) (fun d hd2 => by
        rw [skN_s]
        by_cases e : d = fsN (tuV t f sq k c (5 * n)) / 10
        · subst e; rw [zl_eq, if_pos rfl]
        · rw [zl_nj e, if_neg (Ne.symm e), Nat.add_zero]; exact hs d hd2)
      refine ⟨h', t_X8_layMap_24 _ _ _ _ _ ⟨fun z => ?_, fun _ => ⟨_, _, m_from hd1 hc (by omega), by decide, ?_⟩⟩, g2⟩
      · rw [q900, nI_ltI (by omega) (by omega)] at z; omega
      rw [q10, pk_div (by omega) (by omega) (by omega), nI_clamp (by omega), q5, nI_add, show 5 * n + 5 = 5 * (n + 1) by omega]
      refine ⟨vp, _, _, m_out hd1 hk (by omega), vp, ?_⟩
      rw [hs _ (by omega), nI_l (by omega), lN_add]
      exact g1
  have zero : ∀ (m i : Nat) (h1 : zH), i + m = 181 → FrL 54 h h1 → (∀ d, d < i → h1.2 54 d = lN 0) → ∃ h', zG M_X8_layMap (fun r1 h2 => r1 = none ∧ h2 = h') (zat M_X8_layMap 2) [some (.ref 42), some (.int (nI k)), some (.int (nI c)), some (.int (nI i))] [] h1 ∧ FrL 54 h h' ∧ ∀ d, d < 181 → h'.2 54 d = lN (skN t f sh sq k c 181 d) := by
    intro m
    induction m with
    | zero =>
      intro i h1 hi hf hz
      have : i = 181 := by omega
      subst this
      obtain ⟨h', g1, g2⟩ := key 181 0 h1 (by omega) hf (fun d hd => by rw [hz d hd]; rfl)
      exact ⟨h', t_X8_layMap_2 _ _ _ _ _ ⟨fun _ => g1, fun z => absurd (by decide) z⟩, g2⟩
    | succ m ih =>
      intro i h1 hi hf hz
      obtain ⟨h', g1, g2⟩ := ih (i + 1) (zsl h1 54 i 0) (by omega) (hf.sl _ _) (fun d hd2 => by
        by_cases e : d = i
        · subst e; rw [zl_eq]; rfl
        · rw [zl_nj e]; exact hz d (by omega))
      refine ⟨h', t_X8_layMap_2 _ _ _ _ _ ⟨fun z => ?_, fun _ => ⟨vp_in_nI (by omega) (by omega), ?_⟩⟩, g2⟩
      · rw [q181, nI_leI (by omega) (by omega)] at z; omega
      · rw [nI_clamp (by omega), nI_1]; exact g1
  obtain ⟨h', g1, g2⟩ := zero 181 0 h (by omega) FrL.rf (fun d hd => by omega)
  exact ⟨h', r_X8_layMap _ _ _ _ _ rfl (t_X8_layMap_0 _ _ _ _ g1), g2⟩
theorem m_bowOf {h : zH} {S : Nat → Nat} (hS : ∀ d, d < 181 → S d < 2 ^ 31 ∧ h.2 54 d = lN (S d)) : R_X8_bowOf [.ref 42] h (some (.int (bwV S))) h := by
  refine r_X8_bowOf _ _ _ ⟨_, rfl⟩ (t_X8_bowOf_0 _ _ ?_)
  have key : ∀ (m n : Nat), 1 ≤ n → n + m = 181 → zG M_X8_bowOf (fun r1 h1 => r1 = some (.int (bwV S)) ∧ h1 = h) (zat M_X8_bowOf 4) [some (.ref 42), some (.int (nI (agN S n))), some (.int (nI n))] [] h := by
    intro m
    induction m with
    | zero =>
      intro n h1 hn
      have : n = 181 := by omega
      subst this
      have ha := agN_lt S 181 (by omega)
      obtain ⟨s1, s2⟩ := hS _ ha
      refine t_X8_bowOf_4 _ _ _ _ ⟨fun _ => ⟨vp_in_nI ha (by omega), ?_⟩, fun z => absurd (by decide) z⟩
      rw [nI_clamp (by omega), s2, lg_cmp_eq, show (0 : Int64) = lN 0 from rfl, lN_eq s1 (by omega)]
      refine ⟨fun z => ⟨?_, rfl⟩, fun z => ⟨?_, rfl⟩⟩
      · rw [bwV, if_pos (by omega)]
      · rw [bwV, if_neg (by omega)]
    | succ m ih =>
      intro n h1 hn
      have ha := agN_lt S n h1
      obtain ⟨s1, s2⟩ := hS (agN S n) (by omega)
      obtain ⟨s3, s4⟩ := hS n (by omega)
      have ih2 := ih (n + 1) (by omega) (by omega)
      rw [agN_s S n h1] at ih2
      refine t_X8_bowOf_4 _ _ _ _ ⟨fun z => ?_, fun _ => ⟨vp_in_nI (by omega) (by omega), vp_in_nI (by omega) (by omega), ?_⟩⟩
      · rw [q181, nI_leI (by omega) (by omega)] at z; omega
      rw [nI_clamp (by omega), nI_clamp (by omega), s2, s4, lg_cmp_le, lN_le s3 s1, nI_1]
      refine ⟨fun z => ?_, fun z => ?_⟩
      · rw [if_neg (by omega)] at ih2; exact ih2
      · rw [if_pos (by omega)] at ih2; exact ih2
  exact key 180 1 (by omega) (by omega)
end DR
