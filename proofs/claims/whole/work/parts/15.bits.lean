/-! ===== bits ===== -/
theorem sb_l : ∀ n, n < 32 → ((nI n &&& 31).toBitVec.smod 32).toNat = n := by decide +kernel
theorem n_and (a b : Nat) : nI a &&& nI b = nI (a &&& b) := by
  apply Int32.toBitVec_inj.1
  show BitVec.ofNat 32 a &&& BitVec.ofNat 32 b = BitVec.ofNat 32 (a &&& b)
  apply BitVec.eq_of_getLsbD_eq
  intro i hi
  simp [hi]
theorem n_or (a b : Nat) : nI a ||| nI b = nI (a ||| b) := by
  apply Int32.toBitVec_inj.1
  show BitVec.ofNat 32 a ||| BitVec.ofNat 32 b = BitVec.ofNat 32 (a ||| b)
  apply BitVec.eq_of_getLsbD_eq
  intro i hi
  simp [hi]
theorem n_xor (a b : Nat) : nI a ^^^ nI b = nI (a ^^^ b) := by
  apply Int32.toBitVec_inj.1
  show BitVec.ofNat 32 a ^^^ BitVec.ofNat 32 b = BitVec.ofNat 32 (a ^^^ b)
  apply BitVec.eq_of_getLsbD_eq
  intro i hi
  simp [hi]
theorem n_andnot (a b : Nat) : nI a &&& (nI b ^^^ (-1)) = nI (a ^^^ (a &&& b)) := by
  apply Int32.toBitVec_inj.1
  show BitVec.ofNat 32 a &&& (BitVec.ofNat 32 b ^^^ (-1#32)) = BitVec.ofNat 32 (a ^^^ (a &&& b))
  apply BitVec.eq_of_getLsbD_eq
  intro i hi
  have : (-1#32).getLsbD i = true := by
    rw [show (-1#32) = BitVec.allOnes 32 from rfl, BitVec.getLsbD_allOnes]
    simpa using hi
  rw [BitVec.getLsbD_and, BitVec.getLsbD_xor, this]
  simp only [BitVec.getLsbD_ofNat, hi, decide_true, Bool.true_and, Nat.testBit_xor, Nat.testBit_and]
  cases a.testBit i <;> cases b.testBit i <;> rfl
theorem n_or0 (x : Int32) : x ||| 0 = x := by
  apply Int32.toBitVec_inj.1
  show x.toBitVec ||| 0#32 = x.toBitVec
  simp
theorem n_bit {S m : Nat} (hS : S < 2 ^ 31) (hm : m < 32) : ((nI S >>> (nI m &&& 31)) &&& 1) = 1 ↔ S.testBit m = true := by
  rw [pk_shrN hS (nI m &&& 31) m (sb_l m hm), q1, n_and, Nat.and_one_is_mod, nI_eq (by omega) (by omega), Nat.testBit_eq_decide_div_mod_eq, decide_eq_true_eq]
theorem n_shl {m : Nat} (hm : m < 31) : (1 : Int32) <<< (nI m &&& 31) = nI (2 ^ m) := by
  have h2 : 2 ^ m < 2 ^ 32 := Nat.pow_lt_pow_right (by omega) (by omega)
  have := pk_shlN (n := 1) (nI m &&& 31) m (sb_l m (by omega)) (by omega)
  rw [Nat.one_mul] at this
  exact this
theorem n_all {n : Nat} (hn : n < 31) : (1 : Int32) <<< (nI n &&& 31) - 1 = nI (2 ^ n - 1) := by
  rw [n_shl hn, q1, pk_sub (Nat.pow_pos (by omega))]
/-- the bits below n that p says -/
def bm (p : Nat → Bool) : Nat → Nat
  | 0 => 0
  | n + 1 => bm p n ||| (if p n then 2 ^ n else 0)
theorem bm_bit (p : Nat → Bool) : ∀ n i, (bm p n).testBit i = (decide (i < n) && p i)
  | 0, i => by simp [bm]
  | n + 1, i => by
    rw [bm, Nat.testBit_or, bm_bit p n i]
    by_cases hi : i = n
    · subst hi
      by_cases hp : p i
      · simp [hp, Nat.testBit_two_pow_self]
      · simp [hp]
    · have : (if p n then 2 ^ n else 0).testBit i = false := by
        by_cases hp : p n
        · rw [if_pos hp]; exact Nat.testBit_two_pow_of_ne (Ne.symm hi)
        · rw [if_neg hp]; simp
      rw [this, Bool.or_false]
      congr 1
      rw [decide_eq_decide]; omega
theorem lt_of_bits {a n : Nat} (h : ∀ i, a.testBit i = true → i < n) : a < 2 ^ n := by
  apply Nat.lt_pow_two_of_testBit
  intro i hi
  cases hb : a.testBit i with
  | false => rfl
  | true => have := h i hb; omega
theorem bm_lt (p : Nat → Bool) (n : Nat) : bm p n < 2 ^ n := lt_of_bits (fun i hi => by rw [bm_bit] at hi; simp at hi; exact hi.1)
theorem bm_congr {p q : Nat → Bool} {n : Nat} (h : ∀ i, i < n → p i = q i) : bm p n = bm q n := by
  apply Nat.eq_of_testBit_eq
  intro i
  rw [bm_bit, bm_bit]
  by_cases hi : i < n
  · rw [h i hi]
  · simp [hi]
theorem all_bit (n i : Nat) : (2 ^ n - 1).testBit i = decide (i < n) := Nat.testBit_two_pow_sub_one n i
theorem p12 {n : Nat} (h : n ≤ 12) : 2 ^ n ≤ 4096 := Nat.pow_le_pow_right (n := 2) (by omega) h
theorem or_lt {a b n : Nat} (ha : a < 2 ^ n) (hb : b < 2 ^ n) : a ||| b < 2 ^ n := Nat.or_lt_two_pow ha hb
theorem an_bit (a b i : Nat) : (a ^^^ (a &&& b)).testBit i = (a.testBit i && !b.testBit i) := by
  rw [Nat.testBit_xor, Nat.testBit_and]
  cases a.testBit i <;> cases b.testBit i <;> rfl
theorem bit_lt {a n i : Nat} (ha : a < 2 ^ n) (h : a.testBit i = true) : i < n := by
  rcases Nat.lt_or_ge i n with q | q
  · exact q
  · rw [Nat.testBit_lt_two_pow (Nat.lt_of_lt_of_le ha (Nat.pow_le_pow_right (by omega) q))] at h
    cases h
theorem an_lt {a b n : Nat} (ha : a < 2 ^ n) : a ^^^ (a &&& b) < 2 ^ n := lt_of_bits (fun i hi => by
  rw [an_bit] at hi
  have : a.testBit i = true := by cases h : a.testBit i <;> simp_all
  exact bit_lt ha this)
