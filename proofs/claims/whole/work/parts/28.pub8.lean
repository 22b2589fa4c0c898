/-! ===== counts ===== -/
def pop (v : Nat) : Nat := ctN (fun i => v.testBit i) 16
def popE (v : Nat) : Nat := v % 2 + v / 2 % 2 + v / 4 % 2 + v / 8 % 2 + v / 16 % 2 + v / 32 % 2 + v / 64 % 2 + v / 128 % 2 + v / 256 % 2 + v / 512 % 2 + v / 1024 % 2 + v / 2048 % 2 + v / 4096 % 2 + v / 8192 % 2 + v / 16384 % 2 + v / 32768 % 2
theorem bit_if (v i : Nat) : (if v.testBit i then 1 else 0) = v / 2 ^ i % 2 := by
  rw [Nat.testBit_eq_decide_div_mod_eq]
  by_cases h : v / 2 ^ i % 2 = 1
  · simp [h]
  · simp [h]; omega
theorem pop_E (v : Nat) : pop v = popE v := by
  unfold pop popE
  simp only [ctN, bit_if, Nat.reducePow, Nat.div_one, Nat.zero_add]
def f1 (v : Nat) : Nat := v - (v / 2 &&& 1431655765)
def f2 (x : Nat) : Nat := (x &&& 858993459) + (x / 4 &&& 858993459)
def f3 (x : Nat) : Nat := x + x / 16 &&& 252645135
def f4 (x : Nat) : Nat := x + x / 256
def f5 (x : Nat) : Nat := x + x / 65536 &&& 63
theorem and_sp {x y m n : Nat} (hy : y < 256) (hn : n < 256) : (256 * x + y) &&& (256 * m + n) = 256 * (x &&& m) + (y &&& n) := by
  have h3 : y &&& n < 2 ^ 8 := Nat.and_lt_two_pow _ hn
  apply Nat.eq_of_testBit_eq
  intro j
  rw [Nat.testBit_and, show 256 = 2 ^ 8 from rfl, Nat.testBit_two_pow_mul_add _ (by exact hy), Nat.testBit_two_pow_mul_add _ (by exact hn), Nat.testBit_two_pow_mul_add _ h3]
  split <;> rw [Nat.testBit_and]
def g1 (a : Nat) : Nat := a - (a / 2 &&& 5592405)
def g2 (x : Nat) : Nat := (x &&& 3355443) + (x / 4 &&& 3355443)
def g3 (x : Nat) : Nat := x + x / 16 &&& 986895
def k1 (b : Nat) : Nat := b - (b / 2 &&& 85)
def k2 (y : Nat) : Nat := (y &&& 51) + (y / 4 &&& 51)
def k3 (y : Nat) : Nat := y + y / 16 &&& 15
theorem l_1 : ∀ b, b < 256 → ∀ c, c < 2 → (128 * c + b / 2) &&& 85 = b / 2 &&& 85 := by decide +kernel
theorem l_2 : ∀ b, b < 256 → ∀ c, c < 4 → (64 * c + b / 4) &&& 51 = b / 4 &&& 51 := by decide +kernel
theorem l_3 : ∀ b, b < 256 → g2 (g1 b) ≤ 68 ∧ k2 (k1 b) ≤ 68 ∧ g2 (g1 b) % 16 ≤ 4 ∧ g3 (g2 (g1 b)) = popE b ∧ k3 (k2 (k1 b)) = popE b ∧ popE b ≤ 8 ∧ k1 b < 256 := by decide +kernel
theorem e_1 {a b : Nat} (hb : b < 256) : f1 (256 * a + b) = 256 * g1 a + k1 b := by
  have l := l_1 b hb (a % 2) (by omega)
  have h1 : a / 2 &&& 5592405 ≤ a / 2 := Nat.and_le_left
  have h2 : b / 2 &&& 85 ≤ b / 2 := Nat.and_le_left
  have hd : (256 * a + b) / 2 = 256 * (a / 2) + (128 * (a % 2) + b / 2) := by omega
  unfold f1 g1 k1
  rw [hd, show 1431655765 = 256 * 5592405 + 85 from rfl, and_sp (by omega) (by omega), l]
  omega
theorem e_2 {a b : Nat} (hb : b < 256) : f2 (256 * a + b) = 256 * g2 a + k2 b := by
  have l := l_2 b hb (a % 4) (by omega)
  have hd : (256 * a + b) / 4 = 256 * (a / 4) + (64 * (a % 4) + b / 4) := by omega
  unfold f2 g2 k2
  rw [hd, show 858993459 = 256 * 3355443 + 51 from rfl, and_sp (by omega) (by omega), and_sp (by omega) (by omega), l]
  omega
theorem e_3 {a b : Nat} (hb : b ≤ 68) (ha : a % 16 ≤ 4) : f3 (256 * a + b) = 256 * g3 a + k3 b := by
  have hd : 256 * a + b + (256 * a + b) / 16 = 256 * (a + a / 16) + (16 * (a % 16) + (b + b / 16)) := by omega
  have m : ∀ x, x &&& 15 = x % 16 := fun x => Nat.and_two_pow_sub_one_eq_mod x 4
  unfold f3 g3 k3
  rw [hd, show 252645135 = 256 * 986895 + 15 from rfl, and_sp (by omega) (by omega), m, m]
  omega
theorem popE_sp {a b : Nat} (ha : a < 256) (hb : b < 256) : popE (256 * a + b) = popE a + popE b := by
  have h : ∀ x, x < 256 → popE x = x % 2 + x / 2 % 2 + x / 4 % 2 + x / 8 % 2 + x / 16 % 2 + x / 32 % 2 + x / 64 % 2 + x / 128 % 2 := fun x hx => by
    unfold popE
    have z : ∀ k, 256 ≤ k → x / k % 2 = 0 := fun k hk => by rw [Nat.div_eq_of_lt (by omega)]
    rw [z 256 (by omega), z 512 (by omega), z 1024 (by omega), z 2048 (by omega), z 4096 (by omega), z 8192 (by omega), z 16384 (by omega), z 32768 (by omega)]
    simp only [Nat.add_zero]
  rw [h a ha, h b hb]
  unfold popE
  rw [show (256 * a + b) % 2 = b % 2 by omega, show (256 * a + b) / 2 % 2 = b / 2 % 2 by omega, show (256 * a + b) / 4 % 2 = b / 4 % 2 by omega, show (256 * a + b) / 8 % 2 = b / 8 % 2 by omega, show (256 * a + b) / 16 % 2 = b / 16 % 2 by omega, show (256 * a + b) / 32 % 2 = b / 32 % 2 by omega, show (256 * a + b) / 64 % 2 = b / 64 % 2 by omega, show (256 * a + b) / 128 % 2 = b / 128 % 2 by omega, show (256 * a + b) / 256 = a by omega, show (256 * a + b) / 512 = a / 2 by omega, show (256 * a + b) / 1024 = a / 4 by omega, show (256 * a + b) / 2048 = a / 8 by omega, show (256 * a + b) / 4096 = a / 16 by omega, show (256 * a + b) / 8192 = a / 32 by omega, show (256 * a + b) / 16384 = a / 64 by omega, show (256 * a + b) / 32768 = a / 128 by omega]
  generalize b % 2 = y0; generalize b / 2 % 2 = y1; generalize b / 4 % 2 = y2; generalize b / 8 % 2 = y3; generalize b / 16 % 2 = y4; generalize b / 32 % 2 = y5; generalize b / 64 % 2 = y6; generalize b / 128 % 2 = y7
  generalize a % 2 = z0; generalize a / 2 % 2 = z1; generalize a / 4 % 2 = z2; generalize a / 8 % 2 = z3; generalize a / 16 % 2 = z4; generalize a / 32 % 2 = z5; generalize a / 64 % 2 = z6; generalize a / 128 % 2 = z7
  omega
theorem pc_all {v : Nat} (hv : v < 65536) : f5 (f4 (f3 (f2 (f1 v)))) = popE v := by
  obtain ⟨a, b, ha, hb, rfl⟩ : ∃ a b, a < 256 ∧ b < 256 ∧ v = 256 * a + b := ⟨v / 256, v % 256, by omega, by omega, by omega⟩
  obtain ⟨-, -, x3, x4, -, x6, -⟩ := l_3 a ha
  obtain ⟨-, y2, -, -, y5, y6, y7⟩ := l_3 b hb
  have m : ∀ x, x &&& 63 = x % 64 := fun x => Nat.and_two_pow_sub_one_eq_mod x 6
  rw [popE_sp ha hb, e_1 hb, e_2 y7, e_3 y2 x3, x4, y5]
  generalize popE a = A at *
  generalize popE b = B at *
  unfold f5 f4
  have h1 : (256 * A + B) / 256 = A := by omega
  have h2 : (256 * A + B + A) / 65536 = 0 := by omega
  rw [m, h1, h2]
  omega
def pp : Nat → Nat → Nat
  | 0, _ => 0
  | n + 1, v => v % 2 + pp n (v / 2)
theorem pp_E (v : Nat) : popE v = pp 16 v := by
  simp only [pp, popE, Nat.div_div_eq_div_mul, Nat.reduceMul]
  omega
theorem pp_k : ∀ (n v : Nat), v < 2 ^ n → v ≠ 0 → pp n (v &&& (v - 1)) + 1 = pp n v
  | 0, v, h, h0 => by omega
  | n + 1, v, h, h0 => by
    have e : (v &&& (v - 1)) / 2 = v / 2 &&& (v - 1) / 2 := by
      have := Nat.and_div_two_pow (a := v) (b := v - 1) (n := 1)
      simpa using this
    have e0 : (v &&& (v - 1)) % 2 = 0 := by
      have : (v &&& (v - 1)).testBit 0 = false := by
        rw [Nat.testBit_and, Nat.testBit_zero, Nat.testBit_zero]
        rcases (by omega : v % 2 = 0 ∨ v % 2 = 1) with q | q
        · simp [q]
        · simp; omega
      rw [Nat.testBit_zero] at this
      have := of_decide_eq_false this
      omega
    rw [pp, pp, e, e0]
    rw [Nat.pow_succ] at h
    rcases (by omega : v % 2 = 0 ∨ v % 2 = 1) with q | q
    · have := pp_k n (v / 2) (by omega) (by omega)
      rw [show (v - 1) / 2 = v / 2 - 1 by omega]; omega
    · rw [show (v - 1) / 2 = v / 2 by omega, Nat.and_self]; omega
theorem pop_k {v : Nat} (hv : v < 65536) (h0 : v ≠ 0) : pop (v &&& (v - 1)) + 1 = pop v := by
  rw [pop_E, pop_E, pp_E, pp_E]; exact pp_k 16 v hv h0
theorem pop_0 : pop 0 = 0 := by decide +kernel
theorem pop_le (v : Nat) : pop v ≤ 16 := ctN_le _ _
theorem s_1 {v : Nat} (h : v < 65536) : nI v - (((nI v).toUInt32 >>> ((1 : Int32).toUInt32 &&& Int32.toUInt32 31)).toInt32 &&& 1431655765) = nI (f1 v) := by
  have hl : (v / 2 &&& 1431655765) ≤ v / 2 := Nat.and_le_left
  rw [pk_ushrN (by omega) 1 1 rfl, show (1431655765 : Int32) = nI 1431655765 from rfl, n_and, Nat.pow_one, pk_sub (by omega)]; rfl
theorem s_2 {v : Nat} (h : v < 65536) : (nI v &&& 858993459) + (((nI v).toUInt32 >>> ((2 : Int32).toUInt32 &&& Int32.toUInt32 31)).toInt32 &&& 858993459) = nI (f2 v) := by
  rw [pk_ushrN (by omega) 2 2 rfl, show (858993459 : Int32) = nI 858993459 from rfl, n_and, n_and, nI_add]; rfl
theorem s_3 {v : Nat} (h : v < 200000) : (nI v + ((nI v).toUInt32 >>> ((4 : Int32).toUInt32 &&& Int32.toUInt32 31)).toInt32) &&& 252645135 = nI (f3 v) := by
  rw [pk_ushrN (by omega) 4 4 rfl, show (252645135 : Int32) = nI 252645135 from rfl, nI_add, n_and]; rfl
theorem s_4 {v : Nat} (h : v < 400000) : nI v + ((nI v).toUInt32 >>> ((8 : Int32).toUInt32 &&& Int32.toUInt32 31)).toInt32 = nI (f4 v) := by
  rw [pk_ushrN (by omega) 8 8 rfl, nI_add]; rfl
theorem s_5 {v : Nat} (h : v < 900000) : (nI v + ((nI v).toUInt32 >>> ((16 : Int32).toUInt32 &&& Int32.toUInt32 31)).toInt32) &&& 63 = nI (f5 v) := by
  rw [pk_ushrN (by omega) 16 16 rfl, show (63 : Int32) = nI 63 from rfl, nI_add, n_and]; rfl
theorem c_bitCount {h : zH} {v : Nat} (hv : v < 65536) : R_J6_bitCount_0f7a4 [.int (nI v)] h (some (.int (nI (pop v)))) h := by
  refine r_J6_bitCount_0f7a4 _ _ _ _ ⟨_, rfl⟩ (t_J6_bitCount_0f7a4_0 _ _ _ ⟨?_, rfl⟩)
  have b1 : f1 v < 65536 := by unfold f1; omega
  have b2 : f2 (f1 v) < 200000 := by
    have x1 : (f1 v &&& 858993459) ≤ f1 v := Nat.and_le_left
    have x2 : (f1 v / 4 &&& 858993459) ≤ f1 v / 4 := Nat.and_le_left
    unfold f2; omega
  have b3 : f3 (f2 (f1 v)) < 400000 := by
    have x1 : (f2 (f1 v) + f2 (f1 v) / 16 &&& 252645135) ≤ f2 (f1 v) + f2 (f1 v) / 16 := Nat.and_le_left
    unfold f3; omega
  have b4 : f4 (f3 (f2 (f1 v))) < 900000 := by unfold f4; omega
  rw [s_1 hv, s_2 b1, s_3 b2, s_4 b3, s_5 b4]
  rw [pc_all hv, pop_E]
theorem m_bits {h : zH} {v : Nat} (hv : v < 65536) : R_X8_bits [.int (nI v)] h (some (.int (nI (pop v)))) h := by
  refine r_X8_bits _ _ _ _ ⟨_, rfl⟩ (t_X8_bits_0 _ _ _ ?_)
  have key : ∀ (m c k : Nat), pop k ≤ m → k < 65536 → c + pop k = pop v → zG M_X8_bits (fun r1 h1 => r1 = some (.int (nI (pop v))) ∧ h1 = h) (zat M_X8_bits 4) [some (.int (nI v)), some (.int (nI c)), some (.int (nI k))] [] h := by
    intro m
    induction m with
    | zero =>
      intro c k hm hk hc
      by_cases h0 : k = 0
      · subst h0
        rw [pop_0] at hc
        exact t_X8_bits_4 _ _ _ _ _ ⟨fun _ => ⟨by rw [← hc, Nat.add_zero], rfl⟩, fun z => absurd rfl z⟩
      · have := pop_k hk h0; omega
    | succ m ih =>
      intro c k hm hk hc
      by_cases h0 : k = 0
      · subst h0
        rw [pop_0] at hc
        exact t_X8_bits_4 _ _ _ _ _ ⟨fun _ => ⟨by rw [← hc, Nat.add_zero], rfl⟩, fun z => absurd rfl z⟩
      · have hp := pop_k hk h0
        have hz : ¬ nI k = 0 := by rw [nI_z (by omega)]; exact h0
        have hl : k &&& (k - 1) ≤ k := Nat.and_le_left
        refine t_X8_bits_4 _ _ _ _ _ ⟨fun z => absurd z hz, fun _ => ?_⟩
        rw [nI_1, q1, pk_sub (by omega), n_and]
        exact ih _ _ (by omega) (by omega) (by omega)
  exact key (pop v) 0 v (Nat.le_refl _) hv (by omega)
theorem c_wedgesInAll {h : zH} : R_X6_wedgesInAll [.ref 1] h (some (.int (h.1 5 0 + h.1 5 1 + h.1 5 2 + h.1 5 3))) h := by
  have z1 : ∀ (i : Nat), i < 4 → vp_in (nI i) 4 := fun i hi => vp_in_nI hi (by omega)
  refine r_X6_wedgesInAll _ _ _ ⟨_, rfl⟩ (t_X6_wedgesInAll_0 _ _ (t_X6_wedgesInAll_4 _ _ _ _ ⟨fun z => absurd z (by decide), fun _ => ⟨z1 0 (by omega), t_X6_wedgesInAll_4 _ _ _ _ ⟨fun z => absurd z (by decide), fun _ => ⟨z1 1 (by omega), t_X6_wedgesInAll_4 _ _ _ _ ⟨fun z => absurd z (by decide), fun _ => ⟨z1 2 (by omega), t_X6_wedgesInAll_4 _ _ _ _ ⟨fun z => absurd z (by decide), fun _ => ⟨z1 3 (by omega), t_X6_wedgesInAll_4 _ _ _ _ ⟨fun _ => ⟨?_, rfl⟩, fun z => absurd (by decide) z⟩⟩⟩⟩⟩⟩⟩⟩⟩))
  congr 2
  show 0 + h.1 5 0 + h.1 5 1 + h.1 5 2 + h.1 5 3 = _
  rw [Int32.zero_add]
theorem c_placesTold {h : zH} (v : Int32) : R_X0_placesTold [.ref 35, .int v] h (some (.int (nI (bm (fun p => decide (h.1 36 p = v)) 12)))) h := by
  refine r_X0_placesTold _ _ _ _ ⟨_, rfl⟩ (t_X0_placesTold_0 _ _ _ ?_)
  have key : ∀ (m i : Nat), i + m = 12 → zG M_X0_placesTold (fun r1 h1 => r1 = some (.int (nI (bm (fun p => decide (h.1 36 p = v)) 12))) ∧ h1 = h) (zat M_X0_placesTold 4) [some (.ref 35), some (.int v), some (.int (nI (bm (fun p => decide (h.1 36 p = v)) i))), some (.int (nI i))] [] h := by
    intro m
    induction m with
    | zero =>
      intro i hi
      have : i = 12 := by omega
      subst this
      exact t_X0_placesTold_4 _ _ _ _ _ ⟨fun _ => ⟨rfl, rfl⟩, fun z => absurd (nI_le (a := 12) (b := 12) (by omega) (by omega)) z⟩
    | succ m ih =>
      intro i hi
      have ih2 := ih (i + 1) (by omega)
      rw [show bm (fun p => decide (h.1 36 p = v)) (i + 1) = bm (fun p => decide (h.1 36 p = v)) i ||| (if decide (h.1 36 i = v) then 2 ^ i else 0) from rfl] at ih2
      refine t_X0_placesTold_4 _ _ _ _ _ ⟨fun z => ?_, fun _ => ⟨vp_in_nI (by omega) (by omega), ?_⟩⟩
      · rw [q12, nI_leI (by omega) (by omega)] at z; omega
      rw [nI_clamp (by omega), nI_1, n_shl (by omega), n_or]
      refine ⟨fun z => ?_, fun z => ?_⟩
      · rw [if_neg (by simpa using z), Nat.or_zero] at ih2; exact ih2
      · rw [if_pos (by simpa using z)] at ih2; exact ih2
  exact key 12 0 (by omega)
/-- the bits seen on any of the first days -/
def orN (g : Nat → Nat) : Nat → Nat
  | 0 => 0
  | n + 1 => orN g n ||| g n
theorem orN_lt {g : Nat → Nat} {b : Nat} : ∀ {n : Nat}, (∀ i, i < n → g i < 2 ^ b) → orN g n < 2 ^ b
  | 0, _ => Nat.pow_pos (by omega)
  | n + 1, h => or_lt (orN_lt (fun i hi => h i (by omega))) (h n (by omega))
theorem c_causesSeen {h : zH} {nd : Nat} {g : Nat → Nat} (hn : nd ≤ 60) (h0 : h.1 38 3 = nI nd) (hg : ∀ d, d < 60 → h.1 41 d = nI (g d)) : R_X1_causesSeen [.ref 38] h (some (.int (nI (orN g nd)))) h := by
  refine r_X1_causesSeen _ _ _ ⟨_, rfl⟩ (t_X1_causesSeen_0 _ _ ?_)
  have key : ∀ (m i : Nat), i + m = nd → zG M_X1_causesSeen (fun r1 h1 => r1 = some (.int (nI (orN g nd))) ∧ h1 = h) (zat M_X1_causesSeen 4) [some (.ref 38), some (.int (nI (orN g i))), some (.int (nI i))] [] h := by
    intro m
    induction m with
    | zero =>
      intro i hi
      have : i = nd := by omega
      subst this
      refine t_X1_causesSeen_4 _ _ _ _ ⟨fun _ => ⟨rfl, rfl⟩, fun z => absurd ?_ z⟩
      rw [h0]; exact nI_le (Nat.le_refl _) (by omega)
    | succ m ih =>
      intro i hi
      refine t_X1_causesSeen_4 _ _ _ _ ⟨fun z => ?_, fun _ => ⟨vp_in_nI (by omega) (by omega), ?_⟩⟩
      · rw [h0, nI_leI (by omega) (by omega)] at z; omega
      rw [nI_clamp (by omega), nI_1, hg i (by omega), n_or]
      exact ih (i + 1) (by omega)
  exact key nd 0 (by omega)
theorem m_count5 {h : zH} {nd : Nat} {g : Nat → Nat} (x : Int32) (hn : nd ≤ 60) (h0 : h.1 42 14 = nI nd) (hg : ∀ d, d < 60 → h.1 53 d = nI (g d)) (hg2 : ∀ i, i < nd → g i < 2 ^ 16) : zG M_X8_count (fun r1 h1 => r1 = some (.int (nI (pop (orN g nd)))) ∧ h1 = h) (zat M_X8_count 118) [some (.ref 42), some (.int x), some (.int 0), some (.int 0)] [] h := by
  have key : ∀ (m i : Nat), i + m = nd → zG M_X8_count (fun r1 h1 => r1 = some (.int (nI (pop (orN g nd)))) ∧ h1 = h) (zat M_X8_count 118) [some (.ref 42), some (.int x), some (.int (nI (orN g i))), some (.int (nI i))] [] h := by
    intro m
    induction m with
    | zero =>
      intro i hi
      have : i = nd := by omega
      subst this
      refine t_X8_count_118 _ _ _ _ _ ⟨fun _ => ⟨_, _, m_bits (orN_lt hg2), rfl, rfl⟩, fun z => absurd ?_ z⟩
      rw [h0]; exact nI_le (Nat.le_refl _) (by omega)
    | succ m ih =>
      intro i hi
      refine t_X8_count_118 _ _ _ _ _ ⟨fun z => ?_, fun _ => ⟨vp_in_nI (by omega) (by omega), ?_⟩⟩
      · rw [h0, nI_leI (by omega) (by omega)] at z; omega
      rw [nI_clamp (by omega), nI_1, hg i (by omega), n_or]
      exact ih (i + 1) (by omega)
  exact key nd 0 (by omega)
theorem m_count4 {h : zH} (x : Int32) : zG M_X8_count (fun r1 h1 => r1 = some (.int (nI (ctN (fun p => decide (0 ≤ h.1 50 p)) 12))) ∧ h1 = h) (zat M_X8_count 85) [some (.ref 42), some (.int x), some (.int 0), some (.int 0)] [] h := by
  have key : ∀ (m i : Nat), i + m = 12 → zG M_X8_count (fun r1 h1 => r1 = some (.int (nI (ctN (fun p => decide (0 ≤ h.1 50 p)) 12))) ∧ h1 = h) (zat M_X8_count 85) [some (.ref 42), some (.int x), some (.int (nI (ctN (fun p => decide (0 ≤ h.1 50 p)) i))), some (.int (nI i))] [] h := by
    intro m
    induction m with
    | zero =>
      intro i hi
      have : i = 12 := by omega
      subst this
      exact t_X8_count_85 _ _ _ _ _ ⟨fun _ => ⟨rfl, rfl⟩, fun z => absurd (nI_le (a := 12) (b := 12) (by omega) (by omega)) z⟩
    | succ m ih =>
      intro i hi
      have ih2 := ih (i + 1) (by omega)
      rw [ctN_s _ i] at ih2
      refine t_X8_count_85 _ _ _ _ _ ⟨fun z => ?_, fun _ => ⟨vp_in_nI (by omega) (by omega), ?_⟩⟩
      · rw [q12, nI_leI (by omega) (by omega)] at z; omega
      rw [nI_clamp (by omega), nI_1, nI_1]
      refine ⟨fun z => ?_, fun z => ?_⟩
      · rw [if_pos (by simpa using z)] at ih2; exact ih2
      · rw [if_neg (by simpa using z)] at ih2; rw [q0', nI_add]; exact ih2
  exact key 12 0 (by omega)
theorem p_count {h : zH} (hi : Inv h) (a : Int32) : Pair R_X7_count R_X8_count [.int a] h := by
  obtain ⟨t, f, sh, sk, n, w, hs⟩ := hi.1
  obtain ⟨nd, d1, d2, d3, d4⟩ := hi.2.2.2.1
  obtain ⟨mk, nm, ⟨-, m1, -⟩, ⟨-, m2, -⟩⟩ := hi.2.1
  obtain ⟨kk, -, k1, k2, -⟩ := hi.2.2.2.2
  have hc : ∀ {r : Int32}, zG M_X7_count (fun r1 h1 => r1 = some (.int r) ∧ h1 = h) M_X7_count.1 [some (.ref 0), some (.int a)] [] h → R_X7_count [.ref 0, .int a] h (some (.int r)) h := fun g => r_X7_count _ _ _ _ ⟨_, rfl⟩ g
  have hm : ∀ {r : Int32}, zG M_X8_count (fun r1 h1 => r1 = some (.int r) ∧ h1 = h) M_X8_count.1 [some (.ref 42), some (.int a), none, none] [] h → R_X8_count [.ref 42, .int a] h (some (.int r)) h := fun g => r_X8_count _ _ _ _ ⟨_, rfl⟩ g
  by_cases h0 : a.toInt < 0 ∨ 5 < a.toInt
  · exact ⟨.int (-1), h, h, hc (t_X7_count_0 _ _ _ ⟨fun _ => ⟨rfl, rfl⟩, fun z => by omega, fun z => by omega, fun z => by omega, fun z => by omega, fun z => by omega, fun z => by omega, trivial⟩), hm (t_X8_count_0 _ _ _ ⟨fun _ => ⟨rfl, rfl⟩, fun z => by omega, fun z => by omega, fun z => by omega, fun z => by omega, fun z => by omega, fun z => by omega, trivial⟩), hi⟩
  rcases (by omega : a.toInt = 0 ∨ a.toInt = 1 ∨ a.toInt = 2 ∨ a.toInt = 3 ∨ a.toInt = 4 ∨ a.toInt = 5) with e | e | e | e | e | e
  · refine ⟨_, h, h, hc (t_X7_count_0 _ _ _ ⟨fun z => absurd z h0, fun _ => ⟨_, _, c_wedgesInAll, rfl, rfl⟩, fun z => by omega, fun z => by omega, fun z => by omega, fun z => by omega, fun z => by omega, trivial⟩), hm (t_X8_count_0 _ _ _ ⟨fun z => absurd z h0, fun _ => ⟨vp_in_nI (n := 0) (by omega) (by omega), vp_in_nI (n := 1) (by omega) (by omega), vp_in_nI (n := 2) (by omega) (by omega), vp_in_nI (n := 3) (by omega) (by omega), ?_, rfl⟩, fun z => by omega, fun z => by omega, fun z => by omega, fun z => by omega, fun z => by omega, trivial⟩), hi⟩
    have q := hs.2.2.2.2.2.2.2.2.2.2.1
    have e : ∀ k, k < 4 → h.1 44 k = h.1 5 k := fun k hk => by rw [(q k hk).2.1, (q k hk).2.2]
    show some (Value.int (h.1 44 0 + h.1 44 1 + h.1 44 2 + h.1 44 3)) = _
    rw [e 0 (by omega), e 1 (by omega), e 2 (by omega), e 3 (by omega)]
  · exact ⟨.int (nI nm), h, h, hc (t_X7_count_0 _ _ _ ⟨fun z => absurd z h0, fun z => by omega, fun _ => ⟨by rw [m1], rfl⟩, fun z => by omega, fun z => by omega, fun z => by omega, fun z => by omega, trivial⟩), hm (t_X8_count_0 _ _ _ ⟨fun z => absurd z h0, fun z => by omega, fun _ => ⟨by rw [m2], rfl⟩, fun z => by omega, fun z => by omega, fun z => by omega, fun z => by omega, trivial⟩), hi⟩
  · exact ⟨.int (nI nd), h, h, hc (t_X7_count_0 _ _ _ ⟨fun z => absurd z h0, fun z => by omega, fun z => by omega, fun _ => ⟨by rw [d2], rfl⟩, fun z => by omega, fun z => by omega, fun z => by omega, trivial⟩), hm (t_X8_count_0 _ _ _ ⟨fun z => absurd z h0, fun z => by omega, fun z => by omega, fun _ => ⟨by rw [d3], rfl⟩, fun z => by omega, fun z => by omega, fun z => by omega, trivial⟩), hi⟩
  · exact ⟨.int (nI kk), h, h, hc (t_X7_count_0 _ _ _ ⟨fun z => absurd z h0, fun z => by omega, fun z => by omega, fun z => by omega, fun _ => ⟨by rw [k1], rfl⟩, fun z => by omega, fun z => by omega, trivial⟩), hm (t_X8_count_0 _ _ _ ⟨fun z => absurd z h0, fun z => by omega, fun z => by omega, fun z => by omega, fun _ => ⟨by rw [k2], rfl⟩, fun z => by omega, fun z => by omega, trivial⟩), hi⟩
  · have b1 := bm_lt (fun p => decide (h.1 36 p = 1)) 12
    have b2 := bm_lt (fun p => decide (h.1 36 p = 0)) 12
    have bc := c_bitCount (h := h) (v := bm (fun p => decide (h.1 36 p = 1)) 12 ||| bm (fun p => decide (h.1 36 p = 0)) 12) (Nat.lt_trans (or_lt b1 b2) (by omega))
    rw [← n_or] at bc
    refine ⟨_, h, h, hc (t_X7_count_0 _ _ _ ⟨fun z => absurd z h0, fun z => by omega, fun z => by omega, fun z => by omega, fun z => by omega, fun _ => ⟨_, _, c_placesTold 1, _, _, c_placesTold 0, _, _, bc, rfl, rfl⟩, fun z => by omega, trivial⟩), hm (t_X8_count_0 _ _ _ ⟨fun z => absurd z h0, fun z => by omega, fun z => by omega, fun z => by omega, fun z => by omega, fun _ => ?_, fun z => by omega, trivial⟩), hi⟩
    have e : pop (bm (fun p => decide (h.1 36 p = 1)) 12 ||| bm (fun p => decide (h.1 36 p = 0)) 12) = ctN (fun p => decide (0 ≤ h.1 50 p)) 12 := by
      unfold pop
      have s : ∀ i, 12 ≤ i → (bm (fun p => decide (h.1 36 p = 1)) 12 ||| bm (fun p => decide (h.1 36 p = 0)) 12).testBit i = false := fun i hi => by
        rw [Nat.testBit_or, bm_bit, bm_bit]
        simp [Nat.not_lt.mpr hi]
      rw [ctN_s, ctN_s, ctN_s, ctN_s, s 12 (by omega), s 13 (by omega), s 14 (by omega), s 15 (by omega)]
      simp only [Bool.false_eq_true, if_false, Nat.add_zero]
      apply ctN_cg
      intro i hi2
      obtain ⟨e1, e2⟩ := hi.2.2.1 i hi2
      rw [Nat.testBit_or, bm_bit, bm_bit, ← e1, decide_eq_true hi2]
      rcases e2 with e2 | e2 | e2 <;> rw [e2] <;> decide
    rw [e]
    exact m_count4 a
  · have hg : ∀ d, ∃ b, d < 60 → b < 65536 ∧ h.1 41 d = nI b := fun d => by
      by_cases hd : d < 60
      · obtain ⟨-, -, -, ⟨b, b1, b2⟩, -⟩ := d4 d hd
        exact ⟨b, fun _ => ⟨b1, b2⟩⟩
      · exact ⟨0, fun q => absurd q hd⟩
    obtain ⟨g, hg⟩ := Classical.axiomOfChoice hg
    have hl : ∀ i, i < nd → g i < 2 ^ 16 := fun i hi2 => (hg i (by omega)).1
    exact ⟨_, h, h, hc (t_X7_count_0 _ _ _ ⟨fun z => absurd z h0, fun z => by omega, fun z => by omega, fun z => by omega, fun z => by omega, fun z => by omega, fun _ => ⟨_, _, c_causesSeen d1 d2 (fun d hd => (hg d hd).2), _, _, c_bitCount (orN_lt hl), rfl, rfl⟩, trivial⟩), hm (t_X8_count_0 _ _ _ ⟨fun z => absurd z h0, fun z => by omega, fun z => by omega, fun z => by omega, fun z => by omega, fun z => by omega, fun _ => m_count5 a d1 d3 (fun d hd => by rw [← (d4 d hd).2.2.1]; exact (hg d hd).2) hl, trivial⟩), hi⟩
