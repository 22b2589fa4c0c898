/-! ===== numbers ===== -/
theorem q0 : (0 : Int32) = nI 0 := rfl
theorem q1 : (1 : Int32) = nI 1 := rfl
theorem q2 : (2 : Int32) = nI 2 := rfl
theorem q3 : (3 : Int32) = nI 3 := rfl
theorem q4 : (4 : Int32) = nI 4 := rfl
theorem q5 : (5 : Int32) = nI 5 := rfl
theorem q6 : (6 : Int32) = nI 6 := rfl
theorem q9 : (9 : Int32) = nI 9 := rfl
theorem q10 : (10 : Int32) = nI 10 := rfl
theorem q11 : (11 : Int32) = nI 11 := rfl
theorem q12 : (12 : Int32) = nI 12 := rfl
theorem q15 : (15 : Int32) = nI 15 := rfl
theorem q16 : (16 : Int32) = nI 16 := rfl
theorem q17 : (17 : Int32) = nI 17 := rfl
theorem q20 : (20 : Int32) = nI 20 := rfl
theorem q30 : (30 : Int32) = nI 30 := rfl
theorem q31 : (31 : Int32) = nI 31 := rfl
theorem q42 : (42 : Int32) = nI 42 := rfl
theorem q46 : (46 : Int32) = nI 46 := rfl
theorem q47 : (47 : Int32) = nI 47 := rfl
theorem q48 : (48 : Int32) = nI 48 := rfl
theorem q49 : (49 : Int32) = nI 49 := rfl
theorem q50 : (50 : Int32) = nI 50 := rfl
theorem q51 : (51 : Int32) = nI 51 := rfl
theorem q60 : (60 : Int32) = nI 60 := rfl
theorem q75 : (75 : Int32) = nI 75 := rfl
theorem q99 : (99 : Int32) = nI 99 := rfl
theorem q100 : (100 : Int32) = nI 100 := rfl
theorem q150 : (150 : Int32) = nI 150 := rfl
theorem q180 : (180 : Int32) = nI 180 := rfl
theorem q181 : (181 : Int32) = nI 181 := rfl
theorem q200 : (200 : Int32) = nI 200 := rfl
theorem q300 : (300 : Int32) = nI 300 := rfl
theorem q500 : (500 : Int32) = nI 500 := rfl
theorem q512 : (512 : Int32) = nI 512 := rfl
theorem q600 : (600 : Int32) = nI 600 := rfl
theorem q900 : (900 : Int32) = nI 900 := rfl
theorem q901 : (901 : Int32) = nI 901 := rfl
theorem q1000 : (1000 : Int32) = nI 1000 := rfl
theorem q1200 : (1200 : Int32) = nI 1200 := rfl
theorem q1800 : (1800 : Int32) = nI 1800 := rfl
theorem q3000 : (3000 : Int32) = nI 3000 := rfl
theorem q3600 : (3600 : Int32) = nI 3600 := rfl
theorem q9000 : (9000 : Int32) = nI 9000 := rfl
theorem q65535 : (65535 : Int32) = nI 65535 := rfl
theorem q65536 : (65536 : Int32) = nI 65536 := rfl
theorem vp0 {n : Nat} (h : 0 < n) (hn : n < 2 ^ 31) : vp_in 0 n := vp_in_nI (n := 0) h hn
theorem q_rem {a d : Nat} (ha : a < 2 ^ 31) (h0 : 0 < d) (hd : d < 2 ^ 31) : nI a - nI a / nI d * nI d = nI (a % d) := pk_rem ha h0 hd
theorem q_of {x : Int32} {n : Nat} (h0 : 0 ≤ x) (h : x ≤ nI n) (hn : n < 2 ^ 31) : ∃ j : Nat, j ≤ n ∧ x = nI j := nI_of2 (nI_toInt hn) (Int32.not_lt.mpr h0) h
/-- INSIDE, by numbers -/
def bn (t : Nat → Nat) (f s c i : Nat) : Nat := (t (10 * s + i / 100) + (t (10 * s + i / 100 + 1) - t (10 * s + i / 100)) * (i % 100) / 100) - (t (10 * s + i / 100) + (t (10 * s + i / 100 + 1) - t (10 * s + i / 100)) * (i % 100) / 100) * f * c / 1000
/-- a TABLE as it must be -/
def TV (t : Nat → Nat) : Prop := ∀ s, s < 3 → t (10 * s) = 0 ∧ (∀ k, k < 9 → t (10 * s + k) ≤ t (10 * s + (k + 1))) ∧ ∀ k, k < 10 → t (10 * s + k) ≤ 100 * k
/-- what stands before the fan -/
def bp (t : Nat → Nat) (s i : Nat) : Nat := t (10 * s + i / 100) + (t (10 * s + i / 100 + 1) - t (10 * s + i / 100)) * (i % 100) / 100
theorem bn_eq (t : Nat → Nat) (f s c i : Nat) : bn t f s c i = bp t s i - bp t s i * f * c / 1000 := rfl
theorem mul_div_le' (a b : Nat) (hb : b ≤ 100) : a * b / 100 ≤ a := by
  have : a * b ≤ a * 100 := Nat.mul_le_mul_left a hb
  omega
theorem bp_hi {t : Nat → Nat} (hv : TV t) {s i : Nat} (hs : s < 3) (hi : i < 900) : bp t s i ≤ t (10 * s + i / 100 + 1) := by
  obtain ⟨-, h2, -⟩ := hv s hs
  have h3 := h2 (i / 100) (by omega)
  have h4 := mul_div_le' (t (10 * s + i / 100 + 1) - t (10 * s + i / 100)) (i % 100) (by omega)
  rw [← Nat.add_assoc] at h3
  unfold bp
  omega
theorem bp_le {t : Nat → Nat} (hv : TV t) {s i : Nat} (hs : s < 3) (hi : i ≤ 900) : bp t s i ≤ i := by
  obtain ⟨-, h2, h3⟩ := hv s hs
  by_cases h9 : i < 900
  · have a1 := h2 (i / 100) (by omega)
    have a2 := h3 (i / 100) (by omega)
    have a3 := h3 (i / 100 + 1) (by omega)
    rw [← Nat.add_assoc] at a1 a3
    unfold bp
    generalize t (10 * s + i / 100) = u at *
    generalize t (10 * s + i / 100 + 1) = w at *
    have e : (w - u) * (i % 100) ≤ (100 * (i / 100 + 1) - u) * (i % 100) := Nat.mul_le_mul_right _ (by omega)
    have e2 : (100 * (i / 100 + 1) - u) * (i % 100) = (100 * (i / 100) - u) * (i % 100) + 100 * (i % 100) := by
      rw [← Nat.add_mul]; congr 1; omega
    have e3 : (100 * (i / 100) - u) * (i % 100) ≤ (100 * (i / 100) - u) * 100 := Nat.mul_le_mul_left _ (by omega)
    omega
  · have e9 : i = 900 := by omega
    subst e9
    have a2 := h3 9 (by omega)
    unfold bp
    simp only [show 900 / 100 = 9 from rfl, show 900 % 100 = 0 from rfl, Nat.mul_zero, Nat.zero_div, Nat.add_zero]
    omega
theorem t_mono {t : Nat → Nat} (hv : TV t) {s : Nat} (hs : s < 3) : ∀ {a b : Nat}, a ≤ b → b ≤ 9 → t (10 * s + a) ≤ t (10 * s + b) := by
  intro a b hab hb
  induction b with
  | zero => have : a = 0 := by omega
            subst this; exact Nat.le_refl _
  | succ b ih =>
    by_cases h : a = b + 1
    · subst h; exact Nat.le_refl _
    · exact Nat.le_trans (ih (by omega) (by omega)) ((hv s hs).2.1 b (by omega))
theorem bp_mono {t : Nat → Nat} (hv : TV t) {s i j : Nat} (hs : s < 3) (hij : i ≤ j) (hj : j ≤ 900) : bp t s i ≤ bp t s j := by
  by_cases hk : i / 100 = j / 100
  · unfold bp
    rw [hk]
    have : (t (10 * s + j / 100 + 1) - t (10 * s + j / 100)) * (i % 100) ≤ (t (10 * s + j / 100 + 1) - t (10 * s + j / 100)) * (j % 100) := Nat.mul_le_mul_left _ (by omega)
    have := Nat.div_le_div_right (c := 100) this
    omega
  · have h1 := bp_hi hv (s := s) (i := i) hs (by omega)
    have h2 := t_mono hv hs (a := i / 100 + 1) (b := j / 100) (by omega) (by omega)
    have h3 : t (10 * s + j / 100) ≤ bp t s j := by unfold bp; omega
    rw [← Nat.add_assoc] at h2
    omega
theorem fan_mono {x y F : Nat} (hxy : x ≤ y) (hF : F ≤ 1000) : x - x * F / 1000 ≤ y - y * F / 1000 := by
  obtain ⟨d, rfl⟩ : ∃ d, y = x + d := ⟨y - x, by omega⟩
  have h1 : (x + d) * F = x * F + d * F := Nat.add_mul _ _ _
  have h2 : d * F ≤ d * 1000 := Nat.mul_le_mul_left d hF
  have h3 : x * F ≤ x * 1000 := Nat.mul_le_mul_left x hF
  rw [h1]
  omega
theorem bn_mono {t : Nat → Nat} (hv : TV t) {f s c i j : Nat} (hs : s < 3) (hf : f ≤ 20) (hc : c ≤ 3) (hij : i ≤ j) (hj : j ≤ 900) : bn t f s c i ≤ bn t f s c j := by
  have hF : f * c ≤ 20 * 3 := Nat.mul_le_mul hf hc
  rw [bn_eq, bn_eq, Nat.mul_assoc, Nat.mul_assoc]
  exact fan_mono (bp_mono hv hs hij hj) (by omega)
theorem bn_le {t : Nat → Nat} (hv : TV t) {f s c i : Nat} (hs : s < 3) (hi : i ≤ 900) : bn t f s c i ≤ i := by
  have := bp_le hv (s := s) (i := i) hs hi
  rw [bn_eq]; omega
theorem bn_0 {t : Nat → Nat} (hv : TV t) {f s c : Nat} (hs : s < 3) : bn t f s c 0 = 0 := by
  have := bn_le hv (f := f) (s := s) (c := c) (i := 0) hs (by omega)
  omega
