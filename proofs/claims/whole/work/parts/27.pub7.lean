/-! ===== days; counting bits ===== -/
def ctN (p : Nat → Bool) : Nat → Nat
  | 0 => 0
  | n + 1 => ctN p n + (if p n then 1 else 0)
theorem q1' : (1 : Int32) = nI 1 := rfl
theorem q2' : (2 : Int32) = nI 2 := rfl
theorem q0' : (0 : Int32) = nI 0 := rfl
theorem ctN_le (p : Nat → Bool) : ∀ n, ctN p n ≤ n
  | 0 => Nat.le_refl _
  | n + 1 => by
    have := ctN_le p n
    unfold ctN
    split <;> omega
theorem ctN_cg {p q : Nat → Bool} : ∀ {n : Nat}, (∀ i, i < n → p i = q i) → ctN p n = ctN q n
  | 0, _ => rfl
  | n + 1, h => by
    unfold ctN
    rw [ctN_cg (n := n) (fun i hi => h i (by omega)), h n (by omega)]
theorem ctN_s (p : Nat → Bool) (n : Nat) : ctN p (n + 1) = ctN p n + (if p n then 1 else 0) := rfl
theorem ctN_mono {p q : Nat → Bool} (h : ∀ i, p i = true → q i = true) : ∀ n, ctN p n ≤ ctN q n
  | 0 => Nat.le_refl _
  | n + 1 => by
    have ih := ctN_mono h n
    rw [ctN_s, ctN_s]
    by_cases e : p n = true
    · rw [if_pos e, if_pos (h n e)]; omega
    · rw [if_neg e]; split <;> omega
/-- a day of that cold and cloud -/
def okD (h : zH) (a b c : Int32) (d : Nat) : Bool := !decide (h.1 39 d < a) && (!decide (b < h.1 39 d) && (decide (c = -1) || decide (h.1 40 d = c)))
set_option maxHeartbeats 4000000 in
set_option maxRecDepth 100000 in
theorem c_daysWith {h : zH} {nd : Nat} (hn : nd ≤ 60) (h0 : h.1 38 3 = nI nd) (x a b c : Int32) : R_X1_daysWith [.ref 38, .int x, .int a, .int b, .int c] h (some (.int (nI (ctN (fun d => okD h a b c d && decide (h.1 41 d &&& x = x)) nd)))) h := by
  refine r_X1_daysWith _ _ _ _ _ _ _ ⟨_, rfl⟩ (t_X1_daysWith_0 _ _ _ _ _ _ ?_)
  have key : ∀ (m i : Nat), i + m = nd → zG M_X1_daysWith (fun r1 h1 => r1 = some (.int (nI (ctN (fun d => okD h a b c d && decide (h.1 41 d &&& x = x)) nd))) ∧ h1 = h) (zat M_X1_daysWith 6) [some (.ref 38), some (.int x), some (.int a), some (.int b), some (.int c), some (.int (nI (ctN (fun d => okD h a b c d && decide (h.1 41 d &&& x = x)) i))), some (.int (nI i))] [] h := by
    intro m
    induction m with
    | zero =>
      intro i hi
      have : i = nd := by omega
      subst this
      refine t_X1_daysWith_6 _ _ _ _ _ _ _ _ ⟨fun _ => ⟨rfl, rfl⟩, fun z => absurd ?_ z⟩
      rw [h0]; exact nI_le (Nat.le_refl _) (by omega)
    | succ m ih =>
      intro i hi
      have ih2 := ih (i + 1) (by omega)
      rw [ctN_s _ i] at ih2
      have vp : vp_in (nI i) 60 := vp_in_nI (by omega) (by omega)
      refine t_X1_daysWith_6 _ _ _ _ _ _ _ _ ⟨fun z => ?_, fun _ => ⟨vp, ?_⟩⟩
      · rw [h0, nI_leI (by omega) (by omega)] at z; omega
      rw [nI_clamp (by omega), nI_1, nI_1]
      refine ⟨fun z => ?_, fun z => ⟨vp, fun z2 => ?_, fun z2 => ⟨fun z3 => ⟨vp, fun z4 => ?_, fun z4 => ?_⟩, fun z3 => ⟨vp, fun z4 => ?_, fun z4 => ⟨vp, fun z5 => ?_, fun z5 => ?_⟩⟩⟩⟩⟩
      · rw [if_neg (by simp [okD, z])] at ih2; exact ih2
      · rw [if_neg (by simp [okD, z2])] at ih2; exact ih2
      · rw [if_neg (by simp [z4])] at ih2; exact ih2
      · rw [if_pos (by simp [okD, z, z2, z3, Classical.not_not.mp z4])] at ih2; exact ih2
      · rw [if_neg (by simp [okD, z3, z4])] at ih2; exact ih2
      · rw [if_neg (by simp [z5])] at ih2; exact ih2
      · rw [if_pos (by simp [okD, z, z2, Classical.not_not.mp z4, Classical.not_not.mp z5])] at ih2; exact ih2
  exact key nd 0 (by omega)
theorem and_pow {b k : Nat} (hb : b < 65536) (hk : k < 16) : nI b &&& nI (2 ^ k) = nI (2 ^ k) ↔ b.testBit k = true := by
  have hp : 2 ^ k < 2 ^ 16 := Nat.pow_lt_pow_right (by omega) hk
  have hl : b &&& 2 ^ k ≤ 2 ^ k := Nat.and_le_right
  rw [n_and, nI_eq (by omega) (by omega)]
  constructor
  · intro h
    have := congrArg (fun z => z.testBit k) h
    simpa [Nat.testBit_and, Nat.testBit_two_pow_self] using this
  · intro h
    apply Nat.eq_of_testBit_eq
    intro i
    rw [Nat.testBit_and]
    by_cases e : i = k
    · subst e; simp [h, Nat.testBit_two_pow_self]
    · simp [Nat.testBit_two_pow_of_ne (Ne.symm e)]
theorem and_pow2 {b j k : Nat} (hb : b < 65536) (hj : j < 16) (hk : k < 16) : nI b &&& nI (2 ^ j ||| 2 ^ k) = nI (2 ^ j ||| 2 ^ k) ↔ (b.testBit j && b.testBit k) = true := by
  have hp : 2 ^ j ||| 2 ^ k < 2 ^ 16 := or_lt (Nat.pow_lt_pow_right (by omega) hj) (Nat.pow_lt_pow_right (by omega) hk)
  have hl : b &&& (2 ^ j ||| 2 ^ k) ≤ 2 ^ j ||| 2 ^ k := Nat.and_le_right
  rw [n_and, nI_eq (by omega) (by omega), Bool.and_eq_true]
  constructor
  · intro h
    have h1 := congrArg (fun z => z.testBit j) h
    have h2 := congrArg (fun z => z.testBit k) h
    simp only [Nat.testBit_and, Nat.testBit_or, Nat.testBit_two_pow_self, Bool.true_or, Bool.or_true, Bool.and_true] at h1 h2
    exact ⟨h1, h2⟩
  · intro ⟨h1, h2⟩
    apply Nat.eq_of_testBit_eq
    intro i
    rw [Nat.testBit_and, Nat.testBit_or]
    by_cases e : i = j
    · subst e; simp [h1, Nat.testBit_two_pow_self]
    · by_cases e2 : i = k
      · subst e2; simp [h2, Nat.testBit_two_pow_self]
      · simp [Nat.testBit_two_pow_of_ne (Ne.symm e), Nat.testBit_two_pow_of_ne (Ne.symm e2)]
/-! the greatest common divisor, both ways -/
theorem c_gcd {h : zH} {a b : Nat} (ha : 0 < a) (ha2 : a ≤ 60) (hb : b ≤ 60) : R_X7_commonDivisor [.int (nI a), .int (nI b)] h (some (.int (nI (Nat.gcd a b)))) h := by
  refine r_X7_commonDivisor _ _ _ _ _ ⟨_, rfl⟩ (t_X7_commonDivisor_0 _ _ _ _ ?_)
  have hg1 : 0 < Nat.gcd a b := Nat.gcd_pos_of_pos_left _ ha
  have key : ∀ n, n ≤ 60 → Nat.gcd a b ≤ n → zG M_X7_commonDivisor (fun r1 h1 => r1 = some (.int (nI (Nat.gcd a b))) ∧ h1 = h) (zat M_X7_commonDivisor 2) [some (.int (nI a)), some (.int (nI b)), some (.int (nI n))] [] h := by
    intro n
    induction n with
    | zero => intro _ hg; omega
    | succ n ih =>
      intro hn hg
      refine t_X7_commonDivisor_2 _ _ _ _ _ ⟨fun z => ?_, fun z => ?_⟩
      · rw [q1, nI_leI (by omega) (by omega)] at z
        have : Nat.gcd a b = 1 := by omega
        exact ⟨by rw [this]; rfl, rfl⟩
      · have hne : ¬ nI (n + 1) = 0 := by rw [nI_z (by omega)]; omega
        have ma := Nat.mod_lt a (show 0 < n + 1 by omega)
        have mb := Nat.mod_lt b (show 0 < n + 1 by omega)
        rw [q_rem (by omega) (by omega) (by omega), q_rem (by omega) (by omega) (by omega), nI_z (a := a % (n + 1)) (by omega), nI_z (a := b % (n + 1)) (by omega), pk_m1]
        refine ⟨hne, fun z1 => ih (by omega) ?_, fun z1 => ⟨hne, fun z2 => ih (by omega) ?_, fun z2 => ⟨?_, rfl⟩⟩⟩
        · rcases Nat.lt_or_ge (Nat.gcd a b) (n + 1) with q | q
          · omega
          · have : Nat.gcd a b = n + 1 := by omega
            have hd := Nat.gcd_dvd_left a b
            rw [this] at hd
            exact absurd (Nat.mod_eq_zero_of_dvd hd) z1
        · rcases Nat.lt_or_ge (Nat.gcd a b) (n + 1) with q | q
          · omega
          · have : Nat.gcd a b = n + 1 := by omega
            have hd := Nat.gcd_dvd_right a b
            rw [this] at hd
            exact absurd (Nat.mod_eq_zero_of_dvd hd) z2
        · have d1 := Nat.dvd_of_mod_eq_zero (Classical.not_not.mp z1)
          have d2 := Nat.dvd_of_mod_eq_zero (Classical.not_not.mp z2)
          have := Nat.le_of_dvd hg1 (Nat.dvd_gcd d1 d2)
          rw [show Nat.gcd a b = n + 1 by omega]
  exact key a ha2 (Nat.le_of_dvd ha (Nat.gcd_dvd_left a b))
theorem m_gcd {h : zH} {post : Option Value → zH → Prop} {y1 y2 y3 y4 : Int32} {p u v : Nat} (hp : p ≤ 1) (hu : u ≤ 60) (hv : v ≤ 60) (hv0 : 0 < v) (hpost : post (some (.int (nI ((if p = 0 then u else v) / Nat.gcd u v)))) h) : zG M_X8_odds post (zat M_X8_odds 144) [some (.ref 42), some (.int y1), some (.int y2), some (.int y3), some (.int y4), some (.int (nI p)), some (.int (nI u)), some (.int (nI v)), some (.int (nI u)), some (.int (nI v)), none] [] h := by
  have hg : 0 < Nat.gcd u v := Nat.gcd_pos_of_pos_right _ hv0
  have key : ∀ (N x y : Nat), y ≤ N → x ≤ 60 → y ≤ 60 → Nat.gcd x y = Nat.gcd u v → zG M_X8_odds post (zat M_X8_odds 144) [some (.ref 42), some (.int y1), some (.int y2), some (.int y3), some (.int y4), some (.int (nI p)), some (.int (nI u)), some (.int (nI v)), some (.int (nI x)), some (.int (nI y)), none] [] h := by
    intro N
    induction N with
    | zero =>
      intro x y hN hx hy he
      have : y = 0 := by omega
      subst this
      rw [Nat.gcd_zero_right] at he
      subst he
      have hne : ¬ nI (Nat.gcd u v) = 0 := by rw [nI_z (by omega)]; omega
      refine t_X8_odds_144 _ _ _ _ _ _ _ _ _ _ _ ⟨fun _ => ⟨fun z => ⟨hne, ?_⟩, fun z => ⟨hne, ?_⟩⟩, fun z => absurd rfl z⟩
      · rw [nI_z (by omega)] at z
        rw [if_neg z] at hpost
        rw [pk_div (by omega) (by omega) (by omega)]; exact hpost
      · rw [nI_z (by omega)] at z
        rw [if_pos (Classical.not_not.mp z)] at hpost
        rw [pk_div (by omega) (by omega) (by omega)]; exact hpost
    | succ N ih =>
      intro x y hN hx hy he
      by_cases h0 : y = 0
      · exact ih x y (by omega) hx hy he
      · have hne : ¬ nI y = 0 := by rw [nI_z (by omega)]; exact h0
        have hm := Nat.mod_lt x (show 0 < y by omega)
        refine t_X8_odds_144 _ _ _ _ _ _ _ _ _ _ _ ⟨fun z => absurd z hne, fun _ => ⟨hne, ?_⟩⟩
        rw [q_rem (by omega) (by omega) (by omega)]
        refine ih y (x % y) (by omega) (by omega) (by omega) ?_
        rw [← he, Nat.gcd_comm, ← Nat.gcd_rec, Nat.gcd_comm]
  exact key 60 u v hv hu hv rfl
set_option maxHeartbeats 4000000 in
set_option maxRecDepth 100000 in
theorem p_odds {h : zH} (hi : Inv h) (a b c d e : Int32) : Pair R_X7_odds R_X8_odds [.int a, .int b, .int c, .int d, .int e] h := by
  by_cases hv : (0 ≤ a ∧ a ≤ 15) ∧ ((-60) ≤ b ∧ b ≤ 40) ∧ ((-60) ≤ c ∧ c ≤ 40) ∧ ¬ c < b ∧ ((-1) ≤ d ∧ d ≤ 3) ∧ (0 ≤ e ∧ e ≤ 1)
  · obtain ⟨v1, v2, v3, v4, v5, v6⟩ := hv
    obtain ⟨k, hk1, rfl⟩ := in_n (b := 15) (by omega) v1.1 v1.2
    obtain ⟨p, hp1, rfl⟩ := in_n (b := 1) (by omega) v6.1 v6.2
    obtain ⟨nd, d1, d2, d3, d4⟩ := hi.2.2.2.1
    have all := c_daysWith d1 d2 0 b c d
    have see := c_daysWith d1 d2 (nI (2 ^ k)) b c d
    have eAll : ctN (fun x => okD h b c d x && decide (h.1 41 x &&& 0 = 0)) nd = ctN (okD h b c d) nd := ctN_cg (fun i _ => by
      have : h.1 41 i &&& (0 : Int32) = 0 := by
        apply Int32.toBitVec_inj.1
        show (h.1 41 i).toBitVec &&& 0#32 = 0#32
        simp
      simp [this])
    rw [eAll] at all
    have tb : ∀ i, i < nd → ∃ y, y < 65536 ∧ h.1 41 i = nI y ∧ h.1 53 i = nI y := fun i hi2 => by
      obtain ⟨q1, q2, q3, ⟨y, y1, y2⟩, -⟩ := d4 i (by omega)
      exact ⟨y, y1, y2, by rw [← q3]; exact y2⟩
    have v3' : b ≤ c ∧ c ≤ 40 := ⟨Int32.not_lt.mp v4, v3.2⟩
    have A60 := ctN_le (okD h b c d) nd
    have S60 := ctN_mono (p := fun x => okD h b c d x && decide (h.1 41 x &&& nI (2 ^ k) = nI (2 ^ k))) (q := okD h b c d) (fun i hi2 => by simp at hi2; exact hi2.1) nd
    have modl : ∀ (post : Option Value → zH → Prop), zG M_X8_odds post (zat M_X8_odds 62) [some (.ref 42), some (.int (nI k)), some (.int b), some (.int c), some (.int d), some (.int (nI p)), some (.int (nI (ctN (fun x => okD h b c d x && decide (h.1 41 x &&& nI (2 ^ k) = nI (2 ^ k))) nd))), some (.int (nI (ctN (okD h b c d) nd))), some (.int (nI nd)), none, none] [] h → zG M_X8_odds post (zat M_X8_odds 62) [some (.ref 42), some (.int (nI k)), some (.int b), some (.int c), some (.int d), some (.int (nI p)), some (.int 0), some (.int 0), some (.int 0), none, none] [] h := by
      intro post g
      have key : ∀ (m i : Nat), i + m = nd → zG M_X8_odds post (zat M_X8_odds 62) [some (.ref 42), some (.int (nI k)), some (.int b), some (.int c), some (.int d), some (.int (nI p)), some (.int (nI (ctN (fun x => okD h b c d x && decide (h.1 41 x &&& nI (2 ^ k) = nI (2 ^ k))) i))), some (.int (nI (ctN (okD h b c d) i))), some (.int (nI i)), none, none] [] h := by
        intro m
        induction m with
        | zero =>
          intro i hi2
          have : i = nd := by omega
          subst this; exact g
        | succ m ih =>
          intro i hi2
          have ih2 := ih (i + 1) (by omega)
          rw [ctN_s _ i, ctN_s _ i] at ih2
          obtain ⟨y, y1, y2, y3⟩ := tb i (by omega)
          obtain ⟨q1, q2, q3, -⟩ := d4 i (by omega)
          have vp : vp_in (nI i) 60 := vp_in_nI (by omega) (by omega)
          have bit : (nI y >>> (nI k &&& 31)) &&& 1 = nI (if y.testBit k then 1 else 0) := by
            by_cases hb : y.testBit k = true
            · rw [if_pos hb]; exact (n_bit (by omega) (by omega)).mpr hb
            · rw [if_neg hb]
              have h1 : ¬ (nI y >>> (nI k &&& 31)) &&& 1 = 1 := fun q => hb ((n_bit (by omega) (by omega)).mp q)
              rw [pk_shrN (by omega) (nI k &&& 31) k (sb_l k (by omega)), q1', n_and, Nat.and_one_is_mod] at h1 ⊢
              rw [nI_eq (by omega) (by omega)] at h1
              congr 1; omega
          have hx : (h.1 41 i &&& nI (2 ^ k) = nI (2 ^ k)) ↔ y.testBit k = true := by rw [y2]; exact and_pow y1 (by omega)
          have ok : okD h b c d i = (!decide (h.1 51 i < b) && (!decide (c < h.1 51 i) && (decide (d = -1) || decide (h.1 52 i = d)))) := by unfold okD; rw [q1, q2]
          refine t_X8_odds_62 _ _ _ _ _ _ _ _ _ _ ⟨fun z => ?_, fun _ => ⟨vp, ?_⟩⟩
          · rw [d3, nI_leI (by omega) (by omega)] at z; omega
          rw [nI_clamp (by omega), lt0_iff v5.1, nI_1, nI_1]
          refine ge (fun z => ?_) (fun z1 z2 => ⟨fun z3 => ⟨vp, ?_⟩, fun z3 => ⟨vp, fun z4 => ?_, fun z4 => ⟨vp, ?_⟩⟩⟩)
          · have hok : okD h b c d i = false := by
              rw [ok]
              by_cases g1 : h.1 51 i < b
              · simp [g1]
              · have g2 : c < h.1 51 i := Int32.not_le.mp (fun q => z ⟨Int32.not_lt.mp g1, q⟩)
                simp [g2]
            rw [hok] at ih2
            simpa using ih2
          · have hok : okD h b c d i = true := by rw [ok]; simp [Int32.not_lt.mpr z1, Int32.not_lt.mpr z2, z3]
            rw [hok] at ih2
            rw [y3, bit, nI_add]
            simpa [hx] using ih2
          · have hok : okD h b c d i = false := by rw [ok]; simp [z3, z4]
            rw [hok] at ih2
            simpa using ih2
          · have hok : okD h b c d i = true := by rw [ok]; simp [Int32.not_lt.mpr z1, Int32.not_lt.mpr z2, Classical.not_not.mp z4]
            rw [hok] at ih2
            rw [y3, bit, nI_add]
            simpa [hx] using ih2
      exact key nd 0 (by omega)
    have e2k : (1 : Int32) <<< (nI k &&& 31) = nI (2 ^ k) := n_shl (by omega)
    generalize ctN (fun x => okD h b c d x && decide (h.1 41 x &&& nI (2 ^ k) = nI (2 ^ k))) nd = u at *
    generalize ctN (okD h b c d) nd = v at *
    have mfin : ∀ r : Int32, (∀ post : Option Value → zH → Prop, post (some (.int r)) h → zG M_X8_odds post (zat M_X8_odds 62) [some (.ref 42), some (.int (nI k)), some (.int b), some (.int c), some (.int d), some (.int (nI p)), some (.int (nI u)), some (.int (nI v)), some (.int (nI nd)), none, none] [] h) → R_X8_odds [.ref 42, .int (nI k), .int b, .int c, .int d, .int (nI p)] h (some (.int r)) h := fun r g =>
      r_X8_odds _ _ _ _ _ _ _ _ ⟨_, rfl⟩ (t_X8_odds_0 _ _ _ _ _ _ _ (ge (fun z => absurd v1 z) (fun _ _ => ge (fun z => absurd v2 z) (fun _ _ => ge (fun z => absurd v3' z) (fun _ _ => ge (fun z => absurd v5 z) (fun _ _ => ge' (fun _ _ => modl _ (g _ ⟨rfl, rfl⟩)) (fun z => absurd v6 z)))))))
    have cfin : ∀ r : Int32, ((¬ nI v = 0 → ∃ (v7 : Int32) (h7 : zH), R_X1_daysWith [.ref 38, .int (1 <<< (nI k &&& 31)), .int b, .int c, .int d] h (some (.int v7)) h7 ∧ (¬ v7 = 0 → (¬ nI p = 0 → ∃ (v8 : Int32) (h8 : zH), R_X7_commonDivisor [.int v7, .int (nI v)] h7 (some (.int v8)) h8 ∧ ¬ v8 = 0 ∧ some (Value.int (nI v / v8)) = some (Value.int r) ∧ h8 = h) ∧ (¬ ¬ nI p = 0 → ∃ (v8 : Int32) (h8 : zH), R_X7_commonDivisor [.int v7, .int (nI v)] h7 (some (.int v8)) h8 ∧ ¬ v8 = 0 ∧ some (Value.int (v7 / v8)) = some (Value.int r) ∧ h8 = h)) ∧ (¬ ¬ v7 = 0 → some (Value.int (nI p)) = some (Value.int r) ∧ h7 = h)) ∧ (¬ ¬ nI v = 0 → some (Value.int (-4)) = some (Value.int r) ∧ h = h)) → R_X7_odds [.ref 0, .int (nI k), .int b, .int c, .int d, .int (nI p)] h (some (.int r)) h := fun r A =>
      r_X7_odds _ _ _ _ _ _ _ _ ⟨_, rfl⟩ (t_X7_odds_0 _ _ _ _ _ _ _ (gd_isCause (fun z => absurd v1 z) (fun _ _ => gd_isCold (fun z => absurd v2 z) (fun _ _ => gd_isCold (fun z => absurd v3 z) (fun _ _ => ⟨fun z => absurd z v4, fun _ => gd (fun z => absurd v5 z) (fun _ _ => gd' (fun _ _ => ⟨_, _, all, A⟩) (fun z => absurd v6 z))⟩)))))
    have zv : nI v = 0 ↔ v = 0 := nI_z (by omega)
    have zu : nI u = 0 ↔ u = 0 := nI_z (by omega)
    have zp : nI p = 0 ↔ p = 0 := nI_z (by omega)
    have hend : (h.1 42 14) ≤ nI nd := by rw [d3]; exact nI_le (Nat.le_refl _) (by omega)
    by_cases hv0 : v = 0
    · refine ⟨.int (-4), h, h, cfin _ ⟨fun z => absurd (zv.mpr hv0) z, fun _ => ⟨rfl, rfl⟩⟩, mfin _ (fun post g => t_X8_odds_62 _ _ _ _ _ _ _ _ _ _ ⟨fun _ => ⟨fun z => absurd (zv.mpr hv0) z, fun _ => g⟩, fun z => absurd hend z⟩), hi⟩
    · have mg : ∀ r : Int32, r = nI ((if p = 0 then u else v) / Nat.gcd u v) → R_X8_odds [.ref 42, .int (nI k), .int b, .int c, .int d, .int (nI p)] h (some (.int r)) h := fun r hr => mfin r (fun post g => t_X8_odds_62 _ _ _ _ _ _ _ _ _ _ ⟨fun _ => ⟨fun _ => m_gcd hp1 (by omega) (by omega) (by omega) (by rw [← hr]; exact g), fun z => absurd (fun q => hv0 (zv.mp q)) z⟩, fun z => absurd hend z⟩)
      by_cases hu0 : u = 0
      · refine ⟨.int (nI p), h, h, cfin _ ⟨fun _ => ⟨_, _, by rw [e2k]; exact see, fun z => absurd (zu.mpr hu0) z, fun _ => ⟨rfl, rfl⟩⟩, fun z => absurd (fun q => hv0 (zv.mp q)) z⟩, mg _ ?_, hi⟩
        subst hu0
        rw [Nat.gcd_zero_left]
        rcases (by omega : p = 0 ∨ p = 1) with rfl | rfl
        · rw [if_pos rfl, Nat.zero_div]
        · rw [if_neg (by omega), Nat.div_self (by omega)]
      · have cg := c_gcd (h := h) (a := u) (b := v) (by omega) (by omega) (by omega)
        have hgp : 0 < Nat.gcd u v := Nat.gcd_pos_of_pos_right _ (by omega)
        have hgl : Nat.gcd u v ≤ u := Nat.le_of_dvd (by omega) (Nat.gcd_dvd_left u v)
        have gn : ¬ nI (Nat.gcd u v) = 0 := by rw [nI_z (by omega)]; omega
        refine ⟨.int (nI ((if p = 0 then u else v) / Nat.gcd u v)), h, h, cfin _ ⟨fun _ => ⟨_, _, by rw [e2k]; exact see, fun _ => ⟨fun z => ⟨_, _, cg, gn, ?_, rfl⟩, fun z => ⟨_, _, cg, gn, ?_, rfl⟩⟩, fun z => absurd (fun q => hu0 (zu.mp q)) z⟩, fun z => absurd (fun q => hv0 (zv.mp q)) z⟩, mg _ rfl, hi⟩
        · rw [if_neg (fun q => z (zp.mpr q)), pk_div (by omega) (by omega) (by omega)]
        · rw [if_pos (zp.mp (Classical.not_not.mp z)), pk_div (by omega) (by omega) (by omega)]
  · exact ⟨.int (-1), h, h, r_X7_odds _ _ _ _ _ _ _ _ ⟨_, rfl⟩ (t_X7_odds_0 _ _ _ _ _ _ _ (gd_isCause (fun _ => ⟨rfl, rfl⟩) (fun u0 w0 => gd_isCold (fun _ => ⟨rfl, rfl⟩) (fun u1 w1 => gd_isCold (fun _ => ⟨rfl, rfl⟩) (fun u2 w2 => ⟨fun _ => ⟨rfl, rfl⟩, fun z => gd (fun _ => ⟨rfl, rfl⟩) (fun u3 w3 => gd' (fun u4 w4 => absurd ⟨⟨u0, w0⟩, ⟨u1, w1⟩, ⟨u2, w2⟩, z, ⟨u3, w3⟩, u4, w4⟩ hv) (fun _ => ⟨rfl, rfl⟩))⟩))))), r_X8_odds _ _ _ _ _ _ _ _ ⟨_, rfl⟩ (t_X8_odds_0 _ _ _ _ _ _ _ (ge (fun _ => ⟨rfl, rfl⟩) (fun u0 w0 => ge (fun _ => ⟨rfl, rfl⟩) (fun u1 w1 => ge (fun _ => ⟨rfl, rfl⟩) (fun u2 w2 => ge (fun _ => ⟨rfl, rfl⟩) (fun u3 w3 => ge' (fun u4 w4 => absurd ⟨⟨u0, w0⟩, ⟨u1, w1⟩, ⟨Int32.le_trans u1 u2, w2⟩, Int32.not_lt.mpr u2, ⟨u3, w3⟩, u4, w4⟩ hv) (fun _ => ⟨rfl, rfl⟩))))))), hi⟩
set_option maxHeartbeats 4000000 in
set_option maxRecDepth 100000 in
theorem p_together {h : zH} (hi : Inv h) (a b : Int32) : Pair R_X7_together R_X8_together [.int a, .int b] h := by
  by_cases hv : (0 ≤ a ∧ a ≤ 15) ∧ (0 ≤ b ∧ b ≤ 15) ∧ ¬ a = b
  · obtain ⟨v1, v2, v3⟩ := hv
    obtain ⟨j, hj1, rfl⟩ := in_n (b := 15) (by omega) v1.1 v1.2
    obtain ⟨k, hk1, rfl⟩ := in_n (b := 15) (by omega) v2.1 v2.2
    obtain ⟨nd, d1, d2, d3, d4⟩ := hi.2.2.2.1
    have see := c_daysWith d1 d2 (nI (2 ^ j ||| 2 ^ k)) (-60) 40 (-1)
    have C60 := ctN_le (fun d => okD h (-60) 40 (-1) d && decide (h.1 41 d &&& nI (2 ^ j ||| 2 ^ k) = nI (2 ^ j ||| 2 ^ k))) nd
    refine ⟨_, h, h, r_X7_together _ _ _ _ _ ⟨_, rfl⟩ (t_X7_together_0 _ _ _ _ (gd_isCause (fun z => absurd v1 z) (fun _ _ => gd_isCause (fun z => absurd v2 z) (fun _ _ => ⟨fun _ => ⟨_, _, by rw [n_shl (by omega), n_shl (by omega), n_or]; exact see, rfl, rfl⟩, fun z => absurd v3 z⟩)))), r_X8_together _ _ _ _ _ ⟨_, rfl⟩ (t_X8_together_0 _ _ _ _ (ge (fun z => absurd v1 z) (fun _ _ => ge (fun z => absurd v2 z) (fun _ _ => ⟨fun _ => ?_, fun z => absurd v3 z⟩)))), hi⟩
    have key : ∀ (m i : Nat), i + m = nd → zG M_X8_together (fun r1 h1 => r1 = some (.int (nI (ctN (fun d => okD h (-60) 40 (-1) d && decide (h.1 41 d &&& nI (2 ^ j ||| 2 ^ k) = nI (2 ^ j ||| 2 ^ k))) nd))) ∧ h1 = h) (zat M_X8_together 32) [some (.ref 42), some (.int (nI j)), some (.int (nI k)), some (.int (nI (ctN (fun d => okD h (-60) 40 (-1) d && decide (h.1 41 d &&& nI (2 ^ j ||| 2 ^ k) = nI (2 ^ j ||| 2 ^ k))) i))), some (.int (nI i))] [] h := by
      intro m
      induction m with
      | zero =>
        intro i hi2
        have : i = nd := by omega
        subst this
        refine t_X8_together_32 _ _ _ _ _ _ ⟨fun _ => ⟨rfl, rfl⟩, fun z => absurd ?_ z⟩
        rw [d3]; exact nI_le (Nat.le_refl _) (by omega)
      | succ m ih =>
        intro i hi2
        have ih2 := ih (i + 1) (by omega)
        rw [ctN_s _ i] at ih2
        obtain ⟨q1, q2, q3, ⟨y, y1, y2⟩, q4, q5⟩ := d4 i (by omega)
        have hx : (h.1 41 i &&& nI (2 ^ j ||| 2 ^ k) = nI (2 ^ j ||| 2 ^ k)) ↔ (y.testBit j && y.testBit k) = true := by rw [y2]; exact and_pow2 y1 (by omega) (by omega)
        have ok : okD h (-60) 40 (-1) i = true := by simp [okD, Int32.not_lt.mpr q4, Int32.not_lt.mpr q5]
        have bit : ∀ q, q ≤ 15 → (nI y >>> (nI q &&& 31)) &&& 1 = nI (if y.testBit q then 1 else 0) := fun q hq => by
          by_cases hb : y.testBit q = true
          · rw [if_pos hb]; exact (n_bit (by omega) (by omega)).mpr hb
          · rw [if_neg hb]
            have h1 : ¬ (nI y >>> (nI q &&& 31)) &&& 1 = 1 := fun z => hb ((n_bit (by omega) (by omega)).mp z)
            rw [pk_shrN (by omega) (nI q &&& 31) q (sb_l q (by omega)), q1', n_and, Nat.and_one_is_mod] at h1 ⊢
            rw [nI_eq (by omega) (by omega)] at h1
            congr 1; omega
        have vp : vp_in (nI i) 60 := vp_in_nI (by omega) (by omega)
        refine t_X8_together_32 _ _ _ _ _ _ ⟨fun z => ?_, fun _ => ⟨vp, vp, ?_⟩⟩
        · rw [d3, nI_leI (by omega) (by omega)] at z; omega
        rw [nI_clamp (by omega), ← q3, y2, bit j hj1, bit k hk1, nI_add, q2', nI_eq (by split <;> split <;> omega) (by omega), nI_1, nI_1, q0', nI_add]
        refine ⟨fun z => ?_, fun z => ?_⟩
        · have hz : ¬ (y.testBit j && y.testBit k) = true := fun q => by
            rw [Bool.and_eq_true] at q
            rw [if_pos q.1, if_pos q.2] at z; exact z rfl
          rw [ok, decide_eq_false (fun q => hz (hx.mp q))] at ih2
          exact ih2
        · have hz : (y.testBit j && y.testBit k) = true := by
            have z := Classical.not_not.mp z
            cases hb1 : y.testBit j <;> cases hb2 : y.testBit k <;> simp_all
          rw [ok, decide_eq_true (hx.mpr hz)] at ih2
          exact ih2
    exact key nd 0 (by omega)
  · exact ⟨.int (-1), h, h, r_X7_together _ _ _ _ _ ⟨_, rfl⟩ (t_X7_together_0 _ _ _ _ (gd_isCause (fun _ => ⟨rfl, rfl⟩) (fun u0 w0 => gd_isCause (fun _ => ⟨rfl, rfl⟩) (fun u1 w1 => ⟨fun z => absurd ⟨⟨u0, w0⟩, ⟨u1, w1⟩, z⟩ hv, fun _ => ⟨rfl, rfl⟩⟩)))), r_X8_together _ _ _ _ _ ⟨_, rfl⟩ (t_X8_together_0 _ _ _ _ (ge (fun _ => ⟨rfl, rfl⟩) (fun u0 w0 => ge (fun _ => ⟨rfl, rfl⟩) (fun u1 w1 => ⟨fun z => absurd ⟨⟨u0, w0⟩, ⟨u1, w1⟩, z⟩ hv, fun _ => ⟨rfl, rfl⟩⟩)))), hi⟩
