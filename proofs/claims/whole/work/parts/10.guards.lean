/-! ===== guards ===== -/
theorem c_in_t {x a b : Int32} {h : zH} (h1 : a ≤ x) (h2 : x ≤ b) : R_X7_within [.int x, .int a, .int b] h (some (.int 1)) h := by
  refine r_X7_within _ _ _ _ _ _ (Or.inr rfl) (t_X7_within_0 _ _ _ _ _ ⟨fun z => absurd h1 (Int32.not_le.mpr z), fun _ => ⟨fun z => absurd h2 (Int32.not_le.mpr z), fun _ => ⟨rfl, rfl⟩⟩⟩)
theorem c_in_f {x a b : Int32} {h : zH} (hn : ¬ (a ≤ x ∧ x ≤ b)) : R_X7_within [.int x, .int a, .int b] h (some (.int 0)) h := by
  refine r_X7_within _ _ _ _ _ _ (Or.inl rfl) (t_X7_within_0 _ _ _ _ _ ⟨fun z => ⟨rfl, rfl⟩, fun z => ⟨fun z2 => ⟨rfl, rfl⟩, fun z2 => absurd ⟨Int32.not_lt.mp z, Int32.not_lt.mp z2⟩ hn⟩⟩)
theorem m_in_t {x a b : Int32} {h : zH} (h1 : a ≤ x) (h2 : x ≤ b) : R_X8_in [.int x, .int a, .int b] h (some (.int 1)) h := by
  refine r_X8_in _ _ _ _ _ _ (Or.inr rfl) (t_X8_in_0 _ _ _ _ _ ⟨fun z => absurd h1 (Int32.not_le.mpr z), fun _ => ⟨fun z => absurd h2 (Int32.not_le.mpr z), fun _ => ⟨rfl, rfl⟩⟩⟩)
theorem m_in_f {x a b : Int32} {h : zH} (hn : ¬ (a ≤ x ∧ x ≤ b)) : R_X8_in [.int x, .int a, .int b] h (some (.int 0)) h := by
  refine r_X8_in _ _ _ _ _ _ (Or.inl rfl) (t_X8_in_0 _ _ _ _ _ ⟨fun z => ⟨rfl, rfl⟩, fun z => ⟨fun z2 => ⟨rfl, rfl⟩, fun z2 => absurd ⟨Int32.not_lt.mp z, Int32.not_lt.mp z2⟩ hn⟩⟩)
theorem c_isRight_t {x : Int32} {h : zH} (h1 : (0) ≤ x) (h2 : x ≤ 900) : R_X7_isRight [.int x] h (some (.int 1)) h := r_X7_isRight _ _ _ _ (Or.inr rfl) (t_X7_isRight_0 _ _ _ ⟨_, _, c_in_t h1 h2, rfl, rfl⟩)
theorem c_isRight_f {x : Int32} {h : zH} (hn : ¬ ((0) ≤ x ∧ x ≤ 900)) : R_X7_isRight [.int x] h (some (.int 0)) h := r_X7_isRight _ _ _ _ (Or.inl rfl) (t_X7_isRight_0 _ _ _ ⟨_, _, c_in_f hn, rfl, rfl⟩)
theorem c_isColour_t {x : Int32} {h : zH} (h1 : (0) ≤ x) (h2 : x ≤ 3) : R_X7_isColour [.int x] h (some (.int 1)) h := r_X7_isColour _ _ _ _ (Or.inr rfl) (t_X7_isColour_0 _ _ _ ⟨_, _, c_in_t h1 h2, rfl, rfl⟩)
theorem c_isColour_f {x : Int32} {h : zH} (hn : ¬ ((0) ≤ x ∧ x ≤ 3)) : R_X7_isColour [.int x] h (some (.int 0)) h := r_X7_isColour _ _ _ _ (Or.inl rfl) (t_X7_isColour_0 _ _ _ ⟨_, _, c_in_f hn, rfl, rfl⟩)
theorem c_isMirrors_t {x : Int32} {h : zH} (h1 : (0) ≤ x) (h2 : x ≤ 5) : R_X7_isMirrors [.int x] h (some (.int 1)) h := r_X7_isMirrors _ _ _ _ (Or.inr rfl) (t_X7_isMirrors_0 _ _ _ ⟨_, _, c_in_t h1 h2, rfl, rfl⟩)
theorem c_isMirrors_f {x : Int32} {h : zH} (hn : ¬ ((0) ≤ x ∧ x ≤ 5)) : R_X7_isMirrors [.int x] h (some (.int 0)) h := r_X7_isMirrors _ _ _ _ (Or.inl rfl) (t_X7_isMirrors_0 _ _ _ ⟨_, _, c_in_f hn, rfl, rfl⟩)
theorem c_isCause_t {x : Int32} {h : zH} (h1 : (0) ≤ x) (h2 : x ≤ 15) : R_X7_isCause [.int x] h (some (.int 1)) h := r_X7_isCause _ _ _ _ (Or.inr rfl) (t_X7_isCause_0 _ _ _ ⟨_, _, c_in_t h1 h2, rfl, rfl⟩)
theorem c_isCause_f {x : Int32} {h : zH} (hn : ¬ ((0) ≤ x ∧ x ≤ 15)) : R_X7_isCause [.int x] h (some (.int 0)) h := r_X7_isCause _ _ _ _ (Or.inl rfl) (t_X7_isCause_0 _ _ _ ⟨_, _, c_in_f hn, rfl, rfl⟩)
theorem c_isSet_t {x : Int32} {h : zH} (h1 : (0) ≤ x) (h2 : x ≤ 65535) : R_X7_isSet [.int x] h (some (.int 1)) h := r_X7_isSet _ _ _ _ (Or.inr rfl) (t_X7_isSet_0 _ _ _ ⟨_, _, c_in_t h1 h2, rfl, rfl⟩)
theorem c_isSet_f {x : Int32} {h : zH} (hn : ¬ ((0) ≤ x ∧ x ≤ 65535)) : R_X7_isSet [.int x] h (some (.int 0)) h := r_X7_isSet _ _ _ _ (Or.inl rfl) (t_X7_isSet_0 _ _ _ ⟨_, _, c_in_f hn, rfl, rfl⟩)
theorem c_isCold_t {x : Int32} {h : zH} (h1 : (-60) ≤ x) (h2 : x ≤ 40) : R_X7_isCold [.int x] h (some (.int 1)) h := r_X7_isCold _ _ _ _ (Or.inr rfl) (t_X7_isCold_0 _ _ _ ⟨_, _, c_in_t h1 h2, rfl, rfl⟩)
theorem c_isCold_f {x : Int32} {h : zH} (hn : ¬ ((-60) ≤ x ∧ x ≤ 40)) : R_X7_isCold [.int x] h (some (.int 0)) h := r_X7_isCold _ _ _ _ (Or.inl rfl) (t_X7_isCold_0 _ _ _ ⟨_, _, c_in_f hn, rfl, rfl⟩)
theorem gd {x a b : Int32} {h : zH} {F T : zH → Prop} (hf : ¬ (a ≤ x ∧ x ≤ b) → F h) (ht : a ≤ x → x ≤ b → T h) : ∃ (v : Int32) (h1 : zH), R_X7_within [.int x, .int a, .int b] h (some (.int v)) h1 ∧ (v = 0 → F h1) ∧ (¬ (v = 0) → T h1) := by
  by_cases hc : a ≤ x ∧ x ≤ b
  · exact ⟨1, h, c_in_t hc.1 hc.2, fun z => absurd z (by decide), fun _ => ht hc.1 hc.2⟩
  · exact ⟨0, h, c_in_f hc, fun _ => hf hc, fun z => absurd rfl z⟩
theorem gd' {x a b : Int32} {h : zH} {F T : zH → Prop} (ht : a ≤ x → x ≤ b → T h) (hf : ¬ (a ≤ x ∧ x ≤ b) → F h) : ∃ (v : Int32) (h1 : zH), R_X7_within [.int x, .int a, .int b] h (some (.int v)) h1 ∧ (¬ v = 0 → T h1) ∧ (¬ ¬ v = 0 → F h1) := by
  by_cases hc : a ≤ x ∧ x ≤ b
  · exact ⟨1, h, c_in_t hc.1 hc.2, fun _ => ht hc.1 hc.2, fun z => absurd (by decide) z⟩
  · exact ⟨0, h, c_in_f hc, fun z => absurd rfl z, fun _ => hf hc⟩
theorem ge {x a b : Int32} {h : zH} {F T : zH → Prop} (hf : ¬ (a ≤ x ∧ x ≤ b) → F h) (ht : a ≤ x → x ≤ b → T h) : ∃ (v : Int32) (h1 : zH), R_X8_in [.int x, .int a, .int b] h (some (.int v)) h1 ∧ (v = 0 → F h1) ∧ (¬ (v = 0) → T h1) := by
  by_cases hc : a ≤ x ∧ x ≤ b
  · exact ⟨1, h, m_in_t hc.1 hc.2, fun z => absurd z (by decide), fun _ => ht hc.1 hc.2⟩
  · exact ⟨0, h, m_in_f hc, fun _ => hf hc, fun z => absurd rfl z⟩
theorem ge' {x a b : Int32} {h : zH} {F T : zH → Prop} (ht : a ≤ x → x ≤ b → T h) (hf : ¬ (a ≤ x ∧ x ≤ b) → F h) : ∃ (v : Int32) (h1 : zH), R_X8_in [.int x, .int a, .int b] h (some (.int v)) h1 ∧ (¬ v = 0 → T h1) ∧ (¬ ¬ v = 0 → F h1) := by
  by_cases hc : a ≤ x ∧ x ≤ b
  · exact ⟨1, h, m_in_t hc.1 hc.2, fun _ => ht hc.1 hc.2, fun z => absurd (by decide) z⟩
  · exact ⟨0, h, m_in_f hc, fun z => absurd rfl z, fun _ => hf hc⟩
theorem gd_isRight {x : Int32} {h : zH} {F T : zH → Prop} (hf : ¬ ((0) ≤ x ∧ x ≤ 900) → F h) (ht : (0) ≤ x → x ≤ 900 → T h) : ∃ (v : Int32) (h1 : zH), R_X7_isRight [.int x] h (some (.int v)) h1 ∧ (v = 0 → F h1) ∧ (¬ (v = 0) → T h1) := by
  by_cases hc : (0) ≤ x ∧ x ≤ 900
  · exact ⟨1, h, c_isRight_t hc.1 hc.2, fun z => absurd z (by decide), fun _ => ht hc.1 hc.2⟩
  · exact ⟨0, h, c_isRight_f hc, fun _ => hf hc, fun z => absurd rfl z⟩
theorem gd_isRight' {x : Int32} {h : zH} {F T : zH → Prop} (ht : (0) ≤ x → x ≤ 900 → T h) (hf : ¬ ((0) ≤ x ∧ x ≤ 900) → F h) : ∃ (v : Int32) (h1 : zH), R_X7_isRight [.int x] h (some (.int v)) h1 ∧ (¬ v = 0 → T h1) ∧ (¬ ¬ v = 0 → F h1) := by
  by_cases hc : (0) ≤ x ∧ x ≤ 900
  · exact ⟨1, h, c_isRight_t hc.1 hc.2, fun _ => ht hc.1 hc.2, fun z => absurd (by decide) z⟩
  · exact ⟨0, h, c_isRight_f hc, fun z => absurd rfl z, fun _ => hf hc⟩
theorem gd_isColour {x : Int32} {h : zH} {F T : zH → Prop} (hf : ¬ ((0) ≤ x ∧ x ≤ 3) → F h) (ht : (0) ≤ x → x ≤ 3 → T h) : ∃ (v : Int32) (h1 : zH), R_X7_isColour [.int x] h (some (.int v)) h1 ∧ (v = 0 → F h1) ∧ (¬ (v = 0) → T h1) := by
  by_cases hc : (0) ≤ x ∧ x ≤ 3
  · exact ⟨1, h, c_isColour_t hc.1 hc.2, fun z => absurd z (by decide), fun _ => ht hc.1 hc.2⟩
  · exact ⟨0, h, c_isColour_f hc, fun _ => hf hc, fun z => absurd rfl z⟩
theorem gd_isColour' {x : Int32} {h : zH} {F T : zH → Prop} (ht : (0) ≤ x → x ≤ 3 → T h) (hf : ¬ ((0) ≤ x ∧ x ≤ 3) → F h) : ∃ (v : Int32) (h1 : zH), R_X7_isColour [.int x] h (some (.int v)) h1 ∧ (¬ v = 0 → T h1) ∧ (¬ ¬ v = 0 → F h1) := by
  by_cases hc : (0) ≤ x ∧ x ≤ 3
  · exact ⟨1, h, c_isColour_t hc.1 hc.2, fun _ => ht hc.1 hc.2, fun z => absurd (by decide) z⟩
  · exact ⟨0, h, c_isColour_f hc, fun z => absurd rfl z, fun _ => hf hc⟩
theorem gd_isMirrors {x : Int32} {h : zH} {F T : zH → Prop} (hf : ¬ ((0) ≤ x ∧ x ≤ 5) → F h) (ht : (0) ≤ x → x ≤ 5 → T h) : ∃ (v : Int32) (h1 : zH), R_X7_isMirrors [.int x] h (some (.int v)) h1 ∧ (v = 0 → F h1) ∧ (¬ (v = 0) → T h1) := by
  by_cases hc : (0) ≤ x ∧ x ≤ 5
  · exact ⟨1, h, c_isMirrors_t hc.1 hc.2, fun z => absurd z (by decide), fun _ => ht hc.1 hc.2⟩
  · exact ⟨0, h, c_isMirrors_f hc, fun _ => hf hc, fun z => absurd rfl z⟩
theorem gd_isMirrors' {x : Int32} {h : zH} {F T : zH → Prop} (ht : (0) ≤ x → x ≤ 5 → T h) (hf : ¬ ((0) ≤ x ∧ x ≤ 5) → F h) : ∃ (v : Int32) (h1 : zH), R_X7_isMirrors [.int x] h (some (.int v)) h1 ∧ (¬ v = 0 → T h1) ∧ (¬ ¬ v = 0 → F h1) := by
  by_cases hc : (0) ≤ x ∧ x ≤ 5
  · exact ⟨1, h, c_isMirrors_t hc.1 hc.2, fun _ => ht hc.1 hc.2, fun z => absurd (by decide) z⟩
  · exact ⟨0, h, c_isMirrors_f hc, fun z => absurd rfl z, fun _ => hf hc⟩
theorem gd_isCause {x : Int32} {h : zH} {F T : zH → Prop} (hf : ¬ ((0) ≤ x ∧ x ≤ 15) → F h) (ht : (0) ≤ x → x ≤ 15 → T h) : ∃ (v : Int32) (h1 : zH), R_X7_isCause [.int x] h (some (.int v)) h1 ∧ (v = 0 → F h1) ∧ (¬ (v = 0) → T h1) := by
  by_cases hc : (0) ≤ x ∧ x ≤ 15
  · exact ⟨1, h, c_isCause_t hc.1 hc.2, fun z => absurd z (by decide), fun _ => ht hc.1 hc.2⟩
  · exact ⟨0, h, c_isCause_f hc, fun _ => hf hc, fun z => absurd rfl z⟩
theorem gd_isCause' {x : Int32} {h : zH} {F T : zH → Prop} (ht : (0) ≤ x → x ≤ 15 → T h) (hf : ¬ ((0) ≤ x ∧ x ≤ 15) → F h) : ∃ (v : Int32) (h1 : zH), R_X7_isCause [.int x] h (some (.int v)) h1 ∧ (¬ v = 0 → T h1) ∧ (¬ ¬ v = 0 → F h1) := by
  by_cases hc : (0) ≤ x ∧ x ≤ 15
  · exact ⟨1, h, c_isCause_t hc.1 hc.2, fun _ => ht hc.1 hc.2, fun z => absurd (by decide) z⟩
  · exact ⟨0, h, c_isCause_f hc, fun z => absurd rfl z, fun _ => hf hc⟩
theorem gd_isSet {x : Int32} {h : zH} {F T : zH → Prop} (hf : ¬ ((0) ≤ x ∧ x ≤ 65535) → F h) (ht : (0) ≤ x → x ≤ 65535 → T h) : ∃ (v : Int32) (h1 : zH), R_X7_isSet [.int x] h (some (.int v)) h1 ∧ (v = 0 → F h1) ∧ (¬ (v = 0) → T h1) := by
  by_cases hc : (0) ≤ x ∧ x ≤ 65535
  · exact ⟨1, h, c_isSet_t hc.1 hc.2, fun z => absurd z (by decide), fun _ => ht hc.1 hc.2⟩
  · exact ⟨0, h, c_isSet_f hc, fun _ => hf hc, fun z => absurd rfl z⟩
theorem gd_isSet' {x : Int32} {h : zH} {F T : zH → Prop} (ht : (0) ≤ x → x ≤ 65535 → T h) (hf : ¬ ((0) ≤ x ∧ x ≤ 65535) → F h) : ∃ (v : Int32) (h1 : zH), R_X7_isSet [.int x] h (some (.int v)) h1 ∧ (¬ v = 0 → T h1) ∧ (¬ ¬ v = 0 → F h1) := by
  by_cases hc : (0) ≤ x ∧ x ≤ 65535
  · exact ⟨1, h, c_isSet_t hc.1 hc.2, fun _ => ht hc.1 hc.2, fun z => absurd (by decide) z⟩
  · exact ⟨0, h, c_isSet_f hc, fun z => absurd rfl z, fun _ => hf hc⟩
theorem gd_isCold {x : Int32} {h : zH} {F T : zH → Prop} (hf : ¬ ((-60) ≤ x ∧ x ≤ 40) → F h) (ht : (-60) ≤ x → x ≤ 40 → T h) : ∃ (v : Int32) (h1 : zH), R_X7_isCold [.int x] h (some (.int v)) h1 ∧ (v = 0 → F h1) ∧ (¬ (v = 0) → T h1) := by
  by_cases hc : (-60) ≤ x ∧ x ≤ 40
  · exact ⟨1, h, c_isCold_t hc.1 hc.2, fun z => absurd z (by decide), fun _ => ht hc.1 hc.2⟩
  · exact ⟨0, h, c_isCold_f hc, fun _ => hf hc, fun z => absurd rfl z⟩
theorem gd_isCold' {x : Int32} {h : zH} {F T : zH → Prop} (ht : (-60) ≤ x → x ≤ 40 → T h) (hf : ¬ ((-60) ≤ x ∧ x ≤ 40) → F h) : ∃ (v : Int32) (h1 : zH), R_X7_isCold [.int x] h (some (.int v)) h1 ∧ (¬ v = 0 → T h1) ∧ (¬ ¬ v = 0 → F h1) := by
  by_cases hc : (-60) ≤ x ∧ x ≤ 40
  · exact ⟨1, h, c_isCold_t hc.1 hc.2, fun _ => ht hc.1 hc.2, fun z => absurd (by decide) z⟩
  · exact ⟨0, h, c_isCold_f hc, fun z => absurd rfl z, fun _ => hf hc⟩
theorem m_isAsked_t {x y : Int32} {h : zH} (h1 : 0 ≤ x ∧ x ≤ 65535) (h2 : 0 ≤ y ∧ y ≤ 900) : R_X8_isAsked [.int x, .int y] h (some (.int 1)) h := by
  refine r_X8_isAsked _ _ _ _ _ (Or.inr rfl) (t_X8_isAsked_0 _ _ _ _ (ge (fun n => absurd h1 n) (fun _ _ => ge (fun n => absurd h2 n) (fun _ _ => ⟨rfl, rfl⟩))))
theorem m_isAsked_f {x y : Int32} {h : zH} (hn : ¬ ((0 ≤ x ∧ x ≤ 65535) ∧ (0 ≤ y ∧ y ≤ 900))) : R_X8_isAsked [.int x, .int y] h (some (.int 0)) h := by
  refine r_X8_isAsked _ _ _ _ _ (Or.inl rfl) (t_X8_isAsked_0 _ _ _ _ (ge (fun _ => ⟨rfl, rfl⟩) (fun a b => ge (fun _ => ⟨rfl, rfl⟩) (fun c d => absurd ⟨⟨a, b⟩, c, d⟩ hn))))
theorem ge_isAsked {x y : Int32} {h : zH} {F T : zH → Prop} (hf : ¬ ((0 ≤ x ∧ x ≤ 65535) ∧ (0 ≤ y ∧ y ≤ 900)) → F h) (ht : (0 ≤ x ∧ x ≤ 65535) → (0 ≤ y ∧ y ≤ 900) → T h) : ∃ (v : Int32) (h1 : zH), R_X8_isAsked [.int x, .int y] h (some (.int v)) h1 ∧ (v = 0 → F h1) ∧ (¬ (v = 0) → T h1) := by
  by_cases hc : (0 ≤ x ∧ x ≤ 65535) ∧ (0 ≤ y ∧ y ≤ 900)
  · exact ⟨1, h, m_isAsked_t hc.1 hc.2, fun z => absurd z (by decide), fun _ => ht hc.1 hc.2⟩
  · exact ⟨0, h, m_isAsked_f hc, fun _ => hf hc, fun z => absurd rfl z⟩
theorem ge_isAsked' {x y : Int32} {h : zH} {F T : zH → Prop} (ht : (0 ≤ x ∧ x ≤ 65535) → (0 ≤ y ∧ y ≤ 900) → T h) (hf : ¬ ((0 ≤ x ∧ x ≤ 65535) ∧ (0 ≤ y ∧ y ≤ 900)) → F h) : ∃ (v : Int32) (h1 : zH), R_X8_isAsked [.int x, .int y] h (some (.int v)) h1 ∧ (¬ v = 0 → T h1) ∧ (¬ ¬ v = 0 → F h1) := by
  by_cases hc : (0 ≤ x ∧ x ≤ 65535) ∧ (0 ≤ y ∧ y ≤ 900)
  · exact ⟨1, h, m_isAsked_t hc.1 hc.2, fun _ => ht hc.1 hc.2, fun z => absurd (by decide) z⟩
  · exact ⟨0, h, m_isAsked_f hc, fun z => absurd rfl z, fun _ => hf hc⟩
