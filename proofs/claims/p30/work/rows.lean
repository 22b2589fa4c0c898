section
/-! A start that meets every premise and at which the law ends otherwise than is claimed: the cell of the static row TABLES_FIRST bears a record of the kind 'array of ints' that isn't the one found under the name of int arrays: without a superclass, with a clone of its own, which throws. The constructor of Setup calls that clone; what it throws leaves the law. -/
def bad_cls : Class := { start1.cArr "an int row of no kin" 16 .int with super := none, methods := #[Lib.HandJ.method "clone" "()Ljava/lang/Object;" [] (some (.object "java/lang/Object")) 0x1 1 ⟨#[0x2a, 0xbf]⟩] }
def bad_s : State := { start1.about with
  vm := { start1.about.vm with classes := start1.about.vm.classes.push bad_cls }
  heap := start1.about.heap.modify 2 (fun c => { c with cls := 23 }) }
def bad_k : Nat → State := fun n => stepsAlone start1.p0.tables start1.e0 n bad_s
def bad_low (f : Frame) : Bool := match f with
  | .native g => decide (g.method = ⟨0, 0⟩) && g.args.isEmpty && decide (g.stage = 0) && g.saved.isEmpty && !g.awaiting && g.answer.isNone && g.locked.isNone && decide (g.words = 0)
  | _ => false
theorem bad_low_eq {f : Frame} (h : bad_low f = true) : f = .native { method := ⟨0, 0⟩, args := #[] } := by
  cases f with
  | native g =>
    cases g
    simp only [bad_low, Bool.and_eq_true, decide_eq_true_eq, Array.isEmpty_iff, Bool.not_eq_true', Option.isNone_iff_eq_none] at h
    obtain ⟨⟨⟨⟨⟨⟨⟨h1, h2⟩, h3⟩, h4⟩, h5⟩, h6⟩, h7⟩, h8⟩ := h
    subst h1 h2 h3 h4 h5 h6 h7 h8
    rfl
  | _ => exact absurd h Bool.false_ne_true
def bad_in (s : State) : Bool := match s.frames.reverse with
  | f :: r => bad_low f && (match r with
    | [] => false
    | [.throwing _] => false
    | _ => true)
  | [] => false
theorem bad_in_within {s : State} (h : bad_in s = true) : Within s Lib.HandBits.below0 := by
  unfold bad_in at h
  cases hr : s.frames.reverse with
  | nil => rw [hr] at h; exact absurd h Bool.false_ne_true
  | cons f r =>
    rw [hr] at h
    have hf : s.frames = r.reverse ++ [f] := by rw [← List.reverse_reverse s.frames, hr, List.reverse_cons]
    have h' := (Bool.and_eq_true _ _).mp h
    have h1 := bad_low_eq h'.1
    refine ⟨r.reverse, by rw [hf, h1]; rfl, ?_, ?_⟩
    · intro h0
      have h2 : r = [] := List.reverse_eq_nil_iff.mp h0
      subst h2
      exact Bool.false_ne_true h'.2
    · intro a h0
      have h2 : r = [.throwing a] := by rw [← List.reverse_reverse r, h0]; rfl
      subst h2
      exact Bool.false_ne_true h'.2
def bad_end (s : State) : Bool := match s.frames with
  | [.throwing a, f] => decide (a = 2) && bad_low f
  | _ => false
theorem bad_end_ended {s : State} (h : bad_end s = true) : Ended s Lib.HandBits.below0 (.threw 2) := by
  unfold bad_end at h
  split at h
  · rename_i a f hf
    have h' := (Bool.and_eq_true _ _).mp h
    have h1 : a = 2 := of_decide_eq_true h'.1
    subst h1
    show s.frames = _
    rw [hf, bad_low_eq h'.2]
    rfl
  · exact absurd h Bool.false_ne_true
set_option maxRecDepth 100000 in
theorem bad_runs : decide ((bad_k 23).status = Status.running) = true := by decide +kernel
set_option maxRecDepth 100000 in
theorem bad_ends : bad_end (bad_k 23) = true := by decide +kernel
set_option maxRecDepth 100000 in
theorem bad_within : (List.range 23).all (fun n => bad_in (bad_k n)) = true := by decide +kernel
theorem bad_find {s t : State} {k : Class} {n : String} {c : ClassId} (hc : t.vm.classes = s.vm.classes.push k) (h : s.vm.findClass n = some c) : t.vm.findClass n = some c := by
  unfold Vm.findClass at h ⊢
  rw [hc, Array.findIdx?_push, h]
  rfl
theorem bad_get {s t : State} {k q : Class} {c : Nat} (hc : t.vm.classes = s.vm.classes.push k) (h : s.vm.classes[c]? = some q) : t.vm.classes[c]? = some q := by
  have hl : c < s.vm.classes.size := (Array.getElem?_eq_some_iff.mp h).1
  rw [hc, Array.getElem?_push_lt hl]
  rw [Array.getElem?_eq_getElem hl] at h
  exact h
theorem bad_code {s t : State} {k : Class} {a : Array Value} {y : MethodName} {b : ByteArray} {ml : Nat} {r : Option FieldType} (hc : t.vm.classes = s.vm.classes.push k)
    (h : (Cond.code y b ml r).before a s = true) : (Cond.code y b ml r).before a t = true := by
  have hn : ∀ m, s.methodNamed? y = some m → t.methodNamed? y = some m := by
    intro m hm
    unfold State.methodNamed? at hm ⊢
    cases h1 : s.vm.findClass y.cls with
    | none => rw [h1] at hm; simp at hm
    | some c =>
      rw [h1] at hm
      rw [bad_find hc h1]
      cases h2 : s.vm.classes[c]? with
      | none => simp [h2] at hm
      | some q =>
        have h3 := bad_get hc h2
        simp only [h2, Option.bind_eq_bind, Option.bind_some] at hm
        simp only [h3, Option.bind_eq_bind, Option.bind_some]
        exact hm
  have hm : ∀ m meth, s.vm.method? m = some meth → t.vm.method? m = some meth := by
    intro m meth hm
    unfold Vm.method? at hm ⊢
    cases h2 : s.vm.classes[m.cls]? with
    | none => simp [h2] at hm
    | some q =>
      have h3 := bad_get hc h2
      simp only [h2, Option.bind_eq_bind, Option.bind_some] at hm
      simp only [h3, Option.bind_eq_bind, Option.bind_some]
      exact hm
  unfold Cond.before Cond.holds at h ⊢
  simp only [Cond.value] at h ⊢
  cases h1 : s.methodNamed? y with
  | none => simp [h1] at h
  | some m =>
    rw [hn m h1]
    rw [h1] at h
    cases h2 : s.vm.method? m with
    | none => simp [h2] at h
    | some meth =>
      simp only [Option.bind_some, h2] at h
      simp only [Option.bind_some, hm m meth h2]
      exact h
set_option maxRecDepth 100000 in
theorem bad_o_1_0 : (tables_1_1.take 40).all (fun c => su_isCode c || c.before start1.args0 bad_s) = true := by decide +kernel
set_option maxRecDepth 100000 in
theorem bad_o_1_1 : ((tables_1_1.drop 40).take 40).all (fun c => su_isCode c || c.before start1.args0 bad_s) = true := by decide +kernel
set_option maxRecDepth 100000 in
theorem bad_o_1_2 : (((tables_1_1.drop 40).drop 40).take 40).all (fun c => su_isCode c || c.before start1.args0 bad_s) = true := by decide +kernel
set_option maxRecDepth 100000 in
theorem bad_o_1_3 : ((((tables_1_1.drop 40).drop 40).drop 40).take 40).all (fun c => su_isCode c || c.before start1.args0 bad_s) = true := by decide +kernel
set_option maxRecDepth 100000 in
theorem bad_o_1_4 : (((((tables_1_1.drop 40).drop 40).drop 40).drop 40).take 40).all (fun c => su_isCode c || c.before start1.args0 bad_s) = true := by decide +kernel
set_option maxRecDepth 100000 in
theorem bad_o_1_5 : (((((tables_1_1.drop 40).drop 40).drop 40).drop 40).drop 40).all (fun c => su_isCode c || c.before start1.args0 bad_s) = true := by decide +kernel
theorem bad_o_1 : tables_1_1.all (fun c => su_isCode c || c.before start1.args0 bad_s) = true := (start1.su_all_split _ 40 tables_1_1 bad_o_1_0 (start1.su_all_split _ 40 (tables_1_1.drop 40) bad_o_1_1 (start1.su_all_split _ 40 ((tables_1_1.drop 40).drop 40) bad_o_1_2 (start1.su_all_split _ 40 (((tables_1_1.drop 40).drop 40).drop 40) bad_o_1_3 (start1.su_all_split _ 40 ((((tables_1_1.drop 40).drop 40).drop 40).drop 40) bad_o_1_4 bad_o_1_5)))))
set_option maxRecDepth 100000 in
theorem bad_o_2_0 : (tables_1_2.take 40).all (fun c => su_isCode c || c.before start1.args0 bad_s) = true := by decide +kernel
set_option maxRecDepth 100000 in
theorem bad_o_2_1 : ((tables_1_2.drop 40).take 40).all (fun c => su_isCode c || c.before start1.args0 bad_s) = true := by decide +kernel
set_option maxRecDepth 100000 in
theorem bad_o_2_2 : (((tables_1_2.drop 40).drop 40).take 40).all (fun c => su_isCode c || c.before start1.args0 bad_s) = true := by decide +kernel
set_option maxRecDepth 100000 in
theorem bad_o_2_3 : ((((tables_1_2.drop 40).drop 40).drop 40).take 40).all (fun c => su_isCode c || c.before start1.args0 bad_s) = true := by decide +kernel
set_option maxRecDepth 100000 in
theorem bad_o_2_4 : (((((tables_1_2.drop 40).drop 40).drop 40).drop 40).take 40).all (fun c => su_isCode c || c.before start1.args0 bad_s) = true := by decide +kernel
set_option maxRecDepth 100000 in
theorem bad_o_2_5 : (((((tables_1_2.drop 40).drop 40).drop 40).drop 40).drop 40).all (fun c => su_isCode c || c.before start1.args0 bad_s) = true := by decide +kernel
theorem bad_o_2 : tables_1_2.all (fun c => su_isCode c || c.before start1.args0 bad_s) = true := (start1.su_all_split _ 40 tables_1_2 bad_o_2_0 (start1.su_all_split _ 40 (tables_1_2.drop 40) bad_o_2_1 (start1.su_all_split _ 40 ((tables_1_2.drop 40).drop 40) bad_o_2_2 (start1.su_all_split _ 40 (((tables_1_2.drop 40).drop 40).drop 40) bad_o_2_3 (start1.su_all_split _ 40 ((((tables_1_2.drop 40).drop 40).drop 40).drop 40) bad_o_2_4 bad_o_2_5)))))
set_option maxRecDepth 100000 in
theorem bad_o_3_0 : (tables_1_3.take 40).all (fun c => su_isCode c || c.before start1.args0 bad_s) = true := by decide +kernel
set_option maxRecDepth 100000 in
theorem bad_o_3_1 : ((tables_1_3.drop 40).take 40).all (fun c => su_isCode c || c.before start1.args0 bad_s) = true := by decide +kernel
set_option maxRecDepth 100000 in
theorem bad_o_3_2 : (((tables_1_3.drop 40).drop 40).take 40).all (fun c => su_isCode c || c.before start1.args0 bad_s) = true := by decide +kernel
set_option maxRecDepth 100000 in
theorem bad_o_3_3 : ((((tables_1_3.drop 40).drop 40).drop 40).take 40).all (fun c => su_isCode c || c.before start1.args0 bad_s) = true := by decide +kernel
set_option maxRecDepth 100000 in
theorem bad_o_3_4 : (((((tables_1_3.drop 40).drop 40).drop 40).drop 40).take 40).all (fun c => su_isCode c || c.before start1.args0 bad_s) = true := by decide +kernel
set_option maxRecDepth 100000 in
theorem bad_o_3_5 : (((((tables_1_3.drop 40).drop 40).drop 40).drop 40).drop 40).all (fun c => su_isCode c || c.before start1.args0 bad_s) = true := by decide +kernel
theorem bad_o_3 : tables_1_3.all (fun c => su_isCode c || c.before start1.args0 bad_s) = true := (start1.su_all_split _ 40 tables_1_3 bad_o_3_0 (start1.su_all_split _ 40 (tables_1_3.drop 40) bad_o_3_1 (start1.su_all_split _ 40 ((tables_1_3.drop 40).drop 40) bad_o_3_2 (start1.su_all_split _ 40 (((tables_1_3.drop 40).drop 40).drop 40) bad_o_3_3 (start1.su_all_split _ 40 ((((tables_1_3.drop 40).drop 40).drop 40).drop 40) bad_o_3_4 bad_o_3_5)))))
set_option maxRecDepth 100000 in
theorem bad_o_4_0 : (tables_1_4.take 40).all (fun c => su_isCode c || c.before start1.args0 bad_s) = true := by decide +kernel
set_option maxRecDepth 100000 in
theorem bad_o_4_1 : ((tables_1_4.drop 40).take 40).all (fun c => su_isCode c || c.before start1.args0 bad_s) = true := by decide +kernel
set_option maxRecDepth 100000 in
theorem bad_o_4_2 : (((tables_1_4.drop 40).drop 40).take 40).all (fun c => su_isCode c || c.before start1.args0 bad_s) = true := by decide +kernel
set_option maxRecDepth 100000 in
theorem bad_o_4_3 : ((((tables_1_4.drop 40).drop 40).drop 40).take 40).all (fun c => su_isCode c || c.before start1.args0 bad_s) = true := by decide +kernel
set_option maxRecDepth 100000 in
theorem bad_o_4_4 : ((((tables_1_4.drop 40).drop 40).drop 40).drop 40).all (fun c => su_isCode c || c.before start1.args0 bad_s) = true := by decide +kernel
theorem bad_o_4 : tables_1_4.all (fun c => su_isCode c || c.before start1.args0 bad_s) = true := (start1.su_all_split _ 40 tables_1_4 bad_o_4_0 (start1.su_all_split _ 40 (tables_1_4.drop 40) bad_o_4_1 (start1.su_all_split _ 40 ((tables_1_4.drop 40).drop 40) bad_o_4_2 (start1.su_all_split _ 40 (((tables_1_4.drop 40).drop 40).drop 40) bad_o_4_3 bad_o_4_4))))
theorem bad_o : tables_1.all (fun c => su_isCode c || c.before start1.args0 bad_s) = true := by
  unfold tables_1
  simp only [List.all_append, bad_o_1, bad_o_2, bad_o_3, bad_o_4]
  rfl
theorem bad_words : ∀ c ∈ (Cond.code x code maxLocals ret :: tables_1), c.before start1.args0 bad_s = true := by
  intro c hc
  have h0 := start1.words c hc
  cases hq : su_isCode c with
  | true =>
    cases c <;> simp only [su_isCode, Bool.false_eq_true] at hq
    exact bad_code (s := start1.about) (k := bad_cls) rfl h0
  | false =>
    rcases List.mem_cons.mp hc with h | h
    · subst h; simp [su_isCode] at hq
    · have h1 := List.all_eq_true.mp bad_o c h
      simpa only [hq, Bool.false_or] using h1
set_option maxRecDepth 100000 in
theorem bad_start : AtStart classFile x code maxLocals ret World_1 tables_1 room_1 Calls_1 rest_1 Pre_1 launch0 start1.p0 start1.e0 bad_s ⟨0, 0⟩ start1.args0 Lib.HandBits.below0 :=
  ⟨lists_1, trivial, launch0.admits_env _ _ _, launch0.least_env, fairChoices_fair.cas, fairChoices_fair.clock, rfl, by decide +kernel, by decide +kernel,
    (Spec.applies_iff rfl).mpr ⟨rfl, rfl, rfl, by decide +kernel, by decide +kernel, by decide +kernel, launch0.hasRoom_least _ room_1 (by decide +kernel) (by decide +kernel) (by decide +kernel) (by decide +kernel) (by decide +kernel) (by decide +kernel), atoms_intro bad_words⟩,
    trivial, (show rest_1_c.before start1.args0 bad_s = true by decide +kernel), (show (Cond.and given_1 narrow_1).before start1.args0 bad_s = true by decide +kernel)⟩
theorem bad_run : (∀ k, k < 23 → Within (stepsAlone start1.p0.tables start1.e0 k bad_s) Lib.HandBits.below0) ∧ (stepsAlone start1.p0.tables start1.e0 23 bad_s).status = Status.running ∧ Ended (stepsAlone start1.p0.tables start1.e0 23 bad_s) Lib.HandBits.below0 (.threw 2) :=
  ⟨fun k hk => bad_in_within (List.all_eq_true.mp bad_within k (List.mem_range.mpr hk)), of_decide_eq_true bad_runs, bad_end_ended bad_ends⟩
/-- The Statement's own words for 'refuted': the law ends, but by a throw. -/
theorem refuted_1_1 : RefutedClaimed_1_1 :=
  ⟨launch0, start1.p0, start1.e0, bad_s, ⟨0, 0⟩, start1.args0, Lib.HandBits.below0, rfl, bad_start, 23, .threw 2, bad_run.1, bad_run.2.1, bad_run.2.2, fun h => by obtain ⟨_, ⟨v, hv⟩, _⟩ := h; cases hv⟩
theorem refuted_1_2 : RefutedClaimed_1_2 :=
  ⟨launch0, start1.p0, start1.e0, bad_s, ⟨0, 0⟩, start1.args0, Lib.HandBits.below0, rfl, bad_start, 23, .threw 2, bad_run.1, bad_run.2.1, bad_run.2.2, fun h => by obtain ⟨_, ⟨v, hv⟩, _⟩ := h; cases hv⟩
/-- So neither half of the owed statement holds. -/
theorem not_claimed_1 : ¬ Claimed_1_1 := by
  intro h
  obtain ⟨hL, hW, hA, _, hC, hK, hf, ha, hh, hap, hc, hr, hp⟩ := bad_start
  obtain ⟨n, o, h1, h2, h3, h4⟩ := h launch0 rfl hL hW start1.p0 start1.e0 hA hC hK bad_s ⟨0, 0⟩ start1.args0 Lib.HandBits.below0 hf ha hh hap ⟨hc, hr, hp⟩
  obtain ⟨rfl, rfl⟩ := the_end_unique (f := fun k => stepsAlone start1.p0.tables start1.e0 k bad_s) bad_run.1 bad_run.2.2 h1 h3
  obtain ⟨_, ⟨v, hv⟩, _⟩ := h4
  cases hv
theorem not_claimed_2 : ¬ Claimed_1_2 := by
  intro h
  obtain ⟨hL, hW, hA, _, hC, hK, hf, ha, hh, hap, hc, hr, hp⟩ := bad_start
  obtain ⟨n, o, h1, h2, h3, h4⟩ := h launch0 rfl hL hW start1.p0 start1.e0 hA hC hK bad_s ⟨0, 0⟩ start1.args0 Lib.HandBits.below0 hf ha hh hap ⟨hc, hr, hp⟩
  obtain ⟨rfl, rfl⟩ := the_end_unique (f := fun k => stepsAlone start1.p0.tables start1.e0 k bad_s) bad_run.1 bad_run.2.2 h1 h3
  obtain ⟨_, ⟨v, hv⟩, _⟩ := h4
  cases hv
theorem not_owed : ¬ (Claimed_1_1 ∧ Claimed_1_2) := fun h => not_claimed_1 h.1
end
