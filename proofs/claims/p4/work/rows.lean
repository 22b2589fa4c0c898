section
/-! A start that meets every premise and at which the law's run stops inside the constructor of Setup: the cell of the static row TABLES_FIRST bears a record of the kind 'array of ints' that isn't the one found under the name of int arrays: without a superclass, with a clone of its own that has no instruction. -/
def bad_cls : Class := { start1.cArr "an int row of no kin" 16 .int with super := none, methods := #[Lib.HandJ.method "clone" "()Ljava/lang/Object;" [] (some (.object "java/lang/Object")) 0x1 1 ⟨#[]⟩] }
def bad_s : State := { start1.about with
  vm := { start1.about.vm with classes := start1.about.vm.classes.push bad_cls }
  heap := start1.about.heap.modify 2 (fun c => { c with cls := 23 }) }
def bad_k : Nat → State := fun n => stepsAlone start1.p0.tables start1.e0 n bad_s
def bad_in (s : State) : Bool := match s.frames with
  | .java _ :: _ :: _ => true
  | .invoking _ _ :: _ :: _ => true
  | _ => false
set_option maxRecDepth 100000 in
theorem bad_stops : decide ((bad_k 18).status = Status.running) = false := by decide +kernel
set_option maxRecDepth 100000 in
theorem bad_within : (List.range 18).all (fun n => bad_in (bad_k n)) = true := by decide +kernel
theorem bad_find {s t : State} {k : Class} {n : String} {c : ClassId} (hc : t.vm.classes = s.vm.classes.push k) (h : s.vm.findClass n = some c) : t.vm.findClass n = some c := by
  unfold Vm.findClass at h ⊢
  rw [hc, Array.findIdx?_push, h]
  rfl
theorem bad_get {s t : State} {k q : Class} {c : Nat} (hc : t.vm.classes = s.vm.classes.push k) (h : s.vm.classes[c]? = some q) : t.vm.classes[c]? = some q := by
  have hl : c < s.vm.classes.size := (Array.getElem?_eq_some_iff.mp h).1
  rw [hc, Array.getElem?_push_lt hl]
  rw [Array.getElem?_eq_getElem hl] at h
  exact h
theorem bad_code {s t : State} {k : Class} {a : Array Value} {y : MethodName} {b : ByteArray} {ml : Nat} {r : Option FieldType} (hc : t.vm.classes = s.vm.classes.push k)
    (h : (Cond.code y b ml r).before a s = true) : (Cond.code y b ml r).before a t = true := by
  have hn : ∀ m, s.methodNamed? y = some m → t.methodNamed? y = some m := by
    intro m hm
    unfold State.methodNamed? at hm ⊢
    cases h1 : s.vm.findClass y.cls with
    | none => rw [h1] at hm; simp at hm
    | some c =>
      rw [h1] at hm
      rw [bad_find hc h1]
      cases h2 : s.vm.classes[c]? with
      | none => simp [h2] at hm
      | some q =>
        have h3 := bad_get hc h2
        simp only [h2, Option.bind_eq_bind, Option.bind_some] at hm
        simp only [h3, Option.bind_eq_bind, Option.bind_some]
        exact hm
  have hm : ∀ m meth, s.vm.method? m = some meth → t.vm.method? m = some meth := by
    intro m meth hm
    unfold Vm.method? at hm ⊢
    cases h2 : s.vm.classes[m.cls]? with
    | none => simp [h2] at hm
    | some q =>
      have h3 := bad_get hc h2
      simp only [h2, Option.bind_eq_bind, Option.bind_some] at hm
      simp only [h3, Option.bind_eq_bind, Option.bind_some]
      exact hm
  unfold Cond.before Cond.holds at h ⊢
  simp only [Cond.value] at h ⊢
  cases h1 : s.methodNamed? y with
  | none => simp [h1] at h
  | some m =>
    rw [hn m h1]
    rw [h1] at h
    cases h2 : s.vm.method? m with
    | none => simp [h2] at h
    | some meth =>
      simp only [Option.bind_some, h2] at h
      simp only [Option.bind_some, hm m meth h2]
      exact h
set_option maxRecDepth 100000 in
theorem bad_o_1_0 : (tables_1_1.take 40).all (fun c => su_isCode c || c.before start1.args0 bad_s) = true := by decide +kernel
set_option maxRecDepth 100000 in
theorem bad_o_1_1 : ((tables_1_1.drop 40).take 40).all (fun c => su_isCode c || c.before start1.args0 bad_s) = true := by decide +kernel
set_option maxRecDepth 100000 in
theorem bad_o_1_2 : (((tables_1_1.drop 40).drop 40).take 40).all (fun c => su_isCode c || c.before start1.args0 bad_s) = true := by decide +kernel
set_option maxRecDepth 100000 in
theorem bad_o_1_3 : ((((tables_1_1.drop 40).drop 40).drop 40).take 40).all (fun c => su_isCode c || c.before start1.args0 bad_s) = true := by decide +kernel
set_option maxRecDepth 100000 in
theorem bad_o_1_4 : (((((tables_1_1.drop 40).drop 40).drop 40).drop 40).take 40).all (fun c => su_isCode c || c.before start1.args0 bad_s) = true := by decide +kernel
set_option maxRecDepth 100000 in
theorem bad_o_1_5 : (((((tables_1_1.drop 40).drop 40).drop 40).drop 40).drop 40).all (fun c => su_isCode c || c.before start1.args0 bad_s) = true := by decide +kernel
theorem bad_o_1 : tables_1_1.all (fun c => su_isCode c || c.before start1.args0 bad_s) = true := (start1.su_all_split _ 40 tables_1_1 bad_o_1_0 (start1.su_all_split _ 40 (tables_1_1.drop 40) bad_o_1_1 (start1.su_all_split _ 40 ((tables_1_1.drop 40).drop 40) bad_o_1_2 (start1.su_all_split _ 40 (((tables_1_1.drop 40).drop 40).drop 40) bad_o_1_3 (start1.su_all_split _ 40 ((((tables_1_1.drop 40).drop 40).drop 40).drop 40) bad_o_1_4 bad_o_1_5)))))
set_option maxRecDepth 100000 in
theorem bad_o_2_0 : (tables_1_2.take 40).all (fun c => su_isCode c || c.before start1.args0 bad_s) = true := by decide +kernel
set_option maxRecDepth 100000 in
theorem bad_o_2_1 : ((tables_1_2.drop 40).take 40).all (fun c => su_isCode c || c.before start1.args0 bad_s) = true := by decide +kernel
set_option maxRecDepth 100000 in
theorem bad_o_2_2 : (((tables_1_2.drop 40).drop 40).take 40).all (fun c => su_isCode c || c.before start1.args0 bad_s) = true := by decide +kernel
set_option maxRecDepth 100000 in
theorem bad_o_2_3 : ((((tables_1_2.drop 40).drop 40).drop 40).take 40).all (fun c => su_isCode c || c.before start1.args0 bad_s) = true := by decide +kernel
set_option maxRecDepth 100000 in
theorem bad_o_2_4 : (((((tables_1_2.drop 40).drop 40).drop 40).drop 40).take 40).all (fun c => su_isCode c || c.before start1.args0 bad_s) = true := by decide +kernel
set_option maxRecDepth 100000 in
theorem bad_o_2_5 : (((((tables_1_2.drop 40).drop 40).drop 40).drop 40).drop 40).all (fun c => su_isCode c || c.before start1.args0 bad_s) = true := by decide +kernel
theorem bad_o_2 : tables_1_2.all (fun c => su_isCode c || c.before start1.args0 bad_s) = true := (start1.su_all_split _ 40 tables_1_2 bad_o_2_0 (start1.su_all_split _ 40 (tables_1_2.drop 40) bad_o_2_1 (start1.su_all_split _ 40 ((tables_1_2.drop 40).drop 40) bad_o_2_2 (start1.su_all_split _ 40 (((tables_1_2.drop 40).drop 40).drop 40) bad_o_2_3 (start1.su_all_split _ 40 ((((tables_1_2.drop 40).drop 40).drop 40).drop 40) bad_o_2_4 bad_o_2_5)))))
set_option maxRecDepth 100000 in
theorem bad_o_3_0 : (tables_1_3.take 40).all (fun c => su_isCode c || c.before start1.args0 bad_s) = true := by decide +kernel
set_option maxRecDepth 100000 in
theorem bad_o_3_1 : ((tables_1_3.drop 40).take 40).all (fun c => su_isCode c || c.before start1.args0 bad_s) = true := by decide +kernel
set_option maxRecDepth 100000 in
theorem bad_o_3_2 : (((tables_1_3.drop 40).drop 40).take 40).all (fun c => su_isCode c || c.before start1.args0 bad_s) = true := by decide +kernel
set_option maxRecDepth 100000 in
theorem bad_o_3_3 : ((((tables_1_3.drop 40).drop 40).drop 40).take 40).all (fun c => su_isCode c || c.before start1.args0 bad_s) = true := by decide +kernel
set_option maxRecDepth 100000 in
theorem bad_o_3_4 : (((((tables_1_3.drop 40).drop 40).drop 40).drop 40).take 40).all (fun c => su_isCode c || c.before start1.args0 bad_s) = true := by decide +kernel
set_option maxRecDepth 100000 in
theorem bad_o_3_5 : (((((tables_1_3.drop 40).drop 40).drop 40).drop 40).drop 40).all (fun c => su_isCode c || c.before start1.args0 bad_s) = true := by decide +kernel
theorem bad_o_3 : tables_1_3.all (fun c => su_isCode c || c.before start1.args0 bad_s) = true := (start1.su_all_split _ 40 tables_1_3 bad_o_3_0 (start1.su_all_split _ 40 (tables_1_3.drop 40) bad_o_3_1 (start1.su_all_split _ 40 ((tables_1_3.drop 40).drop 40) bad_o_3_2 (start1.su_all_split _ 40 (((tables_1_3.drop 40).drop 40).drop 40) bad_o_3_3 (start1.su_all_split _ 40 ((((tables_1_3.drop 40).drop 40).drop 40).drop 40) bad_o_3_4 bad_o_3_5)))))
set_option maxRecDepth 100000 in
theorem bad_o_4_0 : (tables_1_4.take 40).all (fun c => su_isCode c || c.before start1.args0 bad_s) = true := by decide +kernel
set_option maxRecDepth 100000 in
theorem bad_o_4_1 : ((tables_1_4.drop 40).take 40).all (fun c => su_isCode c || c.before start1.args0 bad_s) = true := by decide +kernel
set_option maxRecDepth 100000 in
theorem bad_o_4_2 : (((tables_1_4.drop 40).drop 40).take 40).all (fun c => su_isCode c || c.before start1.args0 bad_s) = true := by decide +kernel
set_option maxRecDepth 100000 in
theorem bad_o_4_3 : ((((tables_1_4.drop 40).drop 40).drop 40).take 40).all (fun c => su_isCode c || c.before start1.args0 bad_s) = true := by decide +kernel
set_option maxRecDepth 100000 in
theorem bad_o_4_4 : ((((tables_1_4.drop 40).drop 40).drop 40).drop 40).all (fun c => su_isCode c || c.before start1.args0 bad_s) = true := by decide +kernel
theorem bad_o_4 : tables_1_4.all (fun c => su_isCode c || c.before start1.args0 bad_s) = true := (start1.su_all_split _ 40 tables_1_4 bad_o_4_0 (start1.su_all_split _ 40 (tables_1_4.drop 40) bad_o_4_1 (start1.su_all_split _ 40 ((tables_1_4.drop 40).drop 40) bad_o_4_2 (start1.su_all_split _ 40 (((tables_1_4.drop 40).drop 40).drop 40) bad_o_4_3 bad_o_4_4))))
theorem bad_o : tables_1.all (fun c => su_isCode c || c.before start1.args0 bad_s) = true := by
  unfold tables_1
  simp only [List.all_append, bad_o_1, bad_o_2, bad_o_3, bad_o_4]
  rfl
theorem bad_words : ∀ c ∈ (Cond.code x code maxLocals ret :: tables_1), c.before start1.args0 bad_s = true := by
  intro c hc
  have h0 := start1.words c hc
  cases hq : su_isCode c with
  | true =>
    cases c <;> simp only [su_isCode, Bool.false_eq_true] at hq
    exact bad_code (s := start1.about) (k := bad_cls) rfl h0
  | false =>
    rcases List.mem_cons.mp hc with h | h
    · subst h; simp [su_isCode] at hq
    · have h1 := List.all_eq_true.mp bad_o c h
      simpa only [hq, Bool.false_or] using h1
set_option maxRecDepth 100000 in
theorem bad_start : AtStart classFile x code maxLocals ret World_1 tables_1 room_1 Calls_1 rest_1 Pre_1 launch0 start1.p0 start1.e0 bad_s ⟨0, 0⟩ start1.args0 Lib.HandBits.below0 :=
  ⟨lists_1, trivial, launch0.admits_env _ _ _, launch0.least_env, fairChoices_fair.cas, fairChoices_fair.clock, rfl, by decide +kernel, by decide +kernel,
    (Spec.applies_iff rfl).mpr ⟨rfl, rfl, rfl, by decide +kernel, by decide +kernel, by decide +kernel, launch0.hasRoom_least _ room_1 (by decide +kernel) (by decide +kernel) (by decide +kernel) (by decide +kernel) (by decide +kernel) (by decide +kernel), atoms_intro bad_words⟩,
    trivial, (show rest_1_c.before start1.args0 bad_s = true by decide +kernel), (show (Cond.and given_1 narrow_1).before start1.args0 bad_s = true by decide +kernel)⟩
theorem bad_never (n : Nat) (o : Outcome) (hr : (bad_k n).status = Status.running) (he : Ended (bad_k n) Lib.HandBits.below0 o) : False := by
  by_cases hn : n < 18
  · have h := List.all_eq_true.mp bad_within n (List.mem_range.mpr hn)
    cases o with
    | threw a =>
      have he' : (bad_k n).frames = .throwing a :: Lib.HandBits.below0 := he
      simp only [bad_in, he'] at h
      exact absurd h (by decide)
    | returned v =>
      have he' : (bad_k n).frames = [.native { ({ method := ⟨0, 0⟩, args := #[] } : NFrame) with awaiting := false, answer := some (.returned v) }] := he
      simp only [bad_in, he'] at h
      exact absurd h (by decide)
  · obtain ⟨j, rfl⟩ : ∃ j, n = 18 + j := ⟨n - 18, by omega⟩
    have hs : (bad_k 18).status ≠ Status.running := of_decide_eq_false bad_stops
    have hg : ¬ (bad_k 18).goesOn := fun g => hs g.1
    have hk : bad_k (18 + j) = bad_k 18 := by
      show stepsAlone _ _ (18 + j) _ = _
      rw [stepsAlone_add]
      exact stepsAlone_of_not_goesOn _ _ hg j
    rw [hk] at hr
    exact hs hr
/-- The statement that is owed is false. -/
theorem not_claimed_1 : ¬ Claimed_1_1 := by
  intro h
  obtain ⟨hL, hW, hA, _, hC, hK, hf, ha, hh, hap, hc, hr, hp⟩ := bad_start
  obtain ⟨n, o, _, h2, h3, _⟩ := h launch0 rfl hL hW start1.p0 start1.e0 hA hC hK bad_s ⟨0, 0⟩ start1.args0 Lib.HandBits.below0 hf ha hh hap ⟨hc, hr, hp⟩
  exact bad_never n o h2 h3
theorem not_claimed_2 : ¬ Claimed_1_2 := by
  intro h
  obtain ⟨hL, hW, hA, _, hC, hK, hf, ha, hh, hap, hc, hr, hp⟩ := bad_start
  obtain ⟨n, o, _, h2, h3, _⟩ := h launch0 rfl hL hW start1.p0 start1.e0 hA hC hK bad_s ⟨0, 0⟩ start1.args0 Lib.HandBits.below0 hf ha hh hap ⟨hc, hr, hp⟩
  exact bad_never n o h2 h3
theorem not_owed : ¬ (Claimed_1_1 ∧ Claimed_1_2) := fun h => not_claimed_1 h.1
end
