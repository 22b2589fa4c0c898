/-! ===== CONTRACTS: what a method does in the small machine, it does in the machine ===== -/
def zTb : List Cond := lw_tbl.filter goodWord
theorem zTb_in {w : Cond} (i : Nat) (h : lw_tbl[i]? = some w) (hg : goodWord w = true) : w ∈ zTb := List.mem_filter.mpr ⟨List.mem_of_getElem? h, hg⟩
/-- many words at once, by their places -/
theorem zTb_all (ws : List Cond) (ps : List Nat) (hp : ws = ps.filterMap (fun i => lw_tbl[i]?)) (h : ws.all goodWord = true) : ∀ w ∈ ws, w ∈ zTb := by
  intro w hw
  have h1 := List.all_eq_true.mp h w hw
  rw [hp] at hw
  obtain ⟨i, -, hi⟩ := List.mem_filterMap.mp hw
  exact zTb_in i hi h1
abbrev zws (y : MethodName) (bytes : ByteArray) (maxL : Nat) (ret : Option FieldType) : List Cond := .code y bytes maxL ret :: zTb
def zA (ad : Nat → Nat) (sz : Nat) : Nat → Prop := fun q => (∃ k, k < zSh.length ∧ q = ad k) ∨ sz ≤ q
def zRL : Nat → Int32 := fun j => [0, -100, 0, 500, 0].getD j 0
def zRM : Nat → Int32 := fun j => [20, 100, 100, 9000, 300].getD j 0
abbrev zNst : Cond := .fieldLinkNest "SunRings$Ice" 64 "SunRings" "RULES_LEAST" "[I" "SunRings"
/-- the tables that nobody writes -/
def zX (ad : Nat → Nat) (A : Nat → Prop) (U : State) (H : Heap) : Prop := va_Z "SunRings" "RULES_LEAST" "[I" (.ref (ad 102)) A U H ∧ va_Z "SunRings" "RULES_MOST" "[I" (.ref (ad 103)) A U H ∧ va_T .int (ad 102) 5 (fun j => .int (zRL j)) A U H ∧ va_T .int (ad 103) 5 (fun j => .int (zRM j)) A U H ∧ va_Nw zNst U
def zPre (D : va_G) (ca : Nat → ClassId) (ad : Nat → Nat) (sz : Nat) (h : zH) (U : State) : Prop := U.heap.size = sz ∧ va_P D vwCl (zW ca ad h) U.heap ∧ va_K D vwCl (zT ca) U ∧ va_D (zA ad sz) (zW ca ad h) ∧ zX ad (zA ad sz) U U.heap
def zPost (D : va_G) (ca : Nat → ClassId) (ad : Nat → Nat) (sz : Nat) (r : Option Value) (h' : zH) : Array Value → State → Outcome → State → Prop := fun _ st oc t => oc = .returned (r.map (zv ad)) ∧ va_P D vwCl (zW ca ad h') t.heap ∧ va_F (zA ad sz) st t
def zMet (l : Launch) (y : MethodName) (bytes : ByteArray) (maxL : Nat) (ret : Option FieldType) (rm : Room) (Rl : zRel) : Prop := ∀ (D : va_G) (ca : Nat → ClassId) (ad : Nat → Nat) (sz : Nat) (as : List Value) (h : zH) (r : Option Value) (h' : zH), Rl as h r h' → Met l y (zws y bytes maxL ret) rm (va_Pc (as.map (zv ad)) (zPre D ca ad sz h)) (zPost D ca ad sz r h') 0 0 (zA ad sz)
theorem zX_same {ad : Nat → Nat} {A : Nat → Prop} {u U : State} (hvm : u.vm = U.vm) {H : Heap} (h : zX ad A u H) : zX ad A U H := by
  obtain ⟨a, b, c, d, e⟩ := h
  have hal : u.vm.Alike U.vm := by rw [hvm]; exact Vm.Alike.refl _
  exact ⟨a.moved hal, b.moved hal, c.moved hal, d.moved hal, e.same rfl hvm⟩
theorem zX_warm {ad : Nat → Nat} {A : Nat → Prop} {s U : State} (hW : s.WarmedH U.vm) {H : Heap} (h : zX ad A s H) : zX ad A U H := by
  obtain ⟨a, b, c, d, e⟩ := h
  exact ⟨a.moved hW.alike, b.moved hW.alike, c.moved hW.alike, d.moved hW.alike, e.warmF hW⟩
theorem zX_kept {ad : Nat → Nat} {A : Nat → Prop} {U : State} {H H1 : Heap} (hq : ∀ a : Nat, a < H.size → ¬ A a → H1[a]? = H[a]?) (h : zX ad A U H) : zX ad A U H1 := by
  obtain ⟨a, b, c, d, e⟩ := h
  exact ⟨a.kept hq, b.kept hq, c.kept hq, d.kept hq, e⟩
theorem zX_narrow {ad : Nat → Nat} {A B : Nat → Prop} {U : State} {H : Heap} (hAB : ∀ q, B q → A q) (h : zX ad A U H) : zX ad B U H := by
  obtain ⟨a, b, c, d, e⟩ := h
  exact ⟨a.narrow hAB, b.narrow hAB, c.narrow hAB, d.narrow hAB, e⟩
theorem zPre_blind (D : va_G) (ca : Nat → ClassId) (ad : Nat → Nat) (sz : Nat) (h : zH) (av : List Value) : FrameBlind (va_Pc av (zPre D ca ad sz h)) := by
  intro a U g mk hv
  obtain ⟨e, h1, h2, h3, h4, h5⟩ := hv
  exact ⟨e, h1, h2, va_K.moved (u := U) (U := U.calling g mk a) (Vm.Alike.refl U.vm) h3, h4, zX_same (u := U) (U := U.calling g mk a) rfl h5⟩
theorem zW_len (ca : Nat → ClassId) (ad : Nat → Nat) (h : zH) : (zW ca ad h).length = zSh.length := by simp [zW]
theorem zW_addr {ca : Nat → ClassId} {ad : Nat → Nat} {h : zH} {k : Nat} {q : Nat × va_E} (hk : (zW ca ad h)[k]? = some q) : k < zSh.length ∧ q.1 = ad k := by
  have hl : k < zSh.length := by
    have := (List.getElem?_eq_some_iff.mp hk).1
    rwa [zW_len] at this
  refine ⟨hl, ?_⟩
  rw [zW_get (List.getElem?_eq_getElem hl)] at hk
  cases hk
  rfl
/-- apart at one time, apart at all times -/
theorem zD_any {A B : Nat → Prop} {ca : Nat → ClassId} {ad : Nat → Nat} {h h' : zH} (hD : va_D A (zW ca ad h)) (hB : ∀ k, k < zSh.length → B (ad k)) : va_D B (zW ca ad h') := by
  refine ⟨fun i j x y hi hj hxy => ?_, fun k q hk => ?_⟩
  · obtain ⟨li, ei⟩ := zW_addr hi
    obtain ⟨lj, ej⟩ := zW_addr hj
    refine hD.1 i j _ _ (zW_get (h := h) (List.getElem?_eq_getElem li)) (zW_get (h := h) (List.getElem?_eq_getElem lj)) ?_
    show ad i = ad j
    rw [← ei, ← ej, hxy]
  · obtain ⟨lk, ek⟩ := zW_addr hk
    rw [ek]; exact hB k lk
section ZC
variable {p : Program} {l : Launch} {e : Env} {R : Room} {s : State} {m : MethodId} {args : Array Value} {below : List Frame} {meth : Method} {c : Code} {cells slots : Nat} {Q : State → Prop}
variable {cc : ByteArray} {own : String} {nL : Nat} {D : va_G} {ca : Nat → ClassId} {ad : Nat → Nat}
theorem z_cont {H : Heap} {locs : List Loc} {pc : Nat} {la : Array Slot} {st0 rest : List Value} {A0 : Nat → Prop} {H0 : Heap} {a : Array Value} {r : Option Value} {h' : zH}
    (hr : va_Run p l e R s m args below meth c H locs cells slots 0 0 (F0 m pc la st0) rest (zPost D ca ad H.size r h' a) (zA ad H.size)) (hS : va_S A0 H0 H locs) (hf : ∀ q, zA ad H.size q → A0 q)
    (kk : ∀ (H1 : Heap) (locs1 : List Loc), va_P D vwCl (zW ca ad h') H1 → va_S A0 H0 H1 locs1 → W p l e R s m args below meth c H1 locs1 cells slots Q (F0 m (pc + 3) la ((r.map (zv ad)).toList ++ rest))) : W p l e R s m args below meth c H locs cells slots Q (F0 m pc la st0) := by
  intro T hT X
  obtain ⟨v, st₀, t, T', L, h0, X', hL, e1, e2, ⟨hv, hP, hz, hk⟩, st⟩ := hr T hT X
  cases hv
  rw [h0] at hz hk
  obtain ⟨t2, a1, b1⟩ := kk T'.heap (locs ++ L) (by rw [e1]; exact hP)
    ⟨Nat.le_trans hS.1 (by rw [e1]; exact hz), fun q h1 h2 => by rw [e1, hk q (Nat.lt_of_lt_of_le h1 hS.1) (fun z => h2 (hf q z))]; exact hS.2.1 q h1 h2, fun q hq => by
      rcases List.mem_append.mp hq with h | h
      · exact hS.2.2 q h
      · exact hf _ (hL q h)⟩ T' rfl X'
  exact ⟨t2, st t2 a1, b1⟩
/-- a call of one of the methods: what must stand in the tables -/
def zCm0 (l : Launch) (R : Room) (own : String) (q : Nat × Nat × Nat × Option Nat × zRel) : Prop := ∃ (y : MethodName) (bytes : ByteArray) (maxL : Nat) (ret : Option FieldType) (rm : Room), zMet l y bytes maxL ret rm q.2.2.2.2 ∧ rm.cells = 0 ∧ rm.slots = 0 ∧ (rm.frames + 1 ≤ R.frames ∧ 8 + (maxL + 11) + rm.locals ≤ R.locals) ∧ Cond.methodLink own q.1 y ∈ zTb ∧ Cond.code y bytes maxL ret ∈ zTb ∧ Cond.initialized y.cls ∈ zTb ∧ (y.cls ≠ "java/lang/invoke/MethodHandle" ∧ y.cls ≠ "java/lang/invoke/VarHandle") ∧
  match q.2.2.2.1 with
  | some ci => Cond.instanceMethod y ∈ zTb ∧ Cond.selects y.cls y y ∈ zTb ∧ (∃ (T : u_T) (N : Nat), vwCl[ci]? = some (y.cls, T, N)) ∧ (parseMethodDescriptor y.desc).map (fun d => d.parameters.length + 1) = some q.2.1
  | none => Cond.static y ∈ zTb ∧ (parseMethodDescriptor y.desc).map (fun d => d.parameters.length) = some q.2.1
theorem zTb_good {w : Cond} (h : w ∈ zTb) : (w.onTables && w.keeps) = true ∨ ∃ ty, w = .arrayClass ty := good_of_word (List.mem_filter.mp h).2
theorem z_goodIn {Ts : List Cond} (hT : ∀ w ∈ zTb, w ∈ Ts) {y : MethodName} {bytes : ByteArray} {maxL : Nat} {ret : Option FieldType} (hc : Cond.code y bytes maxL ret ∈ zTb) : GoodIn Ts (zws y bytes maxL ret) := by
  intro w hw
  rcases List.mem_cons.mp hw with h | h
  · rw [h]; exact ⟨hT _ hc, zTb_good hc⟩
  · exact ⟨hT _ h, zTb_good h⟩
theorem z_cl {A : Nat → Prop} (hx : p.tables.exec = Jvm.exec) (hb : c.code = cc) (hml : c.maxLocals = nL) (hown : s.vm.findClass own = some m.cls) (hK : va_K D vwCl (zT ca) s) (hts : ∀ w ∈ zTb, w.before args s = true)
    (hX : zX ad A s s.heap) (hA : ∀ q, zA ad s.heap.size q → A q) (hfit : cells ≤ R.cells ∧ slots ≤ R.slots) {q : Nat × Nat × Nat × Option Nat × zRel} (hq : zCm0 l R own q) : zCl p l e R s m args below meth c cells slots Q cc nL D ca ad A s.heap q := by
  intro as h r h' H locs rest la pc ins hR hlen hrc hd hin hI hsz hsum kk
  obtain ⟨y, bytes, maxL, ret, rm, hM, hrc0, hrs0, hroom, hlk, hcode, hini, hcls, hq⟩ := hq
  have Mt := hM D ca ad H.size as h r h' hR
  have hG : GoodIn zTb (zws y bytes maxL ret) := z_goodIn (fun _ h => h) hcode
  have hAH : ∀ q, zA ad H.size q → A q := fun q hq => hq.elim (fun z => hA q (Or.inl z)) (fun z => hA q (Or.inr (Nat.le_trans hI.2.2.1 z)))
  have hpre : ∀ U : State, U.heap = H → s.WarmedH U.vm → va_Pc (as.map (zv ad)) (zPre D ca ad H.size h) (as.map (zv ad)).toArray U := fun U hU hW =>
    ⟨rfl, by rw [hU], by rw [hU]; exact hI.1, va_K.moved hW.alike hK, zD_any hI.2.1 (fun k hk => Or.inl ⟨k, hk, rfl⟩), by
      rw [hU]
      exact zX_narrow hAH (zX_warm hW (zX_kept hI.2.2.2.1 hX))⟩
  have fin : ∀ {st0 : List Value} {a : Array Value}, va_Run p l e R s m args below meth c H locs cells slots 0 0 (F0 m pc la st0) rest (zPost D ca ad H.size r h' a) (zA ad H.size) → W p l e R s m args below meth c H locs cells slots Q (F0 m pc la st0) := fun hr =>
    z_cont hr hI.2.2 hAH (fun H1 locs1 p1 p2 => kk H1 locs1 ⟨p1, zD_any hI.2.1 (fun k hk => hAH _ (Or.inl ⟨k, hk, rfl⟩)), p2⟩)
  cases ho : q.2.2.2.1 with
  | none =>
    rw [ho] at hq hin
    obtain ⟨hst, hds⟩ := hq
    rcases hin with ⟨-, hf⟩ | ⟨hins, -⟩
    · cases hf
    rw [hins] at hd
    refine fin (va_runS (As := as.map (zv ad)) (n := q.2.1) ⟨hx, hb, hml, hown, hts⟩ Mt ⟨callB_of q.2.1 hts hG rfl hrc0 hrs0 (hts _ hini) (hts _ hlk) ⟨hcls.1, hcls.2, hds⟩ hroom, hts _ hst⟩ ⟨zPre_blind D ca ad H.size h _, hpre⟩ rfl (by rw [List.length_map]; exact hlen) hsz rfl (lv_room hsum) hd ⟨hfit.1, hfit.2⟩)
  | some ci =>
    rw [ho] at hq hin hrc
    obtain ⟨him, hse, ⟨T, N, hcl⟩, hds⟩ := hq
    rcases hin with ⟨hins, -⟩ | ⟨-, hf⟩
    rotate_left
    · cases hf
    rw [hins] at hd
    unfold zrcv at hrc
    dsimp only at hrc
    split at hrc
    rotate_left
    · cases hrc
    next a as' =>
    split at hrc
    rotate_left
    · cases hrc
    next ci' fs hsh =>
    cases Nat.eq_of_beq_eq_true hrc
    have hds2 : (parseMethodDescriptor y.desc).map (fun d => d.parameters.length) = some as'.length := by
      cases hpm : parseMethodDescriptor y.desc with
      | none => rw [hpm] at hds; cases hds
      | some d =>
        rw [hpm] at hds
        have h1 : d.parameters.length + 1 = q.2.1 := Option.some.inj hds
        simp only [List.length_cons] at hlen
        simp only [Option.map_some, Option.some.injEq]
        omega
    have hst : (List.map (zv ad) (Value.ref a :: as')).reverse ++ rest = (as'.map (zv ad)).reverse ++ Value.ref (ad a) :: rest := by simp [zv]
    rw [hst]
    refine fin (va_runV (C := y.cls) (As := as'.map (zv ad)) (b := ad a) (n := as'.length) ⟨hx, hb, hml, hown, hts⟩ Mt ⟨callB_of as'.length hts hG rfl hrc0 hrs0 (hts _ hini) (hts _ hlk) ⟨hcls.1, hcls.2, hds2⟩ hroom, hts _ him, hts _ hse⟩ ⟨zPre_blind D ca ad H.size h _, va_recv hK hI.1 hcl (zW_get hsh), hpre⟩ rfl (by rw [List.length_map]) hsz rfl (lv_room hsum) hd ⟨hfit.1, hfit.2⟩)
/-- System.arraycopy -/
def zCy (R : Room) (own : String) (q : Nat × Nat × Nat × Option Nat × zRel) : Prop := q.2 = (5, 0, none, zAC) ∧ Cond.methodLink own q.1 arraycopyName ∈ zTb ∧ Cond.native arraycopyName ∈ zTb ∧ Cond.static arraycopyName ∈ zTb ∧ Cond.initialized "java/lang/System" ∈ zTb ∧ 1 ≤ R.frames ∧ 8 + (nativeFrameWords "java/lang/System" "arraycopy" 5 + 11) ≤ R.locals
def zCm (l : Launch) (R : Room) (own : String) (q : Nat × Nat × Nat × Option Nat × zRel) : Prop := zCm0 l R own q ∨ zCy R own q
theorem z_cy {A : Nat → Prop} (hx : p.tables.exec = Jvm.exec) (hb : c.code = cc) (hml : c.maxLocals = nL) (hown : s.vm.findClass own = some m.cls) (hK : va_K D vwCl (zT ca) s) (hts : ∀ w ∈ zTb, w.before args s = true)
    {q : Nat × Nat × Nat × Option Nat × zRel} (hq : zCy R own q) : zCl p l e R s m args below meth c cells slots Q cc nL D ca ad A s.heap q := by
  intro as h r h' H locs rest la pc ins hR hlen hrc hd hin hI hsz hsum kk
  obtain ⟨hq, w1, w2, w3, w4, hf, hl⟩ := hq
  obtain ⟨qi, q2⟩ := q
  subst hq
  obtain ⟨a0, a1, n0, n1, sp, dp, n, rfl, s0, s1, c1, c2, c3, c4, c5, rfl, rfl⟩ := hR
  rcases hin with ⟨-, hf⟩ | ⟨hins, -⟩
  · cases hf
  rw [hins] at hd
  have hst : (List.map (zv ad) [Value.ref a0, Value.int sp, Value.ref a1, Value.int dp, Value.int n]).reverse ++ rest = Value.int n :: Value.int dp :: Value.ref (ad a1) :: Value.int sp :: Value.ref (ad a0) :: rest := by simp [zv]
  rw [hst]
  refine va_copyi hx hb (by rw [hml, hsz]) hown (hts _ w1) (hts _ w2) (hts _ w3) (hts _ w4) hK hI.1 hI.2.1 hI.2.2 a0 a1 0 0 (zW_get (ca := ca) (ad := ad) (h := h) s0) (zW_get (ca := ca) (ad := ad) (h := h) s1) rfl rfl rfl c1 c2 c3 c4 c5 (fun _ _ => rfl) hf (by omega) hd (fun H1 locs1 p1 p2 p3 => ?_)
  have e := zW_set (ca := ca) (ad := ad) (h := h) (h' := zcpy h a0 sp.toNatClampNeg a1 dp.toNatClampNeg n.toNatClampNeg) (e := .inl (ca 0, n1, .inl (va_cpy (h.1 a0) (h.1 a1) sp.toNatClampNeg dp.toNatClampNeg n.toNatClampNeg))) s1 (by simp [zE, zcpy]) (fun q hq => ⟨by simp [zcpy, hq], rfl⟩)
  rw [e] at p1 p2
  exact kk H1 locs1 ⟨p1, p2, p3⟩
end ZC
/-! a method out of its code -/
def zFT (own : String) (q : Nat × Nat × Nat × Bool) : Prop := ∃ (C : String) (T : u_T) (N : Nat) (ty0 : Nat → FieldType), vwCl[q.2.1]? = some (C, T, N) ∧ q.2.2.1 < N ∧ (∀ w ∈ u_ws C T N, w ∈ zTb) ∧ Cond.fieldLink own q.1 (T q.2.2.1).1 (T q.2.2.1).2.1 (T q.2.2.1).2.2.1 ∈ zTb ∧ (∀ k, k < N → parseFieldDescriptor (T k).2.2.1 = some (ty0 k)) ∧ (∀ a, a < N → ∀ b, b < N → a ≠ b → (T a).2.1 ≠ (T b).2.1) ∧ (q.2.2.2 = true → (T q.2.2.1).2.2.2 = false ∧ ty0 q.2.2.1 = .int)
def zGT (own : String) (q : Nat × Nat) : Prop := (q.2 = 102 ∧ Cond.fieldLink own q.1 "SunRings" "RULES_LEAST" "[I" ∈ zTb) ∨ (q.2 = 103 ∧ Cond.fieldLink own q.1 "SunRings" "RULES_MOST" "[I" ∈ zTb) ∨ (q = (64, 102) ∧ own = "SunRings$Ice")
def zExs : List (Nat × Nat × (Nat → Int32)) := [(102, 5, zRL), (103, 5, zRM)]
theorem znd_spec : ∀ {as : List Value}, znd as = true → ∀ v ∈ as, ∀ d, v ≠ .double d
  | [], _, v, hv, _ => by cases hv
  | w :: vs, h, v, hv, d => by
    have h2 : znd vs = true ∧ ∀ d, w ≠ .double d := by
      cases w <;> first | exact ⟨h, fun d q => by cases q⟩ | cases h
    rcases List.mem_cons.mp hv with e | e
    · rw [e]; exact h2.2 d
    · exact znd_spec h2.1 v e d
theorem zarg_len (ad : Nat → Nat) : ∀ as : List Value, (∀ v ∈ as, ∀ d, v ≠ .double d) → (lg_sl (as.map (zv ad))).length = (zarg as).length
  | [], _ => rfl
  | v :: vs, hd => by
    have ih := zarg_len ad vs (fun w hw => hd w (List.mem_cons_of_mem _ hw))
    unfold lg_sl at ih ⊢
    rw [List.map_cons, List.flatMap_cons, List.length_append, ih]
    cases v with
    | double d => exact absurd rfl (hd _ List.mem_cons_self d)
    | _ => simp [zarg, zv, Value.category] <;> omega
theorem zarg_at (ad : Nat → Nat) : ∀ (as : List Value) (i0 : Nat), (∀ v ∈ as, ∀ d, v ≠ .double d) → ∀ (i : Nat) (v : Value), (zarg as)[i]? = some (some v) → (i0 + i, zv ad v) ∈ lv_args i0 (as.map (zv ad))
  | [], _, _, i, v, h => by simp [zarg] at h
  | w :: vs, i0, hd, i, v, h => by
    have hd2 : ∀ v ∈ vs, ∀ d, v ≠ .double d := fun w hw => hd w (List.mem_cons_of_mem _ hw)
    by_cases hw : ∃ x, w = .long x
    · obtain ⟨x, rfl⟩ := hw
      simp only [zarg] at h
      simp only [List.map_cons, lv_args]
      match i, h with
      | 0, h => simp at h; subst h; simp [zv]
      | 1, h => simp at h
      | j + 2, h =>
        have ih := zarg_at ad vs (i0 + 2) hd2 j v (by simpa using h)
        refine List.mem_cons_of_mem _ ?_
        have e : i0 + (j + 2) = i0 + 2 + j := by omega
        rw [e]
        simpa [zv, Value.category] using ih
    · have e : zarg (w :: vs) = some w :: zarg vs := by
        cases w with
        | long x => exact absurd ⟨x, rfl⟩ hw
        | _ => rfl
      have hc : (zv ad w).category = 1 := by
        cases w with
        | long x => exact absurd ⟨x, rfl⟩ hw
        | double d => exact absurd rfl (hd _ List.mem_cons_self d)
        | _ => rfl
      rw [e] at h
      simp only [List.map_cons, lv_args]
      match i, h with
      | 0, h => simp at h; subst h; simp
      | j + 1, h =>
        have ih := zarg_at ad vs (i0 + 1) hd2 j v (by simpa using h)
        refine List.mem_cons_of_mem _ ?_
        have e : i0 + (j + 1) = i0 + 1 + j := by omega
        rw [e]
        simpa [hc] using ih
set_option maxHeartbeats 4000000 in
theorem z_met {l : Launch} {y : MethodName} {bytes : ByteArray} {maxL : Nat} {ret : Option FieldType} {rm : Room} {M : zM} (hy : plainFor y = true)
    (hdec : ∀ q ∈ M.1, decode bytes q.1 = .ok (q.2.1, q.2.2)) (hch : zch M.1 = true) (h0 : zpc M.1 = 0) (hfl : ∀ q ∈ M.2.1, zFT y.cls q) (hgs : ∀ q ∈ M.2.2.1, zGT y.cls q) (hcn : ∀ q ∈ M.2.2.2.1, Cond.constant y.cls q.1 q.2 ∈ zTb) (hcl : ∀ q ∈ M.2.2.2.2.1, Cond.constantLong y.cls q.1 q.2 ∈ zTb)
    (hca : ∀ q ∈ M.2.2.2.2.2.1, zCm l rm y.cls q) (hex : M.2.2.2.2.2.2 = zExs ∨ M.2.2.2.2.2.2 = []) : zMet l y bytes maxL ret rm (zR M maxL ret) := by
  intro D ca ad sz as h r h' hR
  obtain ⟨hck, hkd, hgo⟩ := hR
  obtain ⟨hble, hnd0⟩ := Bool.and_eq_true_iff.mp hck
  have hnd := znd_spec hnd0
  refine va_MetF (cc := bytes) (maxL := maxL) (ret := ret) hy rfl ?_
  intro p e s m args below meth c s₁ B hml hv
  obtain ⟨rfl, hsz, hP, hK, hD, hX⟩ := hv
  subst hsz
  have hx := B.exec
  have hb := B.bytes
  have hr := B.returns
  have hlocks := B.notSynchronized
  have hts0 := atoms_spec (ws := zws y bytes maxL ret) B.pre
  have hts : ∀ w ∈ zTb, w.before (as.map (zv ad)).toArray s = true := fun w hw => hts0 w (List.mem_cons_of_mem _ hw)
  have hown : s.vm.findClass y.cls = some m.cls := findClass_of_methodNamed B.named
  have hlen : (lg_sl (as.map (zv ad))).length ≤ maxL := by rw [zarg_len ad as hnd]; exact Nat.le_of_ble_eq_true hble
  have hl := lv_entry (as.map (zv ad)) hlen
  rw [lg_entry_eq]
  generalize (lg_sl (as.map (zv ad)) ++ List.replicate (maxL - (lg_sl (as.map (zv ad))).length) Slot.unset).toArray = la at hl ⊢
  have hlo : zLo ad maxL la (zini maxL as) := by
    refine ⟨⟨hl.1, hl.2.1, fun q hq => ?_⟩, ?_⟩
    · obtain ⟨i, v, hi, rfl⟩ := zl_mem.mp hq
      unfold zini at hi
      by_cases hil : i < (zarg as).length
      · rw [List.getElem?_append_left hil] at hi
        have := zarg_at ad as 0 hnd i v hi
        rw [Nat.zero_add] at this
        exact hl.2.2 _ this
      · rw [List.getElem?_append_right (by omega)] at hi
        have := List.eq_of_mem_replicate (List.mem_of_getElem? hi)
        cases this
    · have := Nat.le_of_ble_eq_true hble
      simp only [zini, List.length_append, List.length_replicate]
      omega
  have hI : zInv D ca ad (zA ad s.heap.size) s.heap h s.heap [] := ⟨hP, hD, va_S.rf⟩
  have key := z_snd (p := p) (l := l) (e := e) (R := rm) (s := s) (m := m) (args := (as.map (zv ad)).toArray) (below := below) (meth := meth) (c := c) (cells := 0) (slots := 0) (Q := MQ below (zPost D ca ad s.heap.size r h') (as.map (zv ad)).toArray s 0 0 (zA ad s.heap.size)) (cc := bytes) (own := y.cls) (nL := maxL) (D := D) (ca := ca) (ad := ad) (A := zA ad s.heap.size) (M := M) (post := fun r1 h1 => r1 = r ∧ h1 = h')
    hx hb hml hown hK ?_ ?_ ?_ ?_ ?_ ?_ ?_ ?_ ?_ hdec hch M.1 _ _ _ (List.suffix_refl _) hgo s.heap [] la hlo hI
  · rw [h0] at key
    exact key
  · intro q hq
    obtain ⟨C, T, N, ty0, g1, g2, g3, g4, g5, g6, g7⟩ := hfl q hq
    exact ⟨C, T, N, ty0, g1, g2, fun w hw => hts w (g3 w hw), hts _ g4, g5, g6, g7⟩
  · intro q hq H locs pc la rest hS hd kk
    obtain ⟨z1, z2, -, -, z5⟩ := hX
    rcases hgs q hq with ⟨g1, g2⟩ | ⟨g1, g2⟩ | ⟨g1, g2⟩
    · rw [g1] at kk
      exact va_gets hx hb z1 hS hown (hts _ g2) (fun x h => h) hd kk
    · rw [g1] at kk
      exact va_gets hx hb z2 hS hown (hts _ g2) (fun x h => h) hd kk
    · rw [g1] at kk hd
      exact va_getsN hx hb z1 hS (by rw [← g2]; exact hown) (va_Nw.use rfl z5) (fun x h => h) hd kk
  · intro q hq; exact hts _ (hcn q hq)
  · intro q hq; exact hts _ (hcl q hq)
  · intro q hq
    rcases hca q hq with h1 | h1
    · exact z_cl hx hb hml hown hK hts hX (fun q h => h) ⟨Nat.zero_le _, Nat.zero_le _⟩ h1
    · exact z_cy hx hb hml hown hK hts h1
  · intro q hq
    obtain ⟨-, -, z3, z4, -⟩ := hX
    rcases hex with he | he
    · rw [he] at hq
      simp only [zExs, List.mem_cons, List.not_mem_nil, or_false] at hq
      rcases hq with rfl | rfl
      · exact z3
      · exact z4
    · rw [he] at hq; cases hq
  · intro h1 v H locs pc la hI hpost hd
    obtain ⟨rfl, rfl⟩ := hpost
    have hret : ∃ ty, ret = some ty ∧ narrow ty (.int v) = .int v := by
      unfold zkd at hkd
      split at hkd
      · cases hkd
      · obtain ⟨_, q⟩ := hkd; cases q
      · exact ⟨_, rfl, rfl⟩
      · refine ⟨_, rfl, ?_⟩
        rcases hkd with q | q <;> (cases q; decide)
      · exact hkd.elim
    obtain ⟨ty, rfl, hn⟩ := hret
    exact W.zret hx hb hr hn (fun t ht hW => ⟨rfl, by rw [ht]; exact hI.1, hI.2.2.F ht⟩) (fun q hq => hI.2.2.2.2 q hq) hd
  · intro h1 v H locs pc la hI hpost hd
    obtain ⟨rfl, rfl⟩ := hpost
    have hret : ret = some .long := by
      unfold zkd at hkd
      split at hkd
      · cases hkd
      · rfl
      · obtain ⟨_, q⟩ := hkd; cases q
      · rcases hkd with q | q <;> cases q
      · exact hkd.elim
    subst hret
    exact W.lret hx hb hr (fun t ht hW => ⟨rfl, by rw [ht]; exact hI.1, hI.2.2.F ht⟩) (fun q hq => hI.2.2.2.2 q hq) hd
  · intro h1 H locs pc la hI hpost hd
    obtain ⟨rfl, rfl⟩ := hpost
    have hret : ret = none := by
      unfold zkd at hkd
      split at hkd
      · rfl
      · obtain ⟨_, q⟩ := hkd; cases q
      · obtain ⟨_, q⟩ := hkd; cases q
      · rcases hkd with q | q <;> cases q
      · exact hkd.elim
    subst hret
    exact W.vret hx hb hr (fun t ht hW => ⟨rfl, by rw [ht]; exact hI.1, hI.2.2.F ht⟩) (fun q hq => hI.2.2.2.2 q hq) hd
