/-! ===== THE SMALL MACHINE SPEAKS TRUE: a run of it is a walk of the machine ===== -/
def zv (ad : Nat → Nat) : Value → Value
  | .ref k => .ref (ad k)
  | v => v
theorem zv_cat (ad : Nat → Nat) (v : Value) : (zv ad v).category = v.category := by cases v <;> rfl
def zF (ad : Nat → Nat) (h : zH) (k : Nat) (fs : List (Option Nat)) : List Value := fs.mapIdx (fun j f => match f with
  | some r => .ref (ad r)
  | none => .int (h.1 k j))
def zE (ca : Nat → ClassId) (ad : Nat → Nat) (h : zH) (k : Nat) : zS → va_E
  | .inl (2, n, _) => .inl (ca 2, n, .inr (.inl (h.2 k)))
  | .inl (3, n, rs) => .inl (ca 3, n, .inr (.inr (.inr (.inr (fun i => (rs[i]?).map ad)))))
  | .inl (t, n, _) => .inl (ca t, n, .inl (h.1 k))
  | .inr (ci, fs) => .inr (ci, zF ad h k fs)
def zW (ca : Nat → ClassId) (ad : Nat → Nat) (h : zH) : va_W := zSh.mapIdx (fun k sh => (ad k, zE ca ad h k sh))
def zT (ca : Nat → ClassId) : List (ClassId × FieldType) := [(ca 0, .int), (ca 1, .boolean), (ca 2, .long), (ca 3, .object RX6)]
theorem zW_get {ca : Nat → ClassId} {ad : Nat → Nat} {h : zH} {k : Nat} {sh : zS} (hk : zSh[k]? = some sh) : (zW ca ad h)[k]? = some (ad k, zE ca ad h k sh) := by
  unfold zW
  rw [List.getElem?_mapIdx, hk]
  rfl
theorem zF_congr {ad : Nat → Nat} {h h' : zH} {k : Nat} (h1 : h.1 k = h'.1 k) (fs : List (Option Nat)) : zF ad h k fs = zF ad h' k fs := by
  unfold zF
  rw [h1]
theorem zE_congr {ca : Nat → ClassId} {ad : Nat → Nat} {h h' : zH} {k : Nat} (h1 : h.1 k = h'.1 k) (h2 : h.2 k = h'.2 k) (sh : zS) : zE ca ad h k sh = zE ca ad h' k sh := by
  unfold zE
  split <;> simp only [h1, h2, zF_congr h1]
theorem zW_set {ca : Nat → ClassId} {ad : Nat → Nat} {h h' : zH} {k : Nat} {sh : zS} {e : va_E} (hk : zSh[k]? = some sh) (he : zE ca ad h' k sh = e) (ho : ∀ q, q ≠ k → h.1 q = h'.1 q ∧ h.2 q = h'.2 q) : (zW ca ad h).set k (ad k, e) = zW ca ad h' := by
  apply List.ext_getElem?
  intro i
  by_cases hi : i = k
  · subst hi
    have hl : i < (zW ca ad h).length := (List.getElem?_eq_some_iff.mp (zW_get (ca := ca) (ad := ad) (h := h) hk)).1
    rw [List.getElem?_set_self hl, zW_get hk, he]
  · rw [List.getElem?_set_ne (Ne.symm hi)]
    unfold zW
    rw [List.getElem?_mapIdx, List.getElem?_mapIdx]
    cases zSh[i]? with
    | none => rfl
    | some sh2 =>
      obtain ⟨q1, q2⟩ := ho i hi
      simp only [Option.map_some, zE_congr q1 q2]
theorem zsi_off (h : zH) (k j : Nat) (x : Int32) : ∀ q, q ≠ k → h.1 q = (zsi h k j x).1 q ∧ h.2 q = (zsi h k j x).2 q := by
  intro q hq
  refine ⟨?_, rfl⟩
  funext b
  simp [zsi, hq]
theorem zsl_off (h : zH) (k j : Nat) (x : Int64) : ∀ q, q ≠ k → h.1 q = (zsl h k j x).1 q ∧ h.2 q = (zsl h k j x).2 q := by
  intro q hq
  refine ⟨rfl, ?_⟩
  funext b
  simp [zsl, hq]
theorem zsi_at (h : zH) (k j : Nat) (x : Int32) : (zsi h k j x).1 k = upd (h.1 k) j x := by
  funext b
  simp [zsi, upd]
theorem zsl_at (h : zH) (k j : Nat) (x : Int64) : (zsl h k j x).2 k = vp_updL (h.2 k) j x := by
  funext b
  simp [zsl, vp_updL]
theorem zF_set {ad : Nat → Nat} {h : zH} {k j : Nat} {x : Int32} {fs : List (Option Nat)} (hj : fs[j]? = some none) : (zF ad h k fs).set j (.int x) = zF ad (zsi h k j x) k fs := by
  have hl : j < fs.length := (List.getElem?_eq_some_iff.mp hj).1
  apply List.ext_getElem?
  intro i
  by_cases hi : i = j
  · subst hi
    rw [List.getElem?_set_self (by simp [zF, hl])]
    simp [zF, List.getElem?_mapIdx, hj, zsi]
  · rw [List.getElem?_set_ne (Ne.symm hi)]
    simp only [zF, List.getElem?_mapIdx]
    cases fs[i]? with
    | none => rfl
    | some f => cases f <;> simp [zsi, hi]
def zInv (D : va_G) (ca : Nat → ClassId) (ad : Nat → Nat) (A : Nat → Prop) (H0 : Heap) (h : zH) (H : Heap) (locs : List Loc) : Prop := va_P D vwCl (zW ca ad h) H ∧ va_D A (zW ca ad h) ∧ va_S A H0 H locs
/-! the locals -/
def zl (ad : Nat → Nat) (ls : List (Option Value)) : List (Nat × Value) := ls.zipIdx.filterMap (fun q => q.1.map (fun v => (q.2, zv ad v)))
theorem zl_mem {ad : Nat → Nat} {ls : List (Option Value)} {q : Nat × Value} : q ∈ zl ad ls ↔ ∃ (i : Nat) (v : Value), ls[i]? = some (some v) ∧ q = (i, zv ad v) := by
  unfold zl
  rw [List.mem_filterMap]
  constructor
  · rintro ⟨⟨o, i⟩, hm, ho⟩
    rw [List.mem_zipIdx_iff_getElem?] at hm
    cases o with
    | none => cases ho
    | some v => exact ⟨i, v, hm, (Option.some.inj ho).symm⟩
  · rintro ⟨i, v, hi, rfl⟩
    exact ⟨(some v, i), List.mem_zipIdx_iff_getElem?.mpr hi, rfl⟩
def zLo (ad : Nat → Nat) (nL : Nat) (la : Array Slot) (ls : List (Option Value)) : Prop := lv_has la nL (zl ad ls) ∧ ls.length = nL
theorem zLo_at {ad : Nat → Nat} {nL : Nat} {la : Array Slot} {ls : List (Option Value)} (hl : zLo ad nL la ls) {i : Nat} {v : Value} (hi : ls[i]? = some (some v)) : la[i]? = some (.val (zv ad v)) := hl.1.2.2 (i, zv ad v) (zl_mem.mpr ⟨i, v, hi, rfl⟩)
theorem zLo_set {ad : Nat → Nat} {nL : Nat} {la la' : Array Slot} {ls : List (Option Value)} (hl : zLo ad nL la ls) {i : Nat} {v : Value} (hz : znl ls i = true) (h' : lv_has la' nL ((i, zv ad v) :: (zl ad ls).filter (fun q => !(q.1 == i) && !(q.1 + 1 == i && q.2.category == 2)))) : zLo ad nL la' (ls.set i (some v)) := by
  refine ⟨⟨h'.1, h'.2.1, fun q hq => ?_⟩, by rw [List.length_set]; exact hl.2⟩
  obtain ⟨j, w, hj, rfl⟩ := zl_mem.mp hq
  by_cases hji : j = i
  · subst hji
    have hlt : j < ls.length := by
      have := (List.getElem?_eq_some_iff.mp hj).1
      simpa using this
    rw [List.getElem?_set_self hlt] at hj
    cases hj
    exact h'.2.2 _ List.mem_cons_self
  · rw [List.getElem?_set_ne (Ne.symm hji)] at hj
    refine h'.2.2 _ (List.mem_cons_of_mem _ (List.mem_filter.mpr ⟨zl_mem.mpr ⟨j, w, hj, rfl⟩, ?_⟩))
    by_cases hj1 : j + 1 = i
    · subst hj1
      unfold znl at hz
      rw [Nat.add_sub_cancel, hj] at hz
      have hw : w.category = 1 := Nat.eq_of_beq_eq_true hz
      simp [zv_cat, hw]
    · simp [hji, hj1]
/-! the code -/
def zln : Instr → Nat
  | .iload _ => 2
  | .istore _ => 2
  | .aload _ => 2
  | .bipush _ => 2
  | .ldc _ => 2
  | .sipush _ => 3
  | .ldc2_w _ => 3
  | .ldc_w _ => 3
  | .iinc _ _ => 3
  | .ifCond _ _ => 3
  | .if_icmp _ _ => 3
  | .goto _ => 3
  | .getfield _ => 3
  | .putfield _ => 3
  | .getstatic _ => 3
  | .invokevirtual _ => 3
  | .invokestatic _ => 3
  | _ => 1
def zlo : Nat → Instr → Nat → Bool
  | _, .tableswitch _ lo hi offs, _ => decide (hi < lo + (offs.size : Int))
  | pc, .ifCond _ o, n => Nat.beq n 3 && decide (0 ≤ (pc : Int) + o)
  | pc, .if_icmp _ o, n => Nat.beq n 3 && decide (0 ≤ (pc : Int) + o)
  | _, i, n => Nat.beq n (zln i)
def zch : List zI → Bool
  | [] => true
  | (pc, i, n) :: tl => zlo pc i n && (match tl with
    | [] => true
    | (pc2, _, _) :: _ => Nat.beq pc2 (pc + n)) && zch tl
theorem zch_suffix : ∀ (pre is : List zI), zch (pre ++ is) = true → zch is = true
  | [], _, h => h
  | (pc, i, n) :: pre, is, h => by
    simp only [List.cons_append, zch, Bool.and_eq_true] at h
    exact zch_suffix pre is h.2
def zpc : List zI → Nat
  | [] => 0
  | (pc, _, _) :: _ => pc
section ZS
variable {p : Program} {l : Launch} {e : Env} {R : Room} {s : State} {m : MethodId} {args : Array Value} {below : List Frame} {meth : Method} {c : Code} {cells slots : Nat} {Q : State → Prop}
/-- a field link: what va_get and va_put need -/
def zFl (s : State) (args : Array Value) (own : String) (q : Nat × Nat × Nat × Bool) : Prop := ∃ (C : String) (T : u_T) (N : Nat) (ty0 : Nat → FieldType), vwCl[q.2.1]? = some (C, T, N) ∧ q.2.2.1 < N ∧ (∀ w ∈ u_ws C T N, w.before args s = true) ∧ (Cond.fieldLink own q.1 (T q.2.2.1).1 (T q.2.2.1).2.1 (T q.2.2.1).2.2.1).before args s = true ∧ (∀ k, k < N → parseFieldDescriptor (T k).2.2.1 = some (ty0 k)) ∧ (∀ a, a < N → ∀ b, b < N → a ≠ b → (T a).2.1 ≠ (T b).2.1) ∧ (q.2.2.2 = true → (T q.2.2.1).2.2.2 = false ∧ ty0 q.2.2.1 = .int)
def zCl (p : Program) (l : Launch) (e : Env) (R : Room) (s : State) (m : MethodId) (args : Array Value) (below : List Frame) (meth : Method) (c : Code) (cells slots : Nat) (Q : State → Prop) (cc : ByteArray) (nL : Nat) (D : va_G) (ca : Nat → ClassId) (ad : Nat → Nat) (A : Nat → Prop) (H0 : Heap) (q : Nat × Nat × Nat × Option Nat × zRel) : Prop :=
  ∀ (as : List Value) (h : zH) (r : Option Value) (h' : zH) (H : Heap) (locs : List Loc) (rest : List Value) (la : Array Slot) (pc : Nat) (ins : Instr), q.2.2.2.2 as h r h' → as.length = q.2.1 → zrcv q.2.2.2.1 as = true → decode cc pc = .ok (ins, 3) → (ins = .invokevirtual q.1 ∧ q.2.2.2.1.isSome = true) ∨ (ins = .invokestatic q.1 ∧ q.2.2.2.1.isSome = false) → zInv D ca ad A H0 h H locs → la.size = nL → (rest.map fun v => v.category).sum ≤ 8 →
    (∀ (H' : Heap) (locs' : List Loc), zInv D ca ad A H0 h' H' locs' → W p l e R s m args below meth c H' locs' cells slots Q (F0 m (pc + 3) la ((r.map (zv ad)).toList ++ rest))) → W p l e R s m args below meth c H locs cells slots Q (F0 m pc la ((as.map (zv ad)).reverse ++ rest))
variable {cc : ByteArray} {own : String} {nL : Nat} {D : va_G} {ca : Nat → ClassId} {ad : Nat → Nat} {A : Nat → Prop} {M : zM} {post : Option Value → zH → Prop}
theorem zcs_sum (ad : Nat → Nat) : ∀ st : List Value, ((st.map (zv ad)).map fun v => v.category).sum = zcs st
  | [] => rfl
  | v :: st => by
    have := zcs_sum ad st
    simp only [List.map_cons, List.sum_cons, zcs, zv_cat] at this ⊢
    rw [this]
theorem zsw_spec {k : List zI → Prop} {cd : List zI} {pc : Nat} {x : Int32} : ∀ (os : List Int) (lo : Int), zsw cd pc x k lo os → ∀ (j : Nat) (o : Int), os[j]? = some o → x.toInt = lo + j → k (zj cd pc o)
  | [], _, _, j, o, h, _ => by simp at h
  | o0 :: os, lo, hs, j, o, h, hx => by
    obtain ⟨h1, h2⟩ := hs
    cases j with
    | zero => simp at h; subst h; exact h1 (by simpa using hx)
    | succ j => exact zsw_spec os (lo + 1) h2 j o (by simpa using h) (by rw [hx]; omega)
set_option maxHeartbeats 4000000 in
set_option maxRecDepth 100000 in
theorem z_step (hx : p.tables.exec = Jvm.exec) (hb : c.code = cc) (hml : c.maxLocals = nL) (hown : s.vm.findClass own = some m.cls) (hK : va_K D vwCl (zT ca) s)
    (hfl : ∀ q ∈ M.2.1, zFl s args own q) (hgs : ∀ q ∈ M.2.2.1, ∀ (H : Heap) (locs : List Loc) (pc : Nat) (la : Array Slot) (rest : List Value), va_S A s.heap H locs → decode cc pc = .ok (.getstatic q.1, 3) → W p l e R s m args below meth c H locs cells slots Q (F0 m (pc + 3) la (.ref (ad q.2) :: rest)) → W p l e R s m args below meth c H locs cells slots Q (F0 m pc la rest))
    (hcn : ∀ q ∈ M.2.2.2.1, (Cond.constant own q.1 q.2).before args s = true) (hcl : ∀ q ∈ M.2.2.2.2.1, (Cond.constantLong own q.1 q.2).before args s = true)
    (hca : ∀ q ∈ M.2.2.2.2.2.1, zCl p l e R s m args below meth c cells slots Q cc nL D ca ad A s.heap q)
    (hex : ∀ q ∈ M.2.2.2.2.2.2, va_T .int (ad q.1) q.2.1 (fun j => .int (q.2.2 j)) A s s.heap)
    (hri : ∀ (h : zH) (v : Int32) (H : Heap) (locs : List Loc) (pc : Nat) (la : Array Slot), zInv D ca ad A s.heap h H locs → post (some (.int v)) h → decode cc pc = .ok (.ireturn, 1) → W p l e R s m args below meth c H locs cells slots Q (F0 m pc la [.int v]))
    (hrl : ∀ (h : zH) (v : Int64) (H : Heap) (locs : List Loc) (pc : Nat) (la : Array Slot), zInv D ca ad A s.heap h H locs → post (some (.long v)) h → decode cc pc = .ok (.lreturn, 1) → W p l e R s m args below meth c H locs cells slots Q (F0 m pc la [.long v]))
    (hrv : ∀ (h : zH) (H : Heap) (locs : List Loc) (pc : Nat) (la : Array Slot), zInv D ca ad A s.heap h H locs → post none h → decode cc pc = .ok (.return_, 1) → W p l e R s m args below meth c H locs cells slots Q (F0 m pc la []))
    {pc len : Nat} {ins : Instr} {tl : List zI} {ls : List (Option Value)} {st : List Value} {h : zH} {k : List zI → List (Option Value) → List Value → zH → Prop}
    (hn : ∀ ls st h, k tl ls st h → ∀ (H : Heap) (locs : List Loc) (la : Array Slot), zLo ad nL la ls → zInv D ca ad A s.heap h H locs → W p l e R s m args below meth c H locs cells slots Q (F0 m (pc + len) la (st.map (zv ad))))
    (hj : ∀ off ls st h, k (zj M.1 pc off) ls st h → ∃ tgt : Nat, (pc : Int) + off = (tgt : Int) ∧ ∀ (H : Heap) (locs : List Loc) (la : Array Slot), zLo ad nL la ls → zInv D ca ad A s.heap h H locs → W p l e R s m args below meth c H locs cells slots Q (F0 m tgt la (st.map (zv ad))))
    (hd : decode cc pc = .ok (ins, len)) (hlen : zlo pc ins len = true) (hs : zst M post pc ins tl ls st h k)
    {H : Heap} {locs : List Loc} {la : Array Slot} (hl : zLo ad nL la ls) (hI : zInv D ca ad A s.heap h H locs) : W p l e R s m args below meth c H locs cells slots Q (F0 m pc la (st.map (zv ad))) := by
  unfold zst at hs
  cases ins
  case iload_n i =>
    cases Nat.eq_of_beq_eq_true hlen
    dsimp only at hs
    split at hs
    · next x hi => exact lv_iload_n hx hb hd rfl (zLo_at hl hi) (hn _ _ _ hs _ _ _ hl hI)
    · exact hs.elim
  case iload i =>
    cases Nat.eq_of_beq_eq_true hlen
    dsimp only at hs
    split at hs
    · next x hi => exact lv_iload hx hb hd (zLo_at hl hi) (hn _ _ _ hs _ _ _ hl hI)
    · exact hs.elim
  case aload_n i =>
    cases Nat.eq_of_beq_eq_true hlen
    dsimp only at hs
    split at hs
    · next x hi => exact lv_aload_n hx hb hd rfl (zLo_at hl hi) (hn _ _ _ hs _ _ _ hl hI)
    · exact hs.elim
  case aload i =>
    cases Nat.eq_of_beq_eq_true hlen
    dsimp only at hs
    split at hs
    · next x hi => exact lv_aload hx hb hd (zLo_at hl hi) (hn _ _ _ hs _ _ _ hl hI)
    · exact hs.elim
  case lload_n i =>
    cases Nat.eq_of_beq_eq_true hlen
    dsimp only at hs
    split at hs
    · next x hi => exact lv_lload_n hx hb hd rfl (zLo_at hl hi) (hn _ _ _ hs _ _ _ hl hI)
    · exact hs.elim
  case istore_n i =>
    cases Nat.eq_of_beq_eq_true hlen
    dsimp only at hs
    split at hs
    · next x st' =>
      split at hs
      · next hi =>
        obtain ⟨hi, hz⟩ := Bool.and_eq_true_iff.mp hi
        have hi : i.val < nL := by
          have := Nat.blt_eq.mp hi
          rw [hl.2] at this; exact this
        exact lv_istore_n hx hb hd rfl hl.1 hi rfl (fun la' h' => hn _ _ _ hs _ _ _ (zLo_set (v := .int x) hl hz h') hI)
      · exact hs.elim
    · exact hs.elim
  case istore i =>
    cases Nat.eq_of_beq_eq_true hlen
    dsimp only at hs
    split at hs
    · next x st' =>
      split at hs
      · next hi =>
        obtain ⟨hi, hz⟩ := Bool.and_eq_true_iff.mp hi
        have hi : i < nL := by
          have := Nat.blt_eq.mp hi
          rw [hl.2] at this; exact this
        exact lv_istore hx hb hd hl.1 hi rfl (fun la' h' => hn _ _ _ hs _ _ _ (zLo_set (v := .int x) hl hz h') hI)
      · exact hs.elim
    · exact hs.elim
  case iinc i n =>
    cases Nat.eq_of_beq_eq_true hlen
    dsimp only at hs
    split at hs
    · next x hi =>
      split at hs
      rotate_left
      · exact hs.elim
      next hz =>
      have hlt : i < nL := by
        have := (List.getElem?_eq_some_iff.mp hi).1
        rw [hl.2] at this; exact this
      obtain ⟨kk, hkk⟩ := List.getElem?_of_mem (zl_mem.mpr ⟨i, _, hi, rfl⟩ : (i, zv ad (.int x)) ∈ zl ad ls)
      exact lv_iinc hx hb hd hl.1 hkk rfl hlt rfl (fun la' h' => hn _ _ _ hs _ _ _ (zLo_set (v := .int (x + Int32.ofInt n)) hl hz h') hI)
    · exact hs.elim
  case iconst n =>
    cases Nat.eq_of_beq_eq_true hlen
    dsimp only at hs
    exact lv_iconst hx hb hd rfl (hn _ _ _ hs _ _ _ hl hI)
  case bipush n =>
    cases Nat.eq_of_beq_eq_true hlen
    dsimp only at hs
    exact lv_bipush hx hb hd rfl (hn _ _ _ hs _ _ _ hl hI)
  case sipush n =>
    cases Nat.eq_of_beq_eq_true hlen
    dsimp only at hs
    exact lv_sipush hx hb hd rfl (hn _ _ _ hs _ _ _ hl hI)
  case lconst n =>
    cases Nat.eq_of_beq_eq_true hlen
    dsimp only at hs
    exact lv_lconst hx hb hd rfl (hn _ _ _ hs _ _ _ hl hI)
  case ldc i =>
    cases Nat.eq_of_beq_eq_true hlen
    dsimp only at hs
    split at hs
    · next v hi => exact lv_ldc hx hb hown (hcn _ (zlk0_mem hi)) hd (hn _ _ _ hs _ _ _ hl hI)
    · exact hs.elim
  case ldc_w i =>
    cases Nat.eq_of_beq_eq_true hlen
    dsimp only at hs
    split at hs
    · next v hi => exact lv_ldcw hx hb hown (hcn _ (zlk0_mem hi)) hd (hn _ _ _ hs _ _ _ hl hI)
    · exact hs.elim
  case ldc2_w i =>
    cases Nat.eq_of_beq_eq_true hlen
    dsimp only at hs
    split at hs
    · next v hi => exact lv_ldc2 hx hb hown (hcl _ (zlk0_mem hi)) hd (hn _ _ _ hs _ _ _ hl hI)
    · exact hs.elim
  case iadd =>
    cases Nat.eq_of_beq_eq_true hlen
    dsimp only at hs
    split at hs
    · exact lv_iadd hx hb hd (hn _ _ _ hs _ _ _ hl hI)
    · exact hs.elim
  case isub =>
    cases Nat.eq_of_beq_eq_true hlen
    dsimp only at hs
    split at hs
    · exact lv_isub hx hb hd (hn _ _ _ hs _ _ _ hl hI)
    · exact hs.elim
  case imul =>
    cases Nat.eq_of_beq_eq_true hlen
    dsimp only at hs
    split at hs
    · exact lv_imul hx hb hd (hn _ _ _ hs _ _ _ hl hI)
    · exact hs.elim
  case iand =>
    cases Nat.eq_of_beq_eq_true hlen
    dsimp only at hs
    split at hs
    · exact lv_iand hx hb hd (hn _ _ _ hs _ _ _ hl hI)
    · exact hs.elim
  case ior =>
    cases Nat.eq_of_beq_eq_true hlen
    dsimp only at hs
    split at hs
    · exact lv_ior hx hb hd (hn _ _ _ hs _ _ _ hl hI)
    · exact hs.elim
  case ixor =>
    cases Nat.eq_of_beq_eq_true hlen
    dsimp only at hs
    split at hs
    · exact lv_ixor hx hb hd (hn _ _ _ hs _ _ _ hl hI)
    · exact hs.elim
  case ishl =>
    cases Nat.eq_of_beq_eq_true hlen
    dsimp only at hs
    split at hs
    · exact lv_ishl hx hb hd (hn _ _ _ hs _ _ _ hl hI)
    · exact hs.elim
  case ishr =>
    cases Nat.eq_of_beq_eq_true hlen
    dsimp only at hs
    split at hs
    · exact lv_ishr hx hb hd (hn _ _ _ hs _ _ _ hl hI)
    · exact hs.elim
  case ladd =>
    cases Nat.eq_of_beq_eq_true hlen
    dsimp only at hs
    split at hs
    · exact lv_ladd hx hb hd (hn _ _ _ hs _ _ _ hl hI)
    · exact hs.elim
  case lmul =>
    cases Nat.eq_of_beq_eq_true hlen
    dsimp only at hs
    split at hs
    · exact lv_lmul hx hb hd (hn _ _ _ hs _ _ _ hl hI)
    · exact hs.elim
  case iushr =>
    cases Nat.eq_of_beq_eq_true hlen
    dsimp only at hs
    split at hs
    · exact lv_iushr hx hb hd rfl (hn _ _ _ hs _ _ _ hl hI)
    · exact hs.elim
  case i2l =>
    cases Nat.eq_of_beq_eq_true hlen
    dsimp only at hs
    split at hs
    · exact lv_i2l hx hb hd rfl (hn _ _ _ hs _ _ _ hl hI)
    · exact hs.elim
  case lcmp =>
    cases Nat.eq_of_beq_eq_true hlen
    dsimp only at hs
    split at hs
    · exact W.lcmp hx hb hd (hn _ _ _ hs _ _ _ hl hI)
    · exact hs.elim
  case idiv =>
    cases Nat.eq_of_beq_eq_true hlen
    dsimp only at hs
    split at hs
    · exact lv_idiv hx hb hd hs.1 (hn _ _ _ hs.2 _ _ _ hl hI)
    · exact hs.elim
  case irem =>
    cases Nat.eq_of_beq_eq_true hlen
    dsimp only at hs
    split at hs
    · exact lv_irem hx hb hd hs.1 (hn _ _ _ hs.2 _ _ _ hl hI)
    · exact hs.elim
  case dup =>
    cases Nat.eq_of_beq_eq_true hlen
    dsimp only at hs
    split at hs
    · exact lv_dup hx hb hd rfl (hn _ _ _ hs _ _ _ hl hI)
    · exact lv_dup hx hb hd rfl (hn _ _ _ hs _ _ _ hl hI)
    · exact hs.elim
  case dup2 =>
    cases Nat.eq_of_beq_eq_true hlen
    dsimp only at hs
    split at hs
    · exact lv_dup2_11 hx hb hd rfl rfl (hn _ _ _ hs _ _ _ hl hI)
    · exact hs.elim
  case ifCond cnd off =>
    obtain ⟨hl3, ho⟩ := Bool.and_eq_true_iff.mp hlen
    cases Nat.eq_of_beq_eq_true hl3
    obtain ⟨tgt, ht⟩ := Int.eq_ofNat_of_zero_le (of_decide_eq_true ho)
    dsimp only at hs
    split at hs
    · next x st' =>
      obtain ⟨ha, hb2⟩ := hs
      have hj2 : ∀ {P : Prop}, (P → k (zj M.1 pc off) ls st' h) → P → W p l e R s m args below meth c H locs cells slots Q (F0 m tgt la (List.map (zv ad) st')) := fun ha z => by
        obtain ⟨t2, e2, w⟩ := hj _ _ _ _ (ha z)
        have : t2 = tgt := by omega
        subst this
        exact w _ _ _ hl hI
      cases cnd
      · exact lv_if_eq hx hb hd ht (fun z => hj2 ha z) (fun z => hn _ _ _ (hb2 z) _ _ _ hl hI)
      · exact lv_if_ne hx hb hd ht (fun z => hj2 ha z) (fun z => hn _ _ _ (hb2 (fun q => q z)) _ _ _ hl hI)
      · exact lv_if_lt hx hb hd ht (fun z => hj2 ha z) (fun z => hn _ _ _ (hb2 z) _ _ _ hl hI)
      · exact lv_if_ge hx hb hd ht (fun z => hj2 ha z) (fun z => hn _ _ _ (hb2 z) _ _ _ hl hI)
      · exact lv_if_gt hx hb hd ht (fun z => hj2 ha z) (fun z => hn _ _ _ (hb2 z) _ _ _ hl hI)
      · exact lv_if_le hx hb hd ht (fun z => hj2 ha z) (fun z => hn _ _ _ (hb2 z) _ _ _ hl hI)
    · exact hs.elim
  case if_icmp cnd off =>
    obtain ⟨hl3, ho⟩ := Bool.and_eq_true_iff.mp hlen
    cases Nat.eq_of_beq_eq_true hl3
    obtain ⟨tgt, ht⟩ := Int.eq_ofNat_of_zero_le (of_decide_eq_true ho)
    dsimp only at hs
    split at hs
    · next y x st' =>
      obtain ⟨ha, hb2⟩ := hs
      have hj2 : ∀ {P : Prop}, (P → k (zj M.1 pc off) ls st' h) → P → W p l e R s m args below meth c H locs cells slots Q (F0 m tgt la (List.map (zv ad) st')) := fun ha z => by
        obtain ⟨t2, e2, w⟩ := hj _ _ _ _ (ha z)
        have : t2 = tgt := by omega
        subst this
        exact w _ _ _ hl hI
      cases cnd
      · exact lv_icmp_eq hx hb hd ht (fun z => hj2 ha z) (fun z => hn _ _ _ (hb2 z) _ _ _ hl hI)
      · exact lv_icmp_ne hx hb hd ht (fun z => hj2 ha z) (fun z => hn _ _ _ (hb2 (fun q => q z)) _ _ _ hl hI)
      · exact lv_icmp_lt hx hb hd ht (fun z => hj2 ha z) (fun z => hn _ _ _ (hb2 z) _ _ _ hl hI)
      · exact lv_icmp_ge hx hb hd ht (fun z => hj2 ha z) (fun z => hn _ _ _ (hb2 z) _ _ _ hl hI)
      · exact lv_icmp_gt hx hb hd ht (fun z => hj2 ha z) (fun z => hn _ _ _ (hb2 z) _ _ _ hl hI)
      · exact lv_icmp_le hx hb hd ht (fun z => hj2 ha z) (fun z => hn _ _ _ (hb2 z) _ _ _ hl hI)
    · exact hs.elim
  case goto off =>
    cases Nat.eq_of_beq_eq_true hlen
    dsimp only at hs
    obtain ⟨tgt, ht, w⟩ := hj _ _ _ _ hs
    exact lv_goto hx hb hd ht (w _ _ _ hl hI)
  case tableswitch dflt lo hi offs =>
    dsimp only at hs
    split at hs
    · next x st' =>
      obtain ⟨ha, hsw⟩ := hs
      by_cases hr : x.toInt < lo ∨ hi < x.toInt
      · obtain ⟨tgt, ht, w⟩ := hj _ _ _ _ (ha hr)
        exact lv_tableOut hx hb hd hr ht (w _ _ _ hl hI)
      · have h1 : ¬ x.toInt < lo := fun z => hr (Or.inl z)
        have h2 : ¬ hi < x.toInt := fun z => hr (Or.inr z)
        cases ho : offs[(x.toInt - lo).toNat]? with
        | none =>
          have hz : hi < lo + (offs.size : Int) := of_decide_eq_true hlen
          have := Array.getElem?_eq_none_iff.mp ho
          omega
        | some o =>
          obtain ⟨tgt, ht, w⟩ := hj _ _ _ _ (zsw_spec (k := fun q => k q ls st' h) offs.toList lo hsw _ o (by simpa using ho) (by omega))
          exact lv_tableIn hx hb hd h1 h2 ho ht (w _ _ _ hl hI)
    · exact hs.elim
  case ireturn =>
    cases Nat.eq_of_beq_eq_true hlen
    dsimp only at hs
    split at hs
    · exact hri _ _ _ _ _ _ hI hs hd
    · exact hs.elim
  case lreturn =>
    cases Nat.eq_of_beq_eq_true hlen
    dsimp only at hs
    split at hs
    · exact hrl _ _ _ _ _ _ hI hs hd
    · exact hs.elim
  case return_ =>
    cases Nat.eq_of_beq_eq_true hlen
    dsimp only at hs
    split at hs
    · exact hrv _ _ _ _ _ hI hs hd
    · exact hs.elim
  case getfield i =>
    cases Nat.eq_of_beq_eq_true hlen
    dsimp only at hs
    split at hs
    · next a st' =>
      split at hs
      · next ci j w hi =>
        split at hs
        · next ci' fs hsh =>
          split at hs
          · next hci =>
            cases Nat.eq_of_beq_eq_true hci
            obtain ⟨C, T, N, ty0, g1, g2, g3, g4, g5, g6, g7⟩ := hfl _ (zlk0_mem hi)
            have hg := zW_get (ca := ca) (ad := ad) (h := h) hsh
            split at hs
            · next r hf =>
              exact va_get hx hb g3 (fun w h => h) hown hK hI.1 a hg g1 j g2 g4 (fun x h => h) (v := .ref (ad r)) (by simp [zF, hf]) hd (hn _ _ _ hs _ _ _ hl hI)
            · next hf =>
              exact va_get hx hb g3 (fun w h => h) hown hK hI.1 a hg g1 j g2 g4 (fun x h => h) (v := .int (h.1 a j)) (by simp [zF, hf]) hd (hn _ _ _ hs _ _ _ hl hI)
            · exact hs.elim
          · exact hs.elim
        · exact hs.elim
      · exact hs.elim
    · exact hs.elim
  case putfield i =>
    cases Nat.eq_of_beq_eq_true hlen
    dsimp only at hs
    split at hs
    · next x a st' =>
      split at hs
      · next ci j hi =>
        split at hs
        · next ci' fs hsh =>
          split at hs
          · next hci =>
            cases Nat.eq_of_beq_eq_true hci
            obtain ⟨C, T, N, ty0, g1, g2, g3, g4, g5, g6, g7⟩ := hfl _ (zlk0_mem hi)
            obtain ⟨g8, g9⟩ := g7 rfl
            have hg := zW_get (ca := ca) (ad := ad) (h := h) hsh
            split at hs
            · next hf =>
              have hjl : j < fs.length := (List.getElem?_eq_some_iff.mp hf).1
              refine va_put hx hb g3 (fun w h => h) ty0 g5 g6 hown hK hI.1 hI.2.1 hI.2.2 a hg g1 j g2 g4 (fun x h => h) g8 (ty := .int) (v := .int x) (by rw [g5 j g2, g9]) rfl rfl (by simp [zF, hjl]) hd (fun H1 locs1 p1 p2 p3 => ?_)
              have e := zW_set (ca := ca) (ad := ad) (h := h) (h' := zsi h a j x) (e := .inr (ci, (zF ad h a fs).set j (.int x))) hsh (by rw [zF_set hf]; rfl) (zsi_off h a j x)
              rw [e] at p1 p2
              exact hn _ _ _ hs _ _ _ hl ⟨p1, p2, p3⟩
            · exact hs.elim
          · exact hs.elim
        · exact hs.elim
      · exact hs.elim
    · exact hs.elim
  case getstatic i =>
    cases Nat.eq_of_beq_eq_true hlen
    dsimp only at hs
    split at hs
    · next a hi => exact hgs _ (zlk0_mem hi) _ _ _ _ _ hI.2.2 hd (hn _ _ _ hs _ _ _ hl hI)
    · exact hs.elim
  case iaload =>
    cases Nat.eq_of_beq_eq_true hlen
    dsimp only at hs
    split at hs
    · next i a st' =>
      split at hs
      · next n rs hsh => exact va_iald hx hb hK hI.1 a 0 (zW_get (ca := ca) (ad := ad) (h := h) hsh) rfl hs.1 hd (hn _ _ _ hs.2 _ _ _ hl hI)
      · split at hs
        · next n f hi =>
          obtain ⟨cell, q1, q2, q3, q4, q5, q6, q7⟩ := hex _ (zlk0_mem hi)
          have hlt : i.toNatClampNeg < n := Nat.not_le.mp fun q => hs.1 (Or.inr q)
          refine W.iald (v := .int (f i.toNatClampNeg)) hx hb (by rw [hI.2.2.2.1 _ (Array.getElem?_eq_some_iff.mp q1).1 q7]; exact q1) q2 q3 (fun z => hs.1 (z.imp id (fun w => Nat.le_trans q4 w))) (q6 _ hlt) rfl rfl hd (hn _ _ _ hs.2 _ _ _ hl hI)
        · exact hs.elim
      · exact hs.elim
    · exact hs.elim
  case iastore =>
    cases Nat.eq_of_beq_eq_true hlen
    dsimp only at hs
    split at hs
    · next x i a st' =>
      split at hs
      · next n rs hsh =>
        refine va_iast hx hb hK hI.1 hI.2.1 hI.2.2 a 0 (zW_get (ca := ca) (ad := ad) (h := h) hsh) rfl hs.1 hd (fun H1 locs1 p1 p2 p3 => ?_)
        have e := zW_set (ca := ca) (ad := ad) (h := h) (h' := zsi h a i.toNatClampNeg x) (e := .inl (ca 0, n, .inl (upd (h.1 a) i.toNatClampNeg x))) hsh (by rw [← zsi_at]; rfl) (zsi_off _ _ _ _)
        rw [e] at p1 p2
        exact hn _ _ _ hs.2 _ _ _ hl ⟨p1, p2, p3⟩
      · exact hs.elim
    · exact hs.elim
  case bastore =>
    cases Nat.eq_of_beq_eq_true hlen
    dsimp only at hs
    split at hs
    · next x i a st' =>
      split at hs
      · next n rs hsh =>
        refine va_zast hx hb hK hI.1 hI.2.1 hI.2.2 a 1 (zW_get (ca := ca) (ad := ad) (h := h) hsh) rfl hs.1 hd (fun H1 locs1 p1 p2 p3 => ?_)
        have e := zW_set (ca := ca) (ad := ad) (h := h) (h' := zsi h a i.toNatClampNeg (vp_nar .boolean x)) (e := .inl (ca 1, n, .inl (upd (h.1 a) i.toNatClampNeg (vp_nar .boolean x)))) hsh (by rw [← zsi_at]; rfl) (zsi_off _ _ _ _)
        rw [e] at p1 p2
        exact hn _ _ _ hs.2 _ _ _ hl ⟨p1, p2, p3⟩
      · exact hs.elim
    · exact hs.elim
  case lastore =>
    cases Nat.eq_of_beq_eq_true hlen
    dsimp only at hs
    split at hs
    · next x i a st' =>
      split at hs
      · next n rs hsh =>
        refine va_last hx hb hK hI.1 hI.2.1 hI.2.2 a 2 (zW_get (ca := ca) (ad := ad) (h := h) hsh) rfl hs.1 hd (fun H1 locs1 p1 p2 p3 => ?_)
        have e := zW_set (ca := ca) (ad := ad) (h := h) (h' := zsl h a i.toNatClampNeg x) (e := .inl (ca 2, n, .inr (.inl (vp_updL (h.2 a) i.toNatClampNeg x)))) hsh (by rw [← zsl_at]; rfl) (zsl_off _ _ _ _)
        rw [e] at p1 p2
        exact hn _ _ _ hs.2 _ _ _ hl ⟨p1, p2, p3⟩
      · exact hs.elim
    · exact hs.elim
  case baload =>
    cases Nat.eq_of_beq_eq_true hlen
    dsimp only at hs
    split at hs
    · next i a st' =>
      split at hs
      · next n rs hsh => exact va_zald hx hb hK hI.1 a 1 (zW_get (ca := ca) (ad := ad) (h := h) hsh) rfl hs.1 hd (hn _ _ _ hs.2 _ _ _ hl hI)
      · exact hs.elim
    · exact hs.elim
  case laload =>
    cases Nat.eq_of_beq_eq_true hlen
    dsimp only at hs
    split at hs
    · next i a st' =>
      split at hs
      · next n rs hsh => exact va_lald hx hb hK hI.1 a 2 (zW_get (ca := ca) (ad := ad) (h := h) hsh) rfl hs.1 hd (hn _ _ _ hs.2 _ _ _ hl hI)
      · exact hs.elim
    · exact hs.elim
  case aaload =>
    cases Nat.eq_of_beq_eq_true hlen
    dsimp only at hs
    split at hs
    · next i a st' =>
      split at hs
      · next n rs hsh =>
        obtain ⟨hin, hs⟩ := hs
        split at hs
        · next r hr =>
          refine va_aldq hx hb hK hI.1 a 3 (C := RX6) (zW_get (ca := ca) (ad := ad) (h := h) hsh) rfl hin hd ?_
          rw [hr]
          exact hn _ _ _ hs _ _ _ hl hI
        · exact hs.elim
      · exact hs.elim
    · exact hs.elim
  case arraylength =>
    cases Nat.eq_of_beq_eq_true hlen
    dsimp only at hs
    split at hs
    · next a st' =>
      split at hs
      · next n rs hsh => exact va_alen hx hb hK hI.1 a 0 (zW_get (ca := ca) (ad := ad) (h := h) hsh) rfl rfl hd (hn _ _ _ hs _ _ _ hl hI)
      · next n rs hsh => exact va_alen hx hb hK hI.1 a 2 (zW_get (ca := ca) (ad := ad) (h := h) hsh) rfl rfl hd (hn _ _ _ hs _ _ _ hl hI)
      · split at hs
        · next n f hi =>
          obtain ⟨cell, q1, q2, q3, q4, q5, q6, q7⟩ := hex _ (zlk0_mem hi)
          exact W.alen (n := Int32.ofNat n) hx hb (by rw [hI.2.2.2.1 _ (Array.getElem?_eq_some_iff.mp q1).1 q7]; exact q1) q2 q5 rfl rfl hd (hn _ _ _ hs _ _ _ hl hI)
        · exact hs.elim
      · exact hs.elim
    · exact hs.elim
  case invokevirtual i =>
    cases Nat.eq_of_beq_eq_true hlen
    dsimp only at hs
    unfold zcall at hs
    split at hs
    · next n kd o Rl hi =>
      split at hs
      · next hck =>
        obtain ⟨hcs, hck⟩ := Bool.and_eq_true_iff.mp hck
        obtain ⟨hln, hck⟩ := Bool.and_eq_true_iff.mp hck
        obtain ⟨hvt, hrc⟩ := Bool.and_eq_true_iff.mp hck
        have hcs := Nat.le_of_ble_eq_true hcs
        have hln := Nat.eq_of_beq_eq_true hln
        have hvt : o.isSome = true := by cases ho : o.isSome <;> simp_all
        have hcall := hca _ (zlk0_mem hi)
        have est : st.map (zv ad) = ((st.take n).reverse.map (zv ad)).reverse ++ (st.drop n).map (zv ad) := by
          rw [← List.map_reverse, List.reverse_reverse, ← List.map_append, List.take_append_drop]
        rw [est]
        have hsum : (((st.drop n).map (zv ad)).map fun v => v.category).sum ≤ 8 := by rw [zcs_sum]; exact hcs
        have hlen2 : (st.take n).reverse.length = n := by rw [List.length_reverse]; exact hln
        split at hs
        · obtain ⟨h', hR, hk⟩ := hs
          exact hcall _ _ _ _ _ _ _ _ _ _ hR hlen2 hrc hd (Or.inl ⟨rfl, hvt⟩) hI hl.1.1 hsum (fun H' locs' hI' => hn _ _ _ hk _ _ _ hl hI')
        · obtain ⟨v, h', hR, hk⟩ := hs
          exact hcall _ _ _ _ _ _ _ _ _ _ hR hlen2 hrc hd (Or.inl ⟨rfl, hvt⟩) hI hl.1.1 hsum (fun H' locs' hI' => hn _ _ _ hk _ _ _ hl hI')
        · obtain ⟨v, h', hR, hk⟩ := hs
          exact hcall _ _ _ _ _ _ _ _ _ _ hR hlen2 hrc hd (Or.inl ⟨rfl, hvt⟩) hI hl.1.1 hsum (fun H' locs' hI' => hn _ _ _ hk _ _ _ hl hI')
        · exact hs.elim
      · exact hs.elim
    · exact hs.elim
  case invokestatic i =>
    cases Nat.eq_of_beq_eq_true hlen
    dsimp only at hs
    unfold zcall at hs
    split at hs
    · next n kd o Rl hi =>
      split at hs
      · next hck =>
        obtain ⟨hcs, hck⟩ := Bool.and_eq_true_iff.mp hck
        obtain ⟨hln, hck⟩ := Bool.and_eq_true_iff.mp hck
        obtain ⟨hvt, hrc⟩ := Bool.and_eq_true_iff.mp hck
        have hcs := Nat.le_of_ble_eq_true hcs
        have hln := Nat.eq_of_beq_eq_true hln
        have hvt : o.isSome = false := by cases ho : o.isSome <;> simp_all
        have hcall := hca _ (zlk0_mem hi)
        have est : st.map (zv ad) = ((st.take n).reverse.map (zv ad)).reverse ++ (st.drop n).map (zv ad) := by
          rw [← List.map_reverse, List.reverse_reverse, ← List.map_append, List.take_append_drop]
        rw [est]
        have hsum : (((st.drop n).map (zv ad)).map fun v => v.category).sum ≤ 8 := by rw [zcs_sum]; exact hcs
        have hlen2 : (st.take n).reverse.length = n := by rw [List.length_reverse]; exact hln
        split at hs
        · obtain ⟨h', hR, hk⟩ := hs
          exact hcall _ _ _ _ _ _ _ _ _ _ hR hlen2 hrc hd (Or.inr ⟨rfl, hvt⟩) hI hl.1.1 hsum (fun H' locs' hI' => hn _ _ _ hk _ _ _ hl hI')
        · obtain ⟨v, h', hR, hk⟩ := hs
          exact hcall _ _ _ _ _ _ _ _ _ _ hR hlen2 hrc hd (Or.inr ⟨rfl, hvt⟩) hI hl.1.1 hsum (fun H' locs' hI' => hn _ _ _ hk _ _ _ hl hI')
        · obtain ⟨v, h', hR, hk⟩ := hs
          exact hcall _ _ _ _ _ _ _ _ _ _ hR hlen2 hrc hd (Or.inr ⟨rfl, hvt⟩) hI hl.1.1 hsum (fun H' locs' hI' => hn _ _ _ hk _ _ _ hl hI')
        · exact hs.elim
      · exact hs.elim
    · exact hs.elim
  all_goals exact hs.elim
theorem zj_spec {cd : List zI} {pc : Nat} {off : Int} (hne : zj cd pc off ≠ []) : (pc : Int) + off = (zpc (zj cd pc off) : Int) ∧ zj cd pc off <:+ cd := by
  unfold zj at hne ⊢
  split at hne
  · next t ht =>
    refine ⟨?_, List.dropWhile_suffix _⟩
    rw [ht]
    cases hd : cd.dropWhile (fun e => !(Nat.beq e.1 t)) with
    | nil => exact absurd hd hne
    | cons e es =>
      have := List.head?_dropWhile_not (fun e => !(Nat.beq e.1 t)) cd
      rw [hd] at this
      simp only [List.head?_cons] at this
      have h2 : Nat.beq e.1 t = true := by simpa using this
      obtain ⟨a, b, d⟩ := e
      rw [← Nat.eq_of_beq_eq_true h2]
      rfl
  · exact absurd rfl hne
set_option maxHeartbeats 4000000 in
theorem z_snd (hx : p.tables.exec = Jvm.exec) (hb : c.code = cc) (hml : c.maxLocals = nL) (hown : s.vm.findClass own = some m.cls) (hK : va_K D vwCl (zT ca) s)
    (hfl : ∀ q ∈ M.2.1, zFl s args own q) (hgs : ∀ q ∈ M.2.2.1, ∀ (H : Heap) (locs : List Loc) (pc : Nat) (la : Array Slot) (rest : List Value), va_S A s.heap H locs → decode cc pc = .ok (.getstatic q.1, 3) → W p l e R s m args below meth c H locs cells slots Q (F0 m (pc + 3) la (.ref (ad q.2) :: rest)) → W p l e R s m args below meth c H locs cells slots Q (F0 m pc la rest))
    (hcn : ∀ q ∈ M.2.2.2.1, (Cond.constant own q.1 q.2).before args s = true) (hcl : ∀ q ∈ M.2.2.2.2.1, (Cond.constantLong own q.1 q.2).before args s = true)
    (hca : ∀ q ∈ M.2.2.2.2.2.1, zCl p l e R s m args below meth c cells slots Q cc nL D ca ad A s.heap q)
    (hex : ∀ q ∈ M.2.2.2.2.2.2, va_T .int (ad q.1) q.2.1 (fun j => .int (q.2.2 j)) A s s.heap)
    (hri : ∀ (h : zH) (v : Int32) (H : Heap) (locs : List Loc) (pc : Nat) (la : Array Slot), zInv D ca ad A s.heap h H locs → post (some (.int v)) h → decode cc pc = .ok (.ireturn, 1) → W p l e R s m args below meth c H locs cells slots Q (F0 m pc la [.int v]))
    (hrl : ∀ (h : zH) (v : Int64) (H : Heap) (locs : List Loc) (pc : Nat) (la : Array Slot), zInv D ca ad A s.heap h H locs → post (some (.long v)) h → decode cc pc = .ok (.lreturn, 1) → W p l e R s m args below meth c H locs cells slots Q (F0 m pc la [.long v]))
    (hrv : ∀ (h : zH) (H : Heap) (locs : List Loc) (pc : Nat) (la : Array Slot), zInv D ca ad A s.heap h H locs → post none h → decode cc pc = .ok (.return_, 1) → W p l e R s m args below meth c H locs cells slots Q (F0 m pc la []))
    (hdec : ∀ q ∈ M.1, decode cc q.1 = .ok (q.2.1, q.2.2)) (hch : zch M.1 = true) :
    ∀ (is : List zI) (ls : List (Option Value)) (st : List Value) (h : zH), is <:+ M.1 → zG M post is ls st h → ∀ (H : Heap) (locs : List Loc) (la : Array Slot), zLo ad nL la ls → zInv D ca ad A s.heap h H locs → W p l e R s m args below meth c H locs cells slots Q (F0 m (zpc is) la (st.map (zv ad))) := by
  intro is ls st h hsf0 hg0
  refine (hg0 (fun is ls st h => is ≠ [] ∧ (is <:+ M.1 → ∀ (H : Heap) (locs : List Loc) (la : Array Slot), zLo ad nL la ls → zInv D ca ad A s.heap h H locs → W p l e R s m args below meth c H locs cells slots Q (F0 m (zpc is) la (st.map (zv ad))))) ?_).2 hsf0
  intro is ls st h hg
  cases is with
  | nil => exact hg.elim
  | cons q tl =>
    refine ⟨List.cons_ne_nil _ _, ?_⟩
    intro hsf H locs la hl hI
    obtain ⟨pc, ins, len⟩ := q
    obtain ⟨pre, hpre⟩ := hsf
    have hmem : (pc, ins, len) ∈ M.1 := by rw [← hpre]; exact List.mem_append_right _ List.mem_cons_self
    have hc2 : zch ((pc, ins, len) :: tl) = true := zch_suffix pre _ (by rw [hpre]; exact hch)
    simp only [zch, Bool.and_eq_true] at hc2
    obtain ⟨⟨c1, c2⟩, c3⟩ := hc2
    have htl : tl <:+ M.1 := ⟨pre ++ [(pc, ins, len)], by rw [← hpre]; simp⟩
    unfold zstL at hg
    dsimp only at hg
    refine z_step hx hb hml hown hK hfl hgs hcn hcl hca hex hri hrl hrv (tl := tl) (pc := pc) (ins := ins) (len := len) (ls := ls) (st := st) (h := h) (k := (fun is ls st h => is ≠ [] ∧ (is <:+ M.1 → ∀ (H : Heap) (locs : List Loc) (la : Array Slot), zLo ad nL la ls → zInv D ca ad A s.heap h H locs → W p l e R s m args below meth c H locs cells slots Q (F0 m (zpc is) la (st.map (zv ad)))))) ?_ ?_ (hdec (pc, ins, len) hmem) c1 hg hl hI
    · intro ls st h hg' H locs la hl hI
      have hw := hg'.2 htl H locs la hl hI
      cases tl with
      | nil => exact absurd rfl hg'.1
      | cons q2 tl2 =>
        obtain ⟨pc2, i2, l2⟩ := q2
        have : pc2 = pc + len := Nat.eq_of_beq_eq_true c2
        rw [← this]
        exact hw
    · intro off ls st h hg'
      obtain ⟨e1, e2⟩ := zj_spec hg'.1
      exact ⟨_, e1, fun H locs la hl hI => hg'.2 e2 H locs la hl hI⟩
end ZS
