/-! ===== THE MAKING MACHINE SPEAKS TRUE ===== -/
def dln : Instr → Nat
  | .newarray _ => 2
  | .anewarray _ => 3
  | .new _ => 3
  | .checkcast _ => 3
  | .invokespecial _ => 3
  | i => zln i
def dlo : Nat → Instr → Nat → Bool
  | pc, .if_icmp _ o, n => Nat.beq n 3 && decide (0 ≤ (pc : Int) + o)
  | _, i, n => Nat.beq n (dln i)
def dch : List zI → Bool
  | [] => true
  | (pc, i, n) :: tl => dlo pc i n && (match tl with
    | [] => true
    | (pc2, _, _) :: _ => Nat.beq pc2 (pc + n)) && dch tl
theorem dch_suffix : ∀ (pre is : List zI), dch (pre ++ is) = true → dch is = true
  | [], _, h => h
  | (pc, i, n) :: pre, is, h => by
    simp only [List.cons_append, dch, Bool.and_eq_true] at h
    exact dch_suffix pre is h.2
/-- a field: what getting and putting need -/
def dFl (s : State) (args : Array Value) (own : String) (q : Nat × Nat × Nat × Bool) : Prop := ∃ (C : String) (T : u_T) (N : Nat) (ty0 : Nat → FieldType), vwCl[q.2.1]? = some (C, T, N) ∧ q.2.2.1 < N ∧ (∀ w ∈ u_ws C T N, w.before args s = true) ∧ (Cond.fieldLink own q.1 (T q.2.2.1).1 (T q.2.2.1).2.1 (T q.2.2.1).2.2.1).before args s = true ∧ (∀ k, k < N → parseFieldDescriptor (T k).2.2.1 = some (ty0 k)) ∧ (∀ a, a < N → ∀ b, b < N → a ≠ b → (T a).2.1 ≠ (T b).2.1) ∧ (T q.2.2.1).1 = own ∧ (q.2.2.2 = true → ∀ a, narrow (ty0 q.2.2.1) (.ref a) = .ref a ∧ fits (ty0 q.2.2.1) (.ref a) = true) ∧ (q.2.2.2 = false → ty0 q.2.2.1 = .int)
def dNw (s : State) (args : Array Value) (own : String) (q : Nat × Nat × Nat × List Value) : Prop := ∃ (C : String) (T : u_T) (ty : Nat → FieldType), vwCl[q.2.1]? = some (C, T, q.2.2.1) ∧ (∀ w ∈ u_ws C T q.2.2.1, w.before args s = true) ∧ (∀ k, k < q.2.2.1 → parseFieldDescriptor (T k).2.2.1 = some (ty k)) ∧ (Cond.classLink own q.1 C).before args s = true ∧ (Cond.instantiable C q.2.2.1).before args s = true ∧ (Cond.initialized C).before args s = true ∧ (∀ j, j < q.2.2.1 → defaultValue (ty j) = vp_V q.2.2.2 j) ∧ ∀ ad, q.2.2.2.map (zv ad) = q.2.2.2
def dnp : Instr → Bool
  | .putfield _ => false
  | _ => true
section DS
variable {p : Program} {l : Launch} {e : Env} {R : Room} {s : State} {m : MethodId} {args : Array Value} {below : List Frame} {meth : Method} {c : Code} {Q : State → Prop}
def dCl (p : Program) (l : Launch) (e : Env) (R : Room) (s : State) (m : MethodId) (args : Array Value) (below : List Frame) (meth : Method) (c : Code) (Q : State → Prop) (cc : ByteArray) (nL : Nat) (D : va_G) (ca : Nat → ClassId) (ad0 : Nat → Nat) (A : Nat → Prop) (n0 : Nat) (q : Nat × Nat × Nat × dF × Nat × Nat) : Prop :=
  ∀ (as : List Value) (ws ws' : List dE) (ad : Nat → Nat) (H : Heap) (locs : List Loc) (rest : List Value) (la : Array Slot) (pc : Nat) (ins : Instr) (cells slots : Nat), q.2.2.2.1 as ws = some ws' → as.length = q.2.1 → decode cc pc = .ok (ins, 3) → ((ins = .invokespecial q.1 ∧ (q.2.2.1 = 1 ∨ q.2.2.1 = 2)) ∨ (ins = .invokestatic q.1 ∧ q.2.2.1 = 3) ∨ (ins = .invokevirtual q.1 ∧ q.2.2.1 = 4)) → n0 ≤ ws.length → dAg n0 ad0 ad → dInv D ca ad A s.heap ws H locs → la.size = nL → (rest.map fun v => v.category).sum ≤ 8 → cells + q.2.2.2.2.1 ≤ R.cells → slots + q.2.2.2.2.2 ≤ R.slots →
    (∀ (ad' : Nat → Nat) (H' : Heap) (locs' : List Loc), dAg ws.length ad ad' → dInv D ca ad' A s.heap ws' H' locs' → W p l e R s m args below meth c H' locs' (cells + q.2.2.2.2.1) (slots + q.2.2.2.2.2) Q (F0 m (pc + 3) la rest)) → W p l e R s m args below meth c H locs cells slots Q (F0 m pc la ((as.map (zv ad)).reverse ++ rest))
/-- cloning one of the two tables -/
def dCln (p : Program) (l : Launch) (e : Env) (R : Room) (s : State) (m : MethodId) (args : Array Value) (below : List Frame) (meth : Method) (c : Code) (Q : State → Prop) (cc : ByteArray) (nL : Nat) (D : va_G) (ca : Nat → ClassId) (ad0 : Nat → Nat) (A : Nat → Prop) (i : Nat) : Prop :=
  ∀ (k n : Nat) (L : List Int32), (k = 100 ∧ n = 30 ∧ L = dTF) ∨ (k = 101 ∧ n = 5 ∧ L = dRF) → ∀ (ws : List dE) (ad : Nat → Nat) (H : Heap) (locs : List Loc) (rest : List Value) (la : Array Slot) (pc : Nat) (cells slots : Nat), decode cc pc = .ok (.invokevirtual i, 3) → ad k = ad0 k → dInv D ca ad A s.heap ws H locs → la.size = nL → (rest.map fun v => v.category).sum ≤ 8 → cells + 1 ≤ R.cells → slots + n ≤ R.slots →
    (∀ (q : Nat) (H' : Heap), va_P D vwCl (dW ca ad ws ++ [(q, .inl (ca 0, n, .inl (fun j => L.getD j 0)))]) H' → va_D A (dW ca ad ws ++ [(q, .inl (ca 0, n, .inl (fun j => L.getD j 0)))]) → va_S A s.heap H' locs → W p l e R s m args below meth c H' locs (cells + 1) (slots + n) Q (F0 m (pc + 3) la (.ref q :: rest))) → W p l e R s m args below meth c H locs cells slots Q (F0 m pc la (.ref (ad k) :: rest))
variable {cc : ByteArray} {own : String} {nL : Nat} {D : va_G} {ca : Nat → ClassId} {ad0 : Nat → Nat} {A : Nat → Prop} {M : dM} {n0 : Nat}
theorem arr_one {k : Nat} {cA cB : ClassId} {ty : FieldType} (hT : (zT ca)[k]? = some (cB, ty)) (hty : ∀ C, ty ≠ .object C) (hK : va_K D vwCl (zT ca) s) {t2 : List (ClassId × FieldType)} (h2 : va_K D vwCl (t2 ++ [(cA, ty)]) s) : cA = cB := by
  have h1 := (hK.2 k _ hT).2
  have h3 := (h2.2 t2.length (cA, ty) (by simp)).2
  have f : ∀ {x : ClassId}, va_RA s x ty → s.vm.findClass ("[" ++ ty.toString) = some x := fun {x} h => by
    cases ty with
    | object C => exact absurd rfl (hty C)
    | _ => exact h
  exact Option.some.inj ((f h3).symm.trans (f h1))
theorem arr_obj {k : Nat} {cA cB : ClassId} {C : String} (hT : (zT ca)[k]? = some (cB, .object C)) (hK : va_K D vwCl (zT ca) s) {t2 : List (ClassId × FieldType)} (h2 : va_K D vwCl (t2 ++ [(cA, .object C)]) s) : cA = cB := by
  obtain ⟨-, -, -, -, -, h1⟩ := (hK.2 k _ hT).2
  obtain ⟨-, -, -, -, -, h3⟩ := (h2.2 t2.length (cA, .object C) (by simp)).2
  exact Option.some.inj (h3.symm.trans h1)
theorem d_newa {H : Heap} {locs : List Loc} {cells slots pc : Nat} {la : Array Slot} {rest : List Value} {W0 : va_W} (hx : p.tables.exec = Jvm.exec) (hb : c.code = cc) (hK : va_K D vwCl (zT ca) s) (hA : ∀ q, s.heap.size ≤ q → A q) {atype : ArrayType} {ty : FieldType} (k : Nat) {cB : ClassId} (hT : (zT ca)[k]? = some (cB, ty)) (hobj : ∀ C, ty ≠ .object C) (hty : newarray.typeOf atype = ty) (harr : (Cond.arrayClass ty).before args s = true) {i : Int32} {N : Nat} {a0 : vp_A} (ha : ∀ cA : ClassId, vp_cell cA a0 = arrV cA N (fun _ => defaultValue ty)) (hi0 : ¬ i < 0) (hN : i.toNatClampNeg = N) (hbytes : N * componentBytes ty ≤ 536870912) (hcells : cells + 1 ≤ R.cells) (hslots : slots + N ≤ R.slots) (hdg : decode cc pc = .ok (.newarray atype, 2)) (hP : va_P D vwCl W0 H) (hD : va_D A W0) (hS : va_S A s.heap H locs)
    (kk : ∀ (q : Nat) (H1 : Heap), va_P D vwCl (W0 ++ [(q, .inl (cB, a0))]) H1 → va_D A (W0 ++ [(q, .inl (cB, a0))]) → va_S A s.heap H1 locs → W p l e R s m args below meth c H1 locs (cells + 1) (slots + N) Q (F0 m (pc + 2) la (.ref q :: rest))) : W p l e R s m args below meth c H locs cells slots Q (F0 m pc la (.int i :: rest)) := by
  subst hty
  refine va_newa hx hb harr rfl hK hP hD hS hA ha hi0 hN hbytes hcells hslots hdg (fun q cA H1 k1 p1 p2 p3 => ?_)
  have hcA := arr_one (k := k) hT hobj hK k1
  subst hcA
  exact kk q H1 p1 p2 p3
theorem okS_spec {ls : List (Option Value)} {st : List Value} {ws : List dE} (h : okS ls st ws = true) : ws.length < 100 ∧ ls.all (okl ws.length) = true ∧ st.all (okv ws.length) = true ∧ ws.all (okE ws.length) = true := by
  unfold okS at h
  obtain ⟨a, h⟩ := Bool.and_eq_true_iff.mp h
  obtain ⟨b, h⟩ := Bool.and_eq_true_iff.mp h
  obtain ⟨c, d⟩ := Bool.and_eq_true_iff.mp h
  exact ⟨Nat.blt_eq.mp a, b, c, d⟩
/-- what stands behind one step -/
def dK (res : Option (dSt ⊕ List dE)) (k : List zI → List (Option Value) → List Value → List dE → Nat → Nat → Prop) (fin : List dE → Prop) : Prop := match res with
  | some (.inl (is, ls, st, ws, c, s)) => k is ls st ws c s
  | some (.inr ws) => fin ws
  | none => False
theorem dnew_K {M : dM} {e : dE} {k : Nat} {tl : List zI} {ls : List (Option Value)} {st : List Value} {ws : List dE} {cells slots : Nat} {kk : List zI → List (Option Value) → List Value → List dE → Nat → Nat → Prop} {fin : List dE → Prop} (h : dK (dnew M e k tl ls st ws cells slots) kk fin) : cells + 1 ≤ M.2.2.2.2.2.2.2.1 ∧ slots + k ≤ M.2.2.2.2.2.2.2.2 ∧ okS ls st ws = true ∧ kk tl ls (.ref ws.length :: st) (ws ++ [e]) (cells + 1) (slots + k) := by
  unfold dnew at h
  split at h
  · next hc =>
    obtain ⟨a, hc⟩ := Bool.and_eq_true_iff.mp hc
    obtain ⟨b, hc⟩ := Bool.and_eq_true_iff.mp hc
    exact ⟨Nat.le_of_ble_eq_true a, Nat.le_of_ble_eq_true b, hc, h⟩
  · exact h.elim
theorem dcall_K {M : dM} {i kd : Nat} {tl : List zI} {ls : List (Option Value)} {st : List Value} {ws : List dE} {cells slots : Nat} {r : dSt ⊕ List dE} (h : dcall M i kd tl ls st ws cells slots = some r) : ∃ (n : Nat) (f : dF) (mc ms : Nat) (ws' : List dE), (i, n, kd, f, mc, ms) ∈ M.2.2.2.2.1 ∧ zcs (st.drop n) ≤ 8 ∧ (st.take n).length = n ∧ cells + mc ≤ M.2.2.2.2.2.2.2.1 ∧ slots + ms ≤ M.2.2.2.2.2.2.2.2 ∧ okS ls (st.drop n) ws = true ∧ f (st.take n).reverse ws = some ws' ∧ ws.length ≤ ws'.length ∧ r = .inl (tl, ls, st.drop n, ws', cells + mc, slots + ms) := by
  unfold dcall at h
  split at h
  · next n kd' f mc ms hi =>
    split at h
    · next hc =>
      obtain ⟨a, hc1⟩ := Bool.and_eq_true_iff.mp hc
      obtain ⟨b, hc2⟩ := Bool.and_eq_true_iff.mp hc1
      obtain ⟨d, hc3⟩ := Bool.and_eq_true_iff.mp hc2
      obtain ⟨g, hc4⟩ := Bool.and_eq_true_iff.mp hc3
      obtain ⟨j, hc5⟩ := Bool.and_eq_true_iff.mp hc4
      split at h
      · next ws' hf =>
        split at h
        · next hl =>
          have ek := Nat.eq_of_beq_eq_true a
          subst ek
          exact ⟨n, f, mc, ms, ws', zlk0_mem hi, Nat.le_of_ble_eq_true b, Nat.eq_of_beq_eq_true d, Nat.le_of_ble_eq_true g, Nat.le_of_ble_eq_true j, hc5, hf, Nat.le_of_ble_eq_true hl, (Option.some.inj h).symm⟩
        · cases h
      · cases h
    · cases h
  · cases h
set_option maxHeartbeats 4000000 in
set_option maxRecDepth 100000 in
theorem d_step (hx : p.tables.exec = Jvm.exec) (hb : c.code = cc) (hml : c.maxLocals = nL) (hown : s.vm.findClass own = some m.cls) (hK : va_K D vwCl (zT ca) s) (hA : ∀ q, s.heap.size ≤ q → A q) (hR : M.2.2.2.2.2.2.2.1 ≤ R.cells ∧ M.2.2.2.2.2.2.2.2 ≤ R.slots)
    (hfl : ∀ q ∈ M.2.1, dFl s args own q) (hin2 : meth.name = "<init>" ∨ ∀ q ∈ M.1, dnp q.2.1 = true) (hnw : ∀ q ∈ M.2.2.1, dNw s args own q)
    (hgs : ∀ q ∈ M.2.2.2.1, (q.2 = 100 ∨ q.2 = 101) ∧ ∀ (H : Heap) (locs : List Loc) (pc cells slots : Nat) (la : Array Slot) (rest : List Value), va_S A s.heap H locs → decode cc pc = .ok (.getstatic q.1, 3) → W p l e R s m args below meth c H locs cells slots Q (F0 m (pc + 3) la (.ref (ad0 q.2) :: rest)) → W p l e R s m args below meth c H locs cells slots Q (F0 m pc la rest))
    (hca : ∀ q ∈ M.2.2.2.2.1, (1 ≤ q.2.2.1 ∧ q.2.2.1 ≤ 4 → dCl p l e R s m args below meth c Q cc nL D ca ad0 A n0 q) ∧ (q.2.2.1 = 0 → (Cond.methodLink own q.1 objectInit).before args s = true ∧ (Cond.instanceMethod objectInit).before args s = true ∧ (Cond.code objectInit ⟨#[0xb1]⟩ 1 none).before args s = true ∧ 1 ≤ R.frames ∧ 20 ≤ R.locals) ∧ (q.2.2.1 = 5 → dCln p l e R s m args below meth c Q cc nL D ca ad0 A q.1))
    (hcs : ∀ q ∈ M.2.2.2.2.2.1, (Cond.classLink own q.1 "[I").before args s = true) (han : ∀ q ∈ M.2.2.2.2.2.2.1, (Cond.classLink own q.1 RX6).before args s = true ∧ va_AO RX6 s)
    (har : (Cond.arrayClass .int).before args s = true ∧ (Cond.arrayClass .boolean).before args s = true ∧ (Cond.arrayClass .long).before args s = true)
    {pc len : Nat} {ins : Instr} {tl : List zI} {ls : List (Option Value)} {st : List Value} {ws : List dE} {cells slots : Nat} {k : List zI → List (Option Value) → List Value → List dE → Nat → Nat → Prop} {fin : List dE → Prop}
    (hn : ∀ ls st ws1 c1 s1, k tl ls st ws1 c1 s1 → ∀ (ad : Nat → Nat) (H : Heap) (locs : List Loc) (la : Array Slot), n0 ≤ ws1.length → dAg n0 ad0 ad → zLo ad nL la ls → dInv D ca ad A s.heap ws1 H locs → W p l e R s m args below meth c H locs c1 s1 Q (F0 m (pc + len) la (st.map (zv ad))))
    (hj : ∀ off ls st ws1 c1 s1, k (zj M.1 pc off) ls st ws1 c1 s1 → ∃ tgt : Nat, (pc : Int) + off = (tgt : Int) ∧ ∀ (ad : Nat → Nat) (H : Heap) (locs : List Loc) (la : Array Slot), n0 ≤ ws1.length → dAg n0 ad0 ad → zLo ad nL la ls → dInv D ca ad A s.heap ws1 H locs → W p l e R s m args below meth c H locs c1 s1 Q (F0 m tgt la (st.map (zv ad))))
    (hrv : ∀ (ad : Nat → Nat) (H : Heap) (locs : List Loc) (pc : Nat) (la : Array Slot), fin ws → dAg n0 ad0 ad → dInv D ca ad A s.heap ws H locs → decode cc pc = .ok (.return_, 1) → W p l e R s m args below meth c H locs cells slots Q (F0 m pc la []))
    (hmem : (pc, ins, len) ∈ M.1) (hd : decode cc pc = .ok (ins, len)) (hlen : dlo pc ins len = true) (hs : dK (dst M pc ins tl ls st ws cells slots) k fin) {ad : Nat → Nat} {H : Heap} {locs : List Loc} {la : Array Slot} (hn0 : n0 ≤ ws.length) (hg : dAg n0 ad0 ad) (hl : zLo ad nL la ls) (hI : dInv D ca ad A s.heap ws H locs) (hc0 : cells ≤ R.cells) (hs0 : slots ≤ R.slots) : W p l e R s m args below meth c H locs cells slots Q (F0 m pc la (st.map (zv ad))) := by
  have grow : ∀ {e : dE} {v : va_E} {q : Nat} {H1 : Heap} {st1 : List Value}, okS ls st1 ws = true → (∀ ad', dEv ca ad' e = v) → va_P D vwCl (dW ca ad ws ++ [(q, v)]) H1 → va_D A (dW ca ad ws ++ [(q, v)]) → va_S A s.heap H1 locs → ∃ ad', dAg n0 ad0 ad' ∧ zLo ad' nL la ls ∧ dInv D ca ad' A s.heap (ws ++ [e]) H1 locs ∧ st1.map (zv ad') = st1.map (zv ad) ∧ ad' ws.length = q := fun {e v q H1 st1} ho he hP hD hS => by
    obtain ⟨o1, o2, o3, o4⟩ := okS_spec ho
    obtain ⟨ag, p1, p2⟩ := dgrow (e := e) o4 o1 he hP hD
    exact ⟨_, hg.tr ag hn0, okl_ag ag o2 hl, ⟨p1, p2, hS⟩, okv_map ag o3, if_pos rfl⟩
  have callK : ∀ {i kd : Nat} {ins : Instr} {r : dSt ⊕ List dE}, ((ins = .invokespecial i ∧ (kd = 1 ∨ kd = 2)) ∨ (ins = .invokestatic i ∧ kd = 3) ∨ (ins = .invokevirtual i ∧ kd = 4)) → decode cc pc = .ok (ins, 3) → dcall M i kd tl ls st ws cells slots = some r → len = 3 → dK (some r) k fin → W p l e R s m args below meth c H locs cells slots Q (F0 m pc la (st.map (zv ad))) := fun {i kd ins r} hin hd3 hc hl3 hr => by
    obtain ⟨n, f, mc, ms, ws', hm, h1, h2, h3, h4, h5, h6, h7, rfl⟩ := dcall_K hc
    subst hl3
    have hcall := (hca _ hm).1 (by show 1 ≤ kd ∧ kd ≤ 4; omega)
    obtain ⟨o1, o2, o3, o4⟩ := okS_spec h5
    have est : st.map (zv ad) = ((st.take n).reverse.map (zv ad)).reverse ++ (st.drop n).map (zv ad) := by
      rw [← List.map_reverse, List.reverse_reverse, ← List.map_append, List.take_append_drop]
    rw [est]
    refine hcall _ _ _ _ _ _ _ _ _ _ _ _ h6 (by rw [List.length_reverse]; exact h2) hd3 hin hn0 hg hI hl.1.1 (by rw [zcs_sum]; exact h1) (by show cells + mc ≤ _; omega) (by show slots + ms ≤ _; omega) (fun ad' H' locs' ag hI' => ?_)
    have := hn _ _ _ _ _ hr ad' H' locs' la (by omega) (hg.tr ag hn0) (okl_ag ag o2 hl) hI'
    rw [okv_map ag o3] at this
    exact this
  unfold dst at hs
  cases ins
  case iload_n i =>
    cases Nat.eq_of_beq_eq_true hlen
    dsimp only at hs
    split at hs
    · next x hi => exact lv_iload_n hx hb hd rfl (zLo_at hl hi) (hn _ _ _ _ _ hs _ _ _ _ hn0 hg hl hI)
    · exact hs.elim
  case iload i =>
    cases Nat.eq_of_beq_eq_true hlen
    dsimp only at hs
    split at hs
    · next x hi => exact lv_iload hx hb hd (zLo_at hl hi) (hn _ _ _ _ _ hs _ _ _ _ hn0 hg hl hI)
    · exact hs.elim
  case aload_n i =>
    cases Nat.eq_of_beq_eq_true hlen
    dsimp only at hs
    split at hs
    · next x hi => exact lv_aload_n hx hb hd rfl (zLo_at hl hi) (hn _ _ _ _ _ hs _ _ _ _ hn0 hg hl hI)
    · exact hs.elim
  case istore_n i =>
    cases Nat.eq_of_beq_eq_true hlen
    dsimp only at hs
    split at hs
    · next x st' =>
      split at hs
      · next hi =>
        obtain ⟨hi, hz⟩ := Bool.and_eq_true_iff.mp hi
        have hi : i.val < nL := by
          have := Nat.blt_eq.mp hi
          rw [hl.2] at this; exact this
        exact lv_istore_n hx hb hd rfl hl.1 hi rfl (fun la' h' => hn _ _ _ _ _ hs _ _ _ _ hn0 hg (zLo_set (v := .int x) hl hz h') hI)
      · exact hs.elim
    · exact hs.elim
  case iinc i n =>
    cases Nat.eq_of_beq_eq_true hlen
    dsimp only at hs
    split at hs
    · next x hi =>
      split at hs
      rotate_left
      · exact hs.elim
      next hz =>
      have hlt : i < nL := by
        have := (List.getElem?_eq_some_iff.mp hi).1
        rw [hl.2] at this; exact this
      obtain ⟨kk, hkk⟩ := List.getElem?_of_mem (zl_mem.mpr ⟨i, _, hi, rfl⟩ : (i, zv ad (.int x)) ∈ zl ad ls)
      exact lv_iinc hx hb hd hl.1 hkk rfl hlt rfl (fun la' h' => hn _ _ _ _ _ hs _ _ _ _ hn0 hg (zLo_set (v := .int (x + Int32.ofInt n)) hl hz h') hI)
    · exact hs.elim
  case iconst n =>
    cases Nat.eq_of_beq_eq_true hlen
    exact lv_iconst hx hb hd rfl (hn _ _ _ _ _ hs _ _ _ _ hn0 hg hl hI)
  case bipush n =>
    cases Nat.eq_of_beq_eq_true hlen
    exact lv_bipush hx hb hd rfl (hn _ _ _ _ _ hs _ _ _ _ hn0 hg hl hI)
  case sipush n =>
    cases Nat.eq_of_beq_eq_true hlen
    exact lv_sipush hx hb hd rfl (hn _ _ _ _ _ hs _ _ _ _ hn0 hg hl hI)
  case iadd =>
    cases Nat.eq_of_beq_eq_true hlen
    dsimp only at hs
    split at hs
    · exact lv_iadd hx hb hd (hn _ _ _ _ _ hs _ _ _ _ hn0 hg hl hI)
    · exact hs.elim
  case imul =>
    cases Nat.eq_of_beq_eq_true hlen
    dsimp only at hs
    split at hs
    · exact lv_imul hx hb hd (hn _ _ _ _ _ hs _ _ _ _ hn0 hg hl hI)
    · exact hs.elim
  case dup =>
    cases Nat.eq_of_beq_eq_true hlen
    dsimp only at hs
    split at hs
    · exact lv_dup hx hb hd rfl (hn _ _ _ _ _ hs _ _ _ _ hn0 hg hl hI)
    · exact hs.elim
  case if_icmp cnd off =>
    obtain ⟨hl3, ho⟩ := Bool.and_eq_true_iff.mp hlen
    cases Nat.eq_of_beq_eq_true hl3
    obtain ⟨tgt, ht⟩ := Int.eq_ofNat_of_zero_le (of_decide_eq_true ho)
    cases cnd
    case ge =>
      dsimp only at hs
      split at hs
      · next y x st' =>
        split at hs
        · next hd2 =>
          refine lv_icmp_ge hx hb hd ht (fun z => ?_) (fun z => absurd (of_decide_eq_true hd2) z)
          obtain ⟨t2, e2, w⟩ := hj _ _ _ _ _ _ hs
          have : t2 = tgt := by omega
          subst this
          exact w _ _ _ _ hn0 hg hl hI
        · next hd2 => exact lv_icmp_ge hx hb hd ht (fun z => absurd z (of_decide_eq_false hd2)) (fun z => hn _ _ _ _ _ hs _ _ _ _ hn0 hg hl hI)
      · exact hs.elim
    all_goals exact hs.elim
  case goto off =>
    cases Nat.eq_of_beq_eq_true hlen
    obtain ⟨tgt, ht, w⟩ := hj _ _ _ _ _ _ hs
    exact lv_goto hx hb hd ht (w _ _ _ _ hn0 hg hl hI)
  case return_ =>
    cases Nat.eq_of_beq_eq_true hlen
    dsimp only at hs
    split at hs
    · exact hrv _ _ _ _ _ hs hg hI hd
    · exact hs.elim
  case arraylength =>
    cases Nat.eq_of_beq_eq_true hlen
    dsimp only at hs
    split at hs
    · next a st' =>
      split at hs
      · next n L rs hsh => exact va_alen hx hb hK hI.1 a 0 (dW_get (ca := ca) (ad := ad) hsh) rfl rfl hd (hn _ _ _ _ _ hs _ _ _ _ hn0 hg hl hI)
      · exact hs.elim
    · exact hs.elim
  case iastore =>
    cases Nat.eq_of_beq_eq_true hlen
    dsimp only at hs
    split at hs
    · next x i a st' =>
      split at hs
      · next n L rs hsh =>
        split at hs
        · next hib =>
          refine va_iast hx hb hK hI.1 hI.2.1 hI.2.2 a 0 (dW_get (ca := ca) (ad := ad) hsh) rfl (inb_in hib) hd (fun H1 locs1 p1 p2 p3 => ?_)
          have e := dW_set (ca := ca) (ad := ad) (ws := ws) (k := a) (e := .inl (0, n, dput L i.toNatClampNeg x, rs)) (v := .inl (ca 0, n, .inl (upd (fun j => L.getD j 0) i.toNatClampNeg x))) (by
            show (Sum.inl (ca 0, n, Sum.inl (fun j => (dput L i.toNatClampNeg x).getD j 0)) : va_E) = _
            congr 4
            funext j
            rw [dput_at]; rfl)
          rw [e] at p1 p2
          exact hn _ _ _ _ _ hs _ _ _ _ (by rw [List.length_set]; exact hn0) hg hl ⟨p1, p2, p3⟩
        · exact hs.elim
      · exact hs.elim
    · exact hs.elim
  case aastore =>
    cases Nat.eq_of_beq_eq_true hlen
    dsimp only at hs
    split at hs
    · next v i a st' =>
      split at hs
      · next n L rs fs ha hv =>
        split at hs
        · next hib =>
          obtain ⟨hib, hrl⟩ := Bool.and_eq_true_iff.mp hib
          have hrl := Nat.eq_of_beq_eq_true hrl
          have hin := inb_in hib
          have hlt : i.toNatClampNeg < n := Nat.not_le.mp fun q => hin (Or.inr q)
          refine va_astq hx hb hK hI.1 hI.2.1 hI.2.2 a 3 v 6 (r := (RX6, TX6, 5)) (dW_get (ca := ca) (ad := ad) ha) rfl (dW_get (ca := ca) (ad := ad) hv) rfl hin hd (fun H1 locs1 p1 p2 p3 => ?_)
          have e := dW_set (ca := ca) (ad := ad) (ws := ws) (k := a) (e := .inl (3, n, L, rs.set i.toNatClampNeg (some v))) (v := .inl (ca 3, n, .inr (.inr (.inr (.inr (va_up (fun (i : Nat) => (rs[i]?).join.map ad) i.toNatClampNeg (some (ad v)))))))) (by
            show (Sum.inl (ca 3, n, Sum.inr (Sum.inr (Sum.inr (Sum.inr (fun (j : Nat) => ((rs.set i.toNatClampNeg (some v))[j]?).join.map ad))))) : va_E) = _
            congr 7
            funext j
            by_cases hj2 : j = i.toNatClampNeg
            · subst hj2
              rw [List.getElem?_set_self (by omega)]
              simp [va_up]
            · rw [List.getElem?_set_ne (Ne.symm hj2)]
              simp [va_up, hj2])
          rw [e] at p1 p2
          exact hn _ _ _ _ _ hs _ _ _ _ (by rw [List.length_set]; exact hn0) hg hl ⟨p1, p2, p3⟩
        · exact hs.elim
      · exact hs.elim
    · exact hs.elim
  case newarray t =>
    cases Nat.eq_of_beq_eq_true hlen
    dsimp only at hs
    split at hs
    rotate_left
    · exact hs.elim
    next i st' =>
    split at hs
    rotate_left
    · exact hs.elim
    next hck =>
    obtain ⟨hi0, hi5⟩ := Bool.and_eq_true_iff.mp hck
    have hi0 : ¬ i < 0 := by simpa using hi0
    have hi5 := Nat.le_of_ble_eq_true hi5
    split at hs
    · obtain ⟨b1, b2, b3, hk⟩ := dnew_K hs
      refine d_newa hx hb hK hA (k := 0) (cB := ca 0) (ty := .int) (atype := .int) (N := i.toNatClampNeg) (a0 := (i.toNatClampNeg, .inl (fun _ => 0))) rfl (fun C z => by cases z) rfl har.1 (fun cA => rfl) hi0 rfl (by rw [show componentBytes FieldType.int = 4 from rfl]; omega) (by omega) (by omega) hd hI.1 hI.2.1 hI.2.2 (fun q H1 p1 p2 p3 => ?_)
      obtain ⟨ad', g1, g2, g3, g4, g5⟩ := grow (e := .inl (0, i.toNatClampNeg, [], [])) b3 (fun ad' => by show (Sum.inl _ : va_E) = _; congr 3) p1 p2 p3
      have := hn _ _ _ _ _ hk ad' H1 locs la (by rw [List.length_append]; omega) g1 g2 g3
      rw [List.map_cons, g4] at this
      rw [← g5]; exact this
    · obtain ⟨b1, b2, b3, hk⟩ := dnew_K hs
      refine d_newa hx hb hK hA (k := 1) (cB := ca 1) (ty := .boolean) (atype := .boolean) (N := i.toNatClampNeg) (a0 := (i.toNatClampNeg, .inl (fun _ => 0))) rfl (fun C z => by cases z) rfl har.2.1 (fun cA => rfl) hi0 rfl (by rw [show componentBytes FieldType.boolean = 1 from rfl]; omega) (by omega) (by omega) hd hI.1 hI.2.1 hI.2.2 (fun q H1 p1 p2 p3 => ?_)
      obtain ⟨ad', g1, g2, g3, g4, g5⟩ := grow (e := .inl (1, i.toNatClampNeg, [], [])) b3 (fun ad' => by show (Sum.inl _ : va_E) = _; congr 3) p1 p2 p3
      have := hn _ _ _ _ _ hk ad' H1 locs la (by rw [List.length_append]; omega) g1 g2 g3
      rw [List.map_cons, g4] at this
      rw [← g5]; exact this
    · obtain ⟨b1, b2, b3, hk⟩ := dnew_K hs
      refine d_newa hx hb hK hA (k := 2) (cB := ca 2) (ty := .long) (atype := .long) (N := i.toNatClampNeg) (a0 := (i.toNatClampNeg, .inr (.inl (fun _ => 0)))) rfl (fun C z => by cases z) rfl har.2.2 (fun cA => rfl) hi0 rfl (by rw [show componentBytes FieldType.long = 8 from rfl]; omega) (by omega) (by omega) hd hI.1 hI.2.1 hI.2.2 (fun q H1 p1 p2 p3 => ?_)
      obtain ⟨ad', g1, g2, g3, g4, g5⟩ := grow (e := .inl (2, i.toNatClampNeg, [], [])) b3 (fun ad' => rfl) p1 p2 p3
      have := hn _ _ _ _ _ hk ad' H1 locs la (by rw [List.length_append]; omega) g1 g2 g3
      rw [List.map_cons, g4] at this
      rw [← g5]; exact this
    · exact hs.elim
  case anewarray i =>
    cases Nat.eq_of_beq_eq_true hlen
    dsimp only at hs
    split at hs
    rotate_left
    · exact hs.elim
    next j st' =>
    split at hs
    rotate_left
    · exact hs.elim
    next u hck hlk =>
    obtain ⟨hi0, hi5⟩ := Bool.and_eq_true_iff.mp hck
    have hi0 : ¬ j < 0 := by simpa using hi0
    have hi5 := Nat.le_of_ble_eq_true hi5
    obtain ⟨b1, b2, b3, hk⟩ := dnew_K hs
    obtain ⟨w1, w2⟩ := han _ (zlk0_mem hlk)
    refine va_newq hx hb hown w1 w2 hK hI.1 hI.2.1 hI.2.2 hA hi0 rfl (by omega) (by omega) (by omega) hd (fun q cA H1 k1 p1 p2 p3 => ?_)
    have hcA := arr_obj (k := 3) (cB := ca 3) rfl hK k1
    subst hcA
    obtain ⟨ad', g1, g2, g3, g4, g5⟩ := grow (e := .inl (3, j.toNatClampNeg, [], List.replicate j.toNatClampNeg none)) b3 (fun ad' => by
      show (Sum.inl (ca 3, j.toNatClampNeg, Sum.inr (Sum.inr (Sum.inr (Sum.inr (fun (i : Nat) => ((List.replicate j.toNatClampNeg (none : Option Nat))[i]?).join.map ad'))))) : va_E) = _
      congr 7
      funext i
      rw [List.getElem?_replicate]
      split <;> rfl) p1 p2 p3
    have := hn _ _ _ _ _ hk ad' H1 locs la (by rw [List.length_append]; omega) g1 g2 g3
    rw [List.map_cons, g4] at this
    rw [← g5]; exact this
  case new i =>
    cases Nat.eq_of_beq_eq_true hlen
    dsimp only at hs
    split at hs
    · next ci n fs hi =>
      obtain ⟨b1, b2, b3, hk⟩ := dnew_K hs
      obtain ⟨C, T, ty, w1, w2, w3, w4, w5, w6, w7, w8⟩ := hnw _ (zlk0_mem hi)
      refine va_new (ci := ci) (fs := fs) (C := C) (T := T) (N := n) hx hb w2 (fun w h => h) ty w3 hown w4 w5 w6 hK hI.1 hI.2.1 hI.2.2 hA w1 w7 (by omega) (by omega) hd (fun q H1 p1 p2 p3 => ?_)
      obtain ⟨ad', g1, g2, g3, g4, g5⟩ := grow (e := .inr (ci, fs)) b3 (fun ad' => by show (Sum.inr (ci, fs.map (zv ad')) : va_E) = _; rw [w8]) p1 p2 p3
      have := hn _ _ _ _ _ hk ad' H1 locs la (by rw [List.length_append]; omega) g1 g2 g3
      rw [List.map_cons, g4] at this
      rw [← g5]; exact this
    · exact hs.elim
  case getfield i =>
    cases Nat.eq_of_beq_eq_true hlen
    dsimp only at hs
    split at hs
    · next a st' =>
      split at hs
      · next ci j w hi =>
        split at hs
        · next ci' fs hsh =>
          split at hs
          · next hci =>
            cases Nat.eq_of_beq_eq_true hci
            obtain ⟨C, T, N, ty0, g1, g2, g3, g4, g5, g6, g7, g8, g9⟩ := hfl _ (zlk0_mem hi)
            split at hs
            · next r hf =>
              exact va_get hx hb g3 (fun w h => h) hown hK hI.1 a (dW_get (ca := ca) (ad := ad) hsh) g1 j g2 g4 (fun x h => h) (v := .ref (ad r)) (by rw [List.getElem?_map, hf]; rfl) hd (hn _ _ _ _ _ hs _ _ _ _ hn0 hg hl hI)
            · exact hs.elim
          · exact hs.elim
        · exact hs.elim
      · exact hs.elim
    · exact hs.elim
  case putfield i =>
    have hin2 : meth.name = "<init>" := hin2.elim id (fun q => by cases q _ hmem)
    cases Nat.eq_of_beq_eq_true hlen
    dsimp only at hs
    split at hs
    · next v a st' =>
      split at hs
      · next ci j hi =>
        split at hs
        · next ci' fs hsh =>
          split at hs
          · next hck =>
            obtain ⟨hci, hjl⟩ := Bool.and_eq_true_iff.mp hck
            cases Nat.eq_of_beq_eq_true hci
            have hjl := Nat.blt_eq.mp hjl
            obtain ⟨C, T, N, ty0, g1, g2, g3, g4, g5, g6, g7, g8, g9⟩ := hfl _ (zlk0_mem hi)
            obtain ⟨n1, n2⟩ := g8 rfl (ad v)
            have kk : ∀ (H1 : Heap) (locs1 : List Loc), va_P D vwCl ((dW ca ad ws).set a (ad a, .inr (ci, (fs.map (zv ad)).set j (.ref (ad v))))) H1 → va_D A ((dW ca ad ws).set a (ad a, .inr (ci, (fs.map (zv ad)).set j (.ref (ad v))))) → va_S A s.heap H1 locs1 → W p l e R s m args below meth c H1 locs1 cells slots Q (F0 m (pc + 3) la (st'.map (zv ad))) := fun H1 locs1 p1 p2 p3 => by
              have e := dW_set (ca := ca) (ad := ad) (ws := ws) (k := a) (e := .inr (ci, fs.set j (.ref v))) (v := .inr (ci, (fs.map (zv ad)).set j (.ref (ad v)))) (by
                show (Sum.inr (ci, (fs.set j (.ref v)).map (zv ad)) : va_E) = _
                rw [List.map_set]; rfl)
              rw [e] at p1 p2
              exact hn _ _ _ _ _ hs _ _ _ _ (by rw [List.length_set]; exact hn0) hg hl ⟨p1, p2, p3⟩
            cases hf : (T j).2.2.2 with
            | true => exact va_putF hx hb g3 (fun w h => h) ty0 g5 g6 hown hK hI.1 hI.2.1 hI.2.2 a (dW_get (ca := ca) (ad := ad) hsh) g1 j g2 g4 (fun x h => h) hf hin2 g7 (g5 j g2) n1 n2 (by rw [List.length_map]; exact hjl) hd kk
            | false => exact va_put hx hb g3 (fun w h => h) ty0 g5 g6 hown hK hI.1 hI.2.1 hI.2.2 a (dW_get (ca := ca) (ad := ad) hsh) g1 j g2 g4 (fun x h => h) hf (g5 j g2) n1 n2 (by rw [List.length_map]; exact hjl) hd kk
          · exact hs.elim
        · exact hs.elim
      · exact hs.elim
    · next v a st' =>
      split at hs
      · next ci j hi =>
        split at hs
        · next ci' fs hsh =>
          split at hs
          · next hck =>
            obtain ⟨hci, hjl⟩ := Bool.and_eq_true_iff.mp hck
            cases Nat.eq_of_beq_eq_true hci
            have hjl := Nat.blt_eq.mp hjl
            obtain ⟨C, T, N, ty0, g1, g2, g3, g4, g5, g6, g7, g8, g9⟩ := hfl _ (zlk0_mem hi)
            have g9 := g9 rfl
            have kk : ∀ (H1 : Heap) (locs1 : List Loc), va_P D vwCl ((dW ca ad ws).set a (ad a, .inr (ci, (fs.map (zv ad)).set j (.int v)))) H1 → va_D A ((dW ca ad ws).set a (ad a, .inr (ci, (fs.map (zv ad)).set j (.int v)))) → va_S A s.heap H1 locs1 → W p l e R s m args below meth c H1 locs1 cells slots Q (F0 m (pc + 3) la (st'.map (zv ad))) := fun H1 locs1 p1 p2 p3 => by
              have e := dW_set (ca := ca) (ad := ad) (ws := ws) (k := a) (e := .inr (ci, fs.set j (.int v))) (v := .inr (ci, (fs.map (zv ad)).set j (.int v))) (by
                show (Sum.inr (ci, (fs.set j (.int v)).map (zv ad)) : va_E) = _
                rw [List.map_set]; rfl)
              rw [e] at p1 p2
              exact hn _ _ _ _ _ hs _ _ _ _ (by rw [List.length_set]; exact hn0) hg hl ⟨p1, p2, p3⟩
            have hp : parseFieldDescriptor (T j).2.2.1 = some .int := by rw [g5 j g2, g9]
            cases hf : (T j).2.2.2 with
            | true => exact va_putF hx hb g3 (fun w h => h) ty0 g5 g6 hown hK hI.1 hI.2.1 hI.2.2 a (dW_get (ca := ca) (ad := ad) hsh) g1 j g2 g4 (fun x h => h) hf hin2 g7 hp rfl rfl (by rw [List.length_map]; exact hjl) hd kk
            | false => exact va_put hx hb g3 (fun w h => h) ty0 g5 g6 hown hK hI.1 hI.2.1 hI.2.2 a (dW_get (ca := ca) (ad := ad) hsh) g1 j g2 g4 (fun x h => h) hf hp rfl rfl (by rw [List.length_map]; exact hjl) hd kk
          · exact hs.elim
        · exact hs.elim
      · exact hs.elim
    · exact hs.elim
  case getstatic i =>
    cases Nat.eq_of_beq_eq_true hlen
    dsimp only at hs
    split at hs
    · next a hi =>
      obtain ⟨w1, w2⟩ := hgs _ (zlk0_mem hi)
      refine w2 _ _ _ _ _ _ _ hI.2.2 hd ?_
      have := hn _ _ _ _ _ hs _ _ _ _ hn0 hg hl hI
      rw [List.map_cons, show zv ad (.ref a) = .ref (ad0 a) from by show Value.ref (ad a) = _; rw [hg a (by omega)]] at this
      exact this
    · exact hs.elim
  case checkcast i =>
    cases Nat.eq_of_beq_eq_true hlen
    dsimp only at hs
    split at hs
    · next a st' =>
      split at hs
      · next n L rs u hsh hi =>
        exact va_castA hx hb hown (hcs _ (zlk0_mem hi)) hI.1 a (dW_get (ca := ca) (ad := ad) hsh) (hK.2 0 _ rfl).2 hd (hn _ _ _ _ _ hs _ _ _ _ hn0 hg hl hI)
      · exact hs.elim
    · exact hs.elim
  case invokestatic i =>
    cases Nat.eq_of_beq_eq_true hlen
    dsimp only at hs
    cases hc : dcall M i 3 tl ls st ws cells slots with
    | none => rw [hc] at hs; exact hs.elim
    | some r =>
      rw [hc] at hs
      exact callK (Or.inr (Or.inl ⟨rfl, rfl⟩)) hd hc rfl hs
  case invokespecial i =>
    cases Nat.eq_of_beq_eq_true hlen
    dsimp only at hs
    cases hc : dcall M i 1 tl ls st ws cells slots with
    | some r =>
      rw [hc] at hs
      exact callK (Or.inl ⟨rfl, Or.inl rfl⟩) hd hc rfl hs
    | none =>
      rw [hc] at hs
      dsimp only at hs
      cases hc2 : dcall M i 2 tl ls st ws cells slots with
      | some r =>
        rw [hc2] at hs
        exact callK (Or.inl ⟨rfl, Or.inr rfl⟩) hd hc2 rfl hs
      | none =>
        rw [hc2] at hs
        dsimp only at hs
        split at hs
        · next f mc ms a st' hi =>
          split at hs
          · next hz =>
            have hz := Nat.le_of_ble_eq_true hz
            obtain ⟨w1, w2, w3, w4, w5⟩ := (hca _ (zlk0_mem hi)).2.1 rfl
            refine W.objInit hx hb hown w1 w2 w3 rfl (by rw [hml]; exact hl.1.1) rfl hd w4 ?_ ?_
            · have := zcs_sum ad st'
              show 2 * 0 + ((st'.map (zv ad)).map fun v => v.category).sum + 12 ≤ R.locals
              omega
            · exact hn _ _ _ _ _ hs _ _ _ _ hn0 hg hl hI
          · exact hs.elim
        · exact hs.elim
  case invokevirtual i =>
    cases Nat.eq_of_beq_eq_true hlen
    dsimp only at hs
    cases hc : dcall M i 4 tl ls st ws cells slots with
    | some r =>
      rw [hc] at hs
      exact callK (Or.inr (Or.inr ⟨rfl, rfl⟩)) hd hc rfl hs
    | none =>
      rw [hc] at hs
      dsimp only at hs
      split at hs
      · next f mc ms a st' hi =>
        split at hs
        · next hz =>
          have hz := Nat.le_of_ble_eq_true hz
          have hcl := (hca _ (zlk0_mem hi)).2.2 rfl
          have hsum : ((st'.map (zv ad)).map fun v => v.category).sum ≤ 8 := by rw [zcs_sum]; exact hz
          split at hs
          · next h100 =>
            have h100 := Nat.eq_of_beq_eq_true h100
            obtain ⟨b1, b2, b3, hk⟩ := dnew_K hs
            refine hcl a 30 dTF (Or.inl ⟨h100, rfl, rfl⟩) ws ad H locs _ la pc cells slots hd (hg a (by omega)) hI hl.1.1 hsum (by omega) (by omega) (fun q H1 p1 p2 p3 => ?_)
            obtain ⟨ad', g1, g2, g3, g4, g5⟩ := grow (e := .inl (0, 30, dTF, [])) b3 (fun ad' => rfl) p1 p2 p3
            have := hn _ _ _ _ _ hk ad' H1 locs la (by rw [List.length_append]; omega) g1 g2 g3
            rw [List.map_cons, g4] at this
            rw [← g5]; exact this
          · next h101 hno =>
            have h101 := Nat.eq_of_beq_eq_true h101
            obtain ⟨b1, b2, b3, hk⟩ := dnew_K hs
            refine hcl a 5 dRF (Or.inr ⟨h101, rfl, rfl⟩) ws ad H locs _ la pc cells slots hd (hg a (by omega)) hI hl.1.1 hsum (by omega) (by omega) (fun q H1 p1 p2 p3 => ?_)
            obtain ⟨ad', g1, g2, g3, g4, g5⟩ := grow (e := .inl (0, 5, dRF, [])) b3 (fun ad' => rfl) p1 p2 p3
            have := hn _ _ _ _ _ hk ad' H1 locs la (by rw [List.length_append]; omega) g1 g2 g3
            rw [List.map_cons, g4] at this
            rw [← g5]; exact this
          · exact hs.elim
        · exact hs.elim
      · exact hs.elim
  all_goals exact hs.elim
end DS
