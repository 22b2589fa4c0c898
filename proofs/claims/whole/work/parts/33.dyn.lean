/-! ===== MAKING OBJECTS: a small machine that computes; its worlds are lists ===== -/
/-- a cell: an array (kind, length, ints, cells), or an object (class, fields) -/
abbrev dE : Type := (Nat × Nat × List Int32 × List (Option Nat)) ⊕ (Nat × List Value)
def dEv (ca : Nat → ClassId) (ad : Nat → Nat) : dE → va_E
  | .inl (2, n, _, _) => .inl (ca 2, n, .inr (.inl (fun _ => 0)))
  | .inl (3, n, _, rs) => .inl (ca 3, n, .inr (.inr (.inr (.inr (fun i => (rs[i]?).join.map ad)))))
  | .inl (t, n, L, _) => .inl (ca t, n, .inl (fun j => L.getD j 0))
  | .inr (ci, fs) => .inr (ci, fs.map (zv ad))
def dW (ca : Nat → ClassId) (ad : Nat → Nat) (ws : List dE) : va_W := ws.mapIdx (fun k e => (ad k, dEv ca ad e))
abbrev dF : Type := List Value → List dE → Option (List dE)
abbrev dSt : Type := List zI × List (Option Value) × List Value × List dE × Nat × Nat
/-- a method: code; fields (place, class, field, is it a reference); news (place, class, fields, their first values); statics; calls (arguments, kind, what it does, cells, slots); casts; rows of objects; its own cells and slots -/
abbrev dM : Type := List zI × List (Nat × Nat × Nat × Bool) × List (Nat × Nat × Nat × List Value) × List (Nat × Nat) × List (Nat × Nat × Nat × dF × Nat × Nat) × List (Nat × Nat) × List (Nat × Nat) × Nat × Nat
def okv (n : Nat) : Value → Bool
  | .ref k => Nat.blt k n || Nat.ble 100 k
  | _ => true
def okl (n : Nat) : Option Value → Bool
  | some v => okv n v
  | none => true
def okr (n : Nat) : Option Nat → Bool
  | some k => Nat.blt k n
  | none => true
def okE (n : Nat) : dE → Bool
  | .inl (_, _, _, rs) => rs.all (okr n)
  | .inr (_, fs) => fs.all (okv n)
def okS (ls : List (Option Value)) (st : List Value) (ws : List dE) : Bool := Nat.blt ws.length 100 && (ls.all (okl ws.length) && (st.all (okv ws.length) && ws.all (okE ws.length)))
def dput : List Int32 → Nat → Int32 → List Int32
  | [], 0, x => [x]
  | [], j + 1, x => 0 :: dput [] j x
  | _ :: L, 0, x => x :: L
  | y :: L, j + 1, x => y :: dput L j x
theorem dput_at : ∀ (L : List Int32) (j : Nat) (x : Int32) (i : Nat), (dput L j x).getD i 0 = if i = j then x else L.getD i 0
  | [], 0, x, 0 => rfl
  | [], 0, x, i + 1 => by simp [dput]
  | [], j + 1, x, 0 => by simp [dput]
  | [], j + 1, x, i + 1 => by
    have := dput_at [] j x i
    simp only [dput, List.getD_cons_succ, this]
    simp
  | y :: L, 0, x, 0 => by simp [dput]
  | y :: L, 0, x, i + 1 => by simp [dput]
  | y :: L, j + 1, x, 0 => by simp [dput]
  | y :: L, j + 1, x, i + 1 => by
    have := dput_at L j x i
    simp only [dput, List.getD_cons_succ, this]
    simp
def inb (i : Int32) (n : Nat) : Bool := !decide (i < 0) && Nat.blt i.toNatClampNeg n
theorem inb_in {i : Int32} {n : Nat} (h : inb i n = true) : vp_in i n := by
  unfold inb at h
  obtain ⟨a, b⟩ := Bool.and_eq_true_iff.mp h
  have a : ¬ i < 0 := by simpa using a
  have b := Nat.blt_eq.mp b
  exact fun z => z.elim a (fun q => by omega)
def dnew (M : dM) (e : dE) (k : Nat) (tl : List zI) (ls : List (Option Value)) (st : List Value) (ws : List dE) (c s : Nat) : Option (dSt ⊕ List dE) := match Nat.ble (c + 1) M.2.2.2.2.2.2.2.1 && (Nat.ble (s + k) M.2.2.2.2.2.2.2.2 && okS ls st ws) with
  | true => some (.inl (tl, ls, .ref ws.length :: st, ws ++ [e], c + 1, s + k))
  | false => none
def dTF : List Int32 := [0, 75, 149, 221, 289, 352, 406, 450, 478, 488, 0, 76, 151, 224, 294, 358, 414, 458, 487, 498, 0, 66, 132, 195, 254, 307, 353, 388, 410, 418]
def dRF : List Int32 := [4, 0, 5, 3000, 60]
def dcall (M : dM) (i : Nat) (k : Nat) (tl : List zI) (ls : List (Option Value)) (st : List Value) (ws : List dE) (c s : Nat) : Option (dSt ⊕ List dE) := match zlk0 M.2.2.2.2.1 i with
  | some (n, kd, f, mc, ms) => match Nat.beq kd k && (Nat.ble (zcs (st.drop n)) 8 && (Nat.beq (st.take n).length n && (Nat.ble (c + mc) M.2.2.2.2.2.2.2.1 && (Nat.ble (s + ms) M.2.2.2.2.2.2.2.2 && okS ls (st.drop n) ws)))) with
    | true => match f (st.take n).reverse ws with
      | some ws' => match Nat.ble ws.length ws'.length with
        | true => some (.inl (tl, ls, st.drop n, ws', c + mc, s + ms))
        | false => none
      | none => none
    | false => none
  | none => none
/-- one instruction -/
def dst (M : dM) (pc : Nat) (ins : Instr) (tl : List zI) (ls : List (Option Value)) (st : List Value) (ws : List dE) (c s : Nat) : Option (dSt ⊕ List dE) := match ins with
  | .iload_n i => match ls[i.val]? with
    | some (some (.int x)) => some (.inl (tl, ls, .int x :: st, ws, c, s))
    | _ => none
  | .iload i => match ls[i]? with
    | some (some (.int x)) => some (.inl (tl, ls, .int x :: st, ws, c, s))
    | _ => none
  | .aload_n i => match ls[i.val]? with
    | some (some (.ref x)) => some (.inl (tl, ls, .ref x :: st, ws, c, s))
    | _ => none
  | .istore_n i => match st with
    | .int x :: st => match Nat.blt i.val ls.length && znl ls i.val with
      | true => some (.inl (tl, ls.set i.val (some (.int x)), st, ws, c, s))
      | false => none
    | _ => none
  | .iinc i n => match ls[i]? with
    | some (some (.int x)) => match znl ls i with
      | true => some (.inl (tl, ls.set i (some (.int (x + Int32.ofInt n))), st, ws, c, s))
      | false => none
    | _ => none
  | .iconst n => some (.inl (tl, ls, .int (Int32.ofInt n) :: st, ws, c, s))
  | .bipush n => some (.inl (tl, ls, .int (Int8.ofInt n).toInt32 :: st, ws, c, s))
  | .sipush n => some (.inl (tl, ls, .int (Int16.ofInt n).toInt32 :: st, ws, c, s))
  | .iadd => match st with
    | .int y :: .int x :: st => some (.inl (tl, ls, .int (x + y) :: st, ws, c, s))
    | _ => none
  | .imul => match st with
    | .int y :: .int x :: st => some (.inl (tl, ls, .int (x * y) :: st, ws, c, s))
    | _ => none
  | .dup => match st with
    | .ref x :: st => some (.inl (tl, ls, .ref x :: .ref x :: st, ws, c, s))
    | _ => none
  | .if_icmp .ge off => match st with
    | .int y :: .int x :: st => match decide (y ≤ x) with
      | true => some (.inl (zj M.1 pc off, ls, st, ws, c, s))
      | false => some (.inl (tl, ls, st, ws, c, s))
    | _ => none
  | .goto off => some (.inl (zj M.1 pc off, ls, st, ws, c, s))
  | .return_ => match st with
    | [] => some (.inr ws)
    | _ => none
  | .arraylength => match st with
    | .ref a :: st => match ws[a]? with
      | some (.inl (0, n, _, _)) => some (.inl (tl, ls, .int (Int32.ofNat n) :: st, ws, c, s))
      | _ => none
    | _ => none
  | .iastore => match st with
    | .int x :: .int i :: .ref a :: st => match ws[a]? with
      | some (.inl (0, n, L, rs)) => match inb i n with
        | true => some (.inl (tl, ls, st, ws.set a (.inl (0, n, dput L i.toNatClampNeg x, rs)), c, s))
        | false => none
      | _ => none
    | _ => none
  | .aastore => match st with
    | .ref v :: .int i :: .ref a :: st => match ws[a]?, ws[v]? with
      | some (.inl (3, n, L, rs)), some (.inr (6, _)) => match inb i n && Nat.beq rs.length n with
        | true => some (.inl (tl, ls, st, ws.set a (.inl (3, n, L, rs.set i.toNatClampNeg (some v))), c, s))
        | false => none
      | _, _ => none
    | _ => none
  | .newarray t => match st with
    | .int i :: st => match !decide (i < 0) && Nat.ble i.toNatClampNeg 5000 with
      | true => match t with
        | .int => dnew M (.inl (0, i.toNatClampNeg, [], [])) i.toNatClampNeg tl ls st ws c s
        | .boolean => dnew M (.inl (1, i.toNatClampNeg, [], [])) i.toNatClampNeg tl ls st ws c s
        | .long => dnew M (.inl (2, i.toNatClampNeg, [], [])) i.toNatClampNeg tl ls st ws c s
        | _ => none
      | false => none
    | _ => none
  | .anewarray i => match st with
    | .int j :: st => match !decide (j < 0) && Nat.ble j.toNatClampNeg 5000, zlk0 M.2.2.2.2.2.2.1 i with
      | true, some _ => dnew M (.inl (3, j.toNatClampNeg, [], List.replicate j.toNatClampNeg none)) j.toNatClampNeg tl ls st ws c s
      | _, _ => none
    | _ => none
  | .new i => match zlk0 M.2.2.1 i with
    | some (ci, n, fs) => dnew M (.inr (ci, fs)) n tl ls st ws c s
    | none => none
  | .getfield i => match st with
    | .ref a :: st => match zlk0 M.2.1 i with
      | some (ci, j, _) => match ws[a]? with
        | some (.inr (ci', fs)) => match Nat.beq ci ci' with
          | true => match fs[j]? with
            | some (.ref r) => some (.inl (tl, ls, .ref r :: st, ws, c, s))
            | _ => none
          | false => none
        | _ => none
      | none => none
    | _ => none
  | .putfield i => match st with
    | .ref v :: .ref a :: st => match zlk0 M.2.1 i with
      | some (ci, j, true) => match ws[a]? with
        | some (.inr (ci', fs)) => match Nat.beq ci ci' && Nat.blt j fs.length with
          | true => some (.inl (tl, ls, st, ws.set a (.inr (ci, fs.set j (.ref v))), c, s))
          | false => none
        | _ => none
      | _ => none
    | .int v :: .ref a :: st => match zlk0 M.2.1 i with
      | some (ci, j, false) => match ws[a]? with
        | some (.inr (ci', fs)) => match Nat.beq ci ci' && Nat.blt j fs.length with
          | true => some (.inl (tl, ls, st, ws.set a (.inr (ci, fs.set j (.int v))), c, s))
          | false => none
        | _ => none
      | _ => none
    | _ => none
  | .getstatic i => match zlk0 M.2.2.2.1 i with
    | some k => some (.inl (tl, ls, .ref k :: st, ws, c, s))
    | none => none
  | .checkcast i => match st with
    | .ref a :: st => match ws[a]?, zlk0 M.2.2.2.2.2.1 i with
      | some (.inl (0, _, _, _)), some _ => some (.inl (tl, ls, .ref a :: st, ws, c, s))
      | _, _ => none
    | _ => none
  | .invokespecial i => match dcall M i 1 tl ls st ws c s with
    | some r => some r
    | none => match dcall M i 2 tl ls st ws c s with
      | some r => some r
      | none => match zlk0 M.2.2.2.2.1 i, st with
        | some (1, 0, _, _, _), .ref _ :: st => match Nat.ble (zcs st) 8 with
          | true => some (.inl (tl, ls, st, ws, c, s))
          | false => none
        | _, _ => none
  | .invokestatic i => dcall M i 3 tl ls st ws c s
  | .invokevirtual i => match dcall M i 4 tl ls st ws c s with
    | some r => some r
    | none => match zlk0 M.2.2.2.2.1 i, st with
      | some (1, 5, _, _, _), .ref a :: st => match Nat.ble (zcs st) 8 with
        | true => match Nat.beq a 100, Nat.beq a 101 with
          | true, _ => dnew M (.inl (0, 30, dTF, [])) 30 tl ls st ws c s
          | _, true => dnew M (.inl (0, 5, dRF, [])) 5 tl ls st ws c s
          | _, _ => none
        | false => none
      | _, _ => none
  | _ => none
def drun (M : dM) : Nat → List zI → List (Option Value) → List Value → List dE → Nat → Nat → Option (List dE)
  | 0, _, _, _, _, _, _ => none
  | _ + 1, [], _, _, _, _, _ => none
  | n + 1, (pc, ins, _) :: tl, ls, st, ws, c, s => match dst M pc ins tl ls st ws c s with
    | some (.inl (is, ls, st, ws, c, s)) => drun M n is ls st ws c s
    | some (.inr ws) => some ws
    | none => none
/-- a method: from its arguments -/
def dfun (M : dM) (n nL : Nat) : dF := fun as ws => match Nat.ble (zarg as).length nL && znd as with
  | true => drun M n M.1 (zini nL as) [] ws 0 0
  | false => none
/-! what is where -/
theorem dW_len (ca : Nat → ClassId) (ad : Nat → Nat) (ws : List dE) : (dW ca ad ws).length = ws.length := by simp [dW]
theorem dW_get {ca : Nat → ClassId} {ad : Nat → Nat} {ws : List dE} {k : Nat} {e : dE} (hk : ws[k]? = some e) : (dW ca ad ws)[k]? = some (ad k, dEv ca ad e) := by
  unfold dW
  rw [List.getElem?_mapIdx, hk]; rfl
theorem dW_app (ca : Nat → ClassId) (ad : Nat → Nat) (ws : List dE) (e : dE) : dW ca ad (ws ++ [e]) = dW ca ad ws ++ [(ad ws.length, dEv ca ad e)] := by
  unfold dW
  rw [List.mapIdx_append]
  simp
theorem dW_set {ca : Nat → ClassId} {ad : Nat → Nat} {ws : List dE} {k : Nat} {e : dE} {v : va_E} (he : dEv ca ad e = v) : (dW ca ad ws).set k (ad k, v) = dW ca ad (ws.set k e) := by
  subst he
  apply List.ext_getElem?
  intro i
  unfold dW
  rw [List.getElem?_set, List.getElem?_mapIdx, List.getElem?_mapIdx, List.getElem?_set, List.length_mapIdx]
  by_cases h : k = i
  · subst h
    by_cases hl : k < ws.length
    · simp [hl]
    · simp [hl]
  · simp [h]
theorem dW_addr {ca : Nat → ClassId} {ad : Nat → Nat} {ws : List dE} {k : Nat} {q : Nat × va_E} (hk : (dW ca ad ws)[k]? = some q) : k < ws.length ∧ q.1 = ad k := by
  have hl : k < ws.length := by
    have := (List.getElem?_eq_some_iff.mp hk).1
    rwa [dW_len] at this
  refine ⟨hl, ?_⟩
  rw [dW_get (List.getElem?_eq_getElem hl)] at hk
  cases hk; rfl
/-- the same addresses, for what is there, and for the statics -/
def dAg (n : Nat) (ad ad' : Nat → Nat) : Prop := ∀ k, k < n ∨ 100 ≤ k → ad' k = ad k
theorem dAg.tr {n m : Nat} {a b c : Nat → Nat} (h1 : dAg n a b) (h2 : dAg m b c) (hn : n ≤ m) : dAg n a c := fun k hk => (h2 k (by omega)).trans (h1 k hk)
theorem okv_ag {n : Nat} {ad ad' : Nat → Nat} (h : dAg n ad ad') {v : Value} (hv : okv n v = true) : zv ad' v = zv ad v := by
  cases v with
  | ref k =>
    have : k < n ∨ 100 ≤ k := by
      rcases Bool.or_eq_true_iff.mp hv with q | q
      · exact Or.inl (Nat.blt_eq.mp q)
      · exact Or.inr (Nat.le_of_ble_eq_true q)
    show Value.ref (ad' k) = Value.ref (ad k)
    rw [h k this]
  | _ => rfl
theorem okv_map {n : Nat} {ad ad' : Nat → Nat} (h : dAg n ad ad') {st : List Value} (hv : st.all (okv n) = true) : st.map (zv ad') = st.map (zv ad) := List.map_congr_left (fun v hm => okv_ag h (List.all_eq_true.mp hv v hm))
theorem okE_ag {n : Nat} {ad ad' : Nat → Nat} (h : dAg n ad ad') {ca : Nat → ClassId} {e : dE} (hv : okE n e = true) : dEv ca ad' e = dEv ca ad e := by
  obtain ⟨t, k, L, rs⟩ | ⟨ci, fs⟩ := e
  · have hr : (fun (i : Nat) => (rs[i]?).join.map ad') = (fun (i : Nat) => (rs[i]?).join.map ad) := by
      funext i
      cases hi : rs[i]? with
      | none => rfl
      | some o =>
        cases o with
        | none => rfl
        | some q =>
          have := List.all_eq_true.mp hv _ (List.mem_of_getElem? hi)
          have : q < n := Nat.blt_eq.mp this
          show some (ad' q) = some (ad q)
          rw [h q (Or.inl this)]
    unfold dEv
    split <;> simp_all
  · show (Sum.inr (ci, fs.map (zv ad')) : va_E) = Sum.inr (ci, fs.map (zv ad))
    rw [okv_map h hv]
theorem okW_ag {ad ad' : Nat → Nat} {ws : List dE} (h : dAg ws.length ad ad') {ca : Nat → ClassId} (hv : ws.all (okE ws.length) = true) : dW ca ad' ws = dW ca ad ws := by
  apply List.ext_getElem?
  intro i
  unfold dW
  rw [List.getElem?_mapIdx, List.getElem?_mapIdx]
  cases hi : ws[i]? with
  | none => rfl
  | some e =>
    have hl : i < ws.length := (List.getElem?_eq_some_iff.mp hi).1
    have := List.all_eq_true.mp hv e (List.mem_of_getElem? hi)
    simp only [Option.map_some, okE_ag h this, h i (Or.inl hl)]
theorem okl_ag {n : Nat} {ad ad' : Nat → Nat} (h : dAg n ad ad') {ls : List (Option Value)} (hv : ls.all (okl n) = true) {nL : Nat} {la : Array Slot} (hl : zLo ad nL la ls) : zLo ad' nL la ls := by
  refine ⟨⟨hl.1.1, hl.1.2.1, fun q hq => ?_⟩, hl.2⟩
  obtain ⟨i, v, hi, rfl⟩ := zl_mem.mp hq
  have : okv n v = true := List.all_eq_true.mp hv (some v) (List.mem_of_getElem? hi)
  rw [okv_ag h this]
  exact hl.1.2.2 _ (zl_mem.mpr ⟨i, v, hi, rfl⟩)
def dInv (D : va_G) (ca : Nat → ClassId) (ad : Nat → Nat) (A : Nat → Prop) (H0 : Heap) (ws : List dE) (H : Heap) (locs : List Loc) : Prop := va_P D vwCl (dW ca ad ws) H ∧ va_D A (dW ca ad ws) ∧ va_S A H0 H locs
def dA (ad : Nat → Nat) (n sz : Nat) : Nat → Prop := fun q => (∃ k, k < n ∧ q = ad k) ∨ sz ≤ q
theorem dD_any {A B : Nat → Prop} {ca : Nat → ClassId} {ad : Nat → Nat} {ws : List dE} (hD : va_D A (dW ca ad ws)) (hB : ∀ k, k < ws.length → B (ad k)) : va_D B (dW ca ad ws) :=
  ⟨hD.1, fun k q hk => by obtain ⟨lk, ek⟩ := dW_addr hk; rw [ek]; exact hB k lk⟩
/-- a new cell: the addresses grow -/
theorem dgrow {D : va_G} {ca : Nat → ClassId} {ad : Nat → Nat} {A : Nat → Prop} {ws : List dE} {H : Heap} {e : dE} {q : Nat} (hv : ws.all (okE ws.length) = true) (h100 : ws.length < 100) {v : va_E} (he : ∀ ad', dEv ca ad' e = v) (hP : va_P D vwCl (dW ca ad ws ++ [(q, v)]) H) (hD : va_D A (dW ca ad ws ++ [(q, v)])) :
    dAg ws.length ad (fun k => if k = ws.length then q else ad k) ∧ va_P D vwCl (dW ca (fun k => if k = ws.length then q else ad k) (ws ++ [e])) H ∧ va_D A (dW ca (fun k => if k = ws.length then q else ad k) (ws ++ [e])) := by
  have ag : dAg ws.length ad (fun k => if k = ws.length then q else ad k) := fun k hk => if_neg (by omega)
  have e1 : dW ca (fun k => if k = ws.length then q else ad k) (ws ++ [e]) = dW ca ad ws ++ [(q, v)] := by
    rw [dW_app, okW_ag ag hv, he]
    simp
  rw [e1]
  exact ⟨ag, hP, hD⟩
