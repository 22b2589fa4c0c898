/-! ===== THE SMALL MACHINE: the cells of the whole system by number; one step of a method's code on them; runs. No heap, no tables: part 03 ties it to the machine ===== -/
/-- what the cells hold: ints (fields and arrays) by cell and place; longs likewise -/
abbrev zH : Type := (Nat → Nat → Int32) × (Nat → Nat → Int64)
def zsi (h : zH) (k j : Nat) (x : Int32) : zH := (fun a b => if a = k ∧ b = j then x else h.1 a b, h.2)
def zsl (h : zH) (k j : Nat) (x : Int64) : zH := (h.1, fun a b => if a = k ∧ b = j then x else h.2 a b)
/-- the shape of a cell: an array (0 int, 1 boolean, 2 long, 3 of Setup: its cells), its length; or an object: its class's number, its fields (a cell, or an int) -/
abbrev zS : Type := (Nat × Nat × List Nat) ⊕ (Nat × List (Option Nat))
def zSetup (k : Nat) : List zS := [.inr (6, [some (k + 1), some (k + 2), some (k + 3), some (k + 4), some (k + 5)]), .inl (0, 30, []), .inl (0, 5, []), .inl (0, 12, []), .inl (0, 4, []), .inl (0, 12, [])]
def zSh : List zS := [
  .inr (7, [some 1, some 7, none, some 26, some 29, some 32, some 35, some 38]),
  .inr (6, [some 2, some 3, some 4, some 5, some 6]), .inl (0, 30, []), .inl (0, 5, []), .inl (0, 12, []), .inl (0, 4, []), .inl (0, 12, []),
  .inl (3, 3, [8, 14, 20]),
  .inr (6, [some 9, some 10, some 11, some 12, some 13]), .inl (0, 30, []), .inl (0, 5, []), .inl (0, 12, []), .inl (0, 4, []), .inl (0, 12, []),
  .inr (6, [some 15, some 16, some 17, some 18, some 19]), .inl (0, 30, []), .inl (0, 5, []), .inl (0, 12, []), .inl (0, 4, []), .inl (0, 12, []),
  .inr (6, [some 21, some 22, some 23, some 24, some 25]), .inl (0, 30, []), .inl (0, 5, []), .inl (0, 12, []), .inl (0, 4, []), .inl (0, 12, []),
  .inr (3, [some 1, some 27, some 28]), .inl (2, 181, []), .inl (2, 181, []),
  .inr (4, [some 1, some 30]), .inr (5, [some 31, none]), .inl (0, 28, []),
  .inr (2, [some 29, some 33, none, some 34]), .inl (0, 48, []), .inl (0, 4096, []),
  .inr (0, [some 29, some 36, some 37]), .inl (0, 12, []), .inl (0, 16, []),
  .inr (1, [some 39, some 40, some 41, none]), .inl (0, 60, []), .inl (0, 60, []), .inl (0, 60, []),
  .inr (8, [some 43, none, none, none, none, none, some 44, some 45, none, some 46, some 47, some 48, some 49, some 50, none, some 51, some 52, some 53, some 54, some 55, some 56, none, some 57, some 58, some 59, some 60, some 61, some 62, none]),
  .inl (0, 30, []), .inl (0, 4, []), .inl (0, 12, []), .inl (0, 12, []), .inl (0, 12, []), .inl (0, 12, []), .inl (0, 12, []), .inl (0, 12, []),
  .inl (0, 60, []), .inl (0, 60, []), .inl (0, 60, []), .inl (2, 181, []), .inl (1, 181, []), .inl (0, 12, []),
  .inl (0, 8, []), .inl (0, 8, []), .inl (0, 8, []), .inl (0, 8, []), .inl (0, 16, []), .inl (0, 153, [])]
abbrev zI : Type := Nat × Instr × Nat
abbrev zRel : Type := List Value → zH → Option Value → zH → Prop
/-- a method: its code; field links (class, field, may be written); static links; constants; long constants; calls (arguments, kind of answer: 0 none, 1 int, 2 long; the receiver's class; what it does); arrays that nobody writes -/
abbrev zM : Type := List zI × List (Nat × Nat × Nat × Bool) × List (Nat × Nat) × List (Nat × Int32) × List (Nat × Int64) × List (Nat × Nat × Nat × Option Nat × zRel) × List (Nat × Nat × (Nat → Int32))
def zlk0 {α : Type} : List (Nat × α) → Nat → Option α
  | [], _ => none
  | (a, b) :: l, i => match Nat.beq a i with
    | true => some b
    | false => zlk0 l i
theorem zlk0_mem {α : Type} : ∀ {l : List (Nat × α)} {i : Nat} {b : α}, zlk0 l i = some b → (i, b) ∈ l
  | [], _, _, h => by simp [zlk0] at h
  | (a, c) :: l, i, b, h => by
    unfold zlk0 at h
    split at h
    next e => cases h; rw [Nat.eq_of_beq_eq_true e]; exact List.mem_cons_self
    next => exact List.mem_cons_of_mem _ (zlk0_mem h)
/-- where a jump leads -/
def zj (cd : List zI) (pc : Nat) (off : Int) : List zI := match (pc : Int) + off with
  | .ofNat t => cd.dropWhile (fun e => !(Nat.beq e.1 t))
  | .negSucc _ => []
def zc (c : ClassFile.Cond) (x y : Int32) : Prop := match c with
  | .eq => x = y
  | .ne => ¬ x = y
  | .lt => x < y
  | .ge => y ≤ x
  | .gt => y < x
  | .le => x ≤ y
def zcs : List Value → Nat
  | [] => 0
  | v :: l => v.category + zcs l
def zsw (cd : List zI) (pc : Nat) (x : Int32) (k : List zI → Prop) : Int → List Int → Prop
  | _, [] => True
  | lo, o :: os => (x.toInt = lo → k (zj cd pc o)) ∧ zsw cd pc x k (lo + 1) os
/-- the receiver is an object of that class -/
def zrcv (o : Option Nat) (as : List Value) : Bool := match o with
  | none => true
  | some ci => match as with
    | .ref a :: _ => match zSh[a]? with
      | some (.inr (ci', _)) => Nat.beq ci ci'
      | _ => false
    | _ => false
def zcall (vt : Bool) (c : Option (Nat × Nat × Option Nat × zRel)) (tl : List zI) (ls : List (Option Value)) (st : List Value) (h : zH) (k : List zI → List (Option Value) → List Value → zH → Prop) : Prop := match c with
  | some (n, kd, o, Rl) => match Nat.ble (zcs (st.drop n)) 8 && (Nat.beq (st.take n).length n && ((o.isSome == vt) && zrcv o (st.take n).reverse)) with
    | true => match kd with
      | 0 => ∃ h' : zH, Rl (st.take n).reverse h none h' ∧ k tl ls (st.drop n) h'
      | 1 => ∃ (v : Int32) (h' : zH), Rl (st.take n).reverse h (some (.int v)) h' ∧ k tl ls (.int v :: st.drop n) h'
      | 2 => ∃ (v : Int64) (h' : zH), Rl (st.take n).reverse h (some (.long v)) h' ∧ k tl ls (.long v :: st.drop n) h'
      | _ => False
    | false => False
  | none => False
/-- no long stands ahead of local i -/
def znl (ls : List (Option Value)) (i : Nat) : Bool := match ls[i - 1]? with
  | some (some v) => Nat.beq v.category 1
  | _ => true
/-- one instruction -/
def zst (M : zM) (post : Option Value → zH → Prop) (pc : Nat) (ins : Instr) (tl : List zI) (ls : List (Option Value)) (st : List Value) (h : zH) (k : List zI → List (Option Value) → List Value → zH → Prop) : Prop := match ins with
  | .iload_n i => match ls[i.val]? with
    | some (some (.int x)) => k tl ls (.int x :: st) h
    | _ => False
  | .iload i => match ls[i]? with
    | some (some (.int x)) => k tl ls (.int x :: st) h
    | _ => False
  | .aload_n i => match ls[i.val]? with
    | some (some (.ref x)) => k tl ls (.ref x :: st) h
    | _ => False
  | .aload i => match ls[i]? with
    | some (some (.ref x)) => k tl ls (.ref x :: st) h
    | _ => False
  | .lload_n i => match ls[i.val]? with
    | some (some (.long x)) => k tl ls (.long x :: st) h
    | _ => False
  | .istore_n i => match st with
    | .int x :: st => match Nat.blt i.val ls.length && znl ls i.val with
      | true => k tl (ls.set i.val (some (.int x))) st h
      | false => False
    | _ => False
  | .istore i => match st with
    | .int x :: st => match Nat.blt i ls.length && znl ls i with
      | true => k tl (ls.set i (some (.int x))) st h
      | false => False
    | _ => False
  | .iinc i n => match ls[i]? with
    | some (some (.int x)) => match znl ls i with
      | true => k tl (ls.set i (some (.int (x + Int32.ofInt n)))) st h
      | false => False
    | _ => False
  | .iconst n => k tl ls (.int (Int32.ofInt n) :: st) h
  | .bipush n => k tl ls (.int (Int8.ofInt n).toInt32 :: st) h
  | .sipush n => k tl ls (.int (Int16.ofInt n).toInt32 :: st) h
  | .lconst n => k tl ls (.long (Int64.ofNat n.val) :: st) h
  | .ldc i => match zlk0 M.2.2.2.1 i with
    | some v => k tl ls (.int v :: st) h
    | none => False
  | .ldc_w i => match zlk0 M.2.2.2.1 i with
    | some v => k tl ls (.int v :: st) h
    | none => False
  | .ldc2_w i => match zlk0 M.2.2.2.2.1 i with
    | some v => k tl ls (.long v :: st) h
    | none => False
  | .iadd => match st with
    | .int y :: .int x :: st => k tl ls (.int (x + y) :: st) h
    | _ => False
  | .isub => match st with
    | .int y :: .int x :: st => k tl ls (.int (x - y) :: st) h
    | _ => False
  | .imul => match st with
    | .int y :: .int x :: st => k tl ls (.int (x * y) :: st) h
    | _ => False
  | .idiv => match st with
    | .int y :: .int x :: st => ¬ y = 0 ∧ k tl ls (.int (x / y) :: st) h
    | _ => False
  | .irem => match st with
    | .int y :: .int x :: st => ¬ y = 0 ∧ k tl ls (.int (x - x / y * y) :: st) h
    | _ => False
  | .iand => match st with
    | .int y :: .int x :: st => k tl ls (.int (x &&& y) :: st) h
    | _ => False
  | .ior => match st with
    | .int y :: .int x :: st => k tl ls (.int (x ||| y) :: st) h
    | _ => False
  | .ixor => match st with
    | .int y :: .int x :: st => k tl ls (.int (x ^^^ y) :: st) h
    | _ => False
  | .ishl => match st with
    | .int y :: .int x :: st => k tl ls (.int (x <<< (y &&& 31)) :: st) h
    | _ => False
  | .ishr => match st with
    | .int y :: .int x :: st => k tl ls (.int (x >>> (y &&& 31)) :: st) h
    | _ => False
  | .iushr => match st with
    | .int y :: .int x :: st => k tl ls (.int (x.toUInt32 >>> (y.toUInt32 &&& Int32.toUInt32 31)).toInt32 :: st) h
    | _ => False
  | .ladd => match st with
    | .long y :: .long x :: st => k tl ls (.long (x + y) :: st) h
    | _ => False
  | .lmul => match st with
    | .long y :: .long x :: st => k tl ls (.long (x * y) :: st) h
    | _ => False
  | .i2l => match st with
    | .int x :: st => k tl ls (.long x.toInt64 :: st) h
    | _ => False
  | .lcmp => match st with
    | .long y :: .long x :: st => k tl ls (.int (lg_cmp x y) :: st) h
    | _ => False
  | .dup => match st with
    | .int x :: st => k tl ls (.int x :: .int x :: st) h
    | .ref x :: st => k tl ls (.ref x :: .ref x :: st) h
    | _ => False
  | .dup2 => match st with
    | .int y :: .ref x :: st => k tl ls (.int y :: .ref x :: .int y :: .ref x :: st) h
    | _ => False
  | .ifCond c off => match st with
    | .int x :: st => (zc c x 0 → k (zj M.1 pc off) ls st h) ∧ (¬ zc c x 0 → k tl ls st h)
    | _ => False
  | .if_icmp c off => match st with
    | .int y :: .int x :: st => (zc c x y → k (zj M.1 pc off) ls st h) ∧ (¬ zc c x y → k tl ls st h)
    | _ => False
  | .goto off => k (zj M.1 pc off) ls st h
  | .tableswitch d lo hi offs => match st with
    | .int x :: st => (x.toInt < lo ∨ hi < x.toInt → k (zj M.1 pc d) ls st h) ∧ zsw M.1 pc x (fun q => k q ls st h) lo offs.toList
    | _ => False
  | .ireturn => match st with
    | [.int v] => post (some (.int v)) h
    | _ => False
  | .lreturn => match st with
    | [.long v] => post (some (.long v)) h
    | _ => False
  | .return_ => match st with
    | [] => post none h
    | _ => False
  | .getfield i => match st with
    | .ref a :: st => match zlk0 M.2.1 i with
      | some (ci, j, _) => match zSh[a]? with
        | some (.inr (ci', fs)) => match Nat.beq ci ci' with
          | true => match fs[j]? with
            | some (some r) => k tl ls (.ref r :: st) h
            | some none => k tl ls (.int (h.1 a j) :: st) h
            | none => False
          | false => False
        | _ => False
      | none => False
    | _ => False
  | .putfield i => match st with
    | .int x :: .ref a :: st => match zlk0 M.2.1 i with
      | some (ci, j, true) => match zSh[a]? with
        | some (.inr (ci', fs)) => match Nat.beq ci ci' with
          | true => match fs[j]? with
            | some none => k tl ls st (zsi h a j x)
            | _ => False
          | false => False
        | _ => False
      | _ => False
    | _ => False
  | .getstatic i => match zlk0 M.2.2.1 i with
    | some a => k tl ls (.ref a :: st) h
    | none => False
  | .iaload => match st with
    | .int i :: .ref a :: st => match zSh[a]? with
      | some (.inl (0, n, _)) => vp_in i n ∧ k tl ls (.int (h.1 a i.toNatClampNeg) :: st) h
      | none => match zlk0 M.2.2.2.2.2.2 a with
        | some (n, f) => vp_in i n ∧ k tl ls (.int (f i.toNatClampNeg) :: st) h
        | none => False
      | _ => False
    | _ => False
  | .iastore => match st with
    | .int x :: .int i :: .ref a :: st => match zSh[a]? with
      | some (.inl (0, n, _)) => vp_in i n ∧ k tl ls st (zsi h a i.toNatClampNeg x)
      | _ => False
    | _ => False
  | .baload => match st with
    | .int i :: .ref a :: st => match zSh[a]? with
      | some (.inl (1, n, _)) => vp_in i n ∧ k tl ls (.int (h.1 a i.toNatClampNeg) :: st) h
      | _ => False
    | _ => False
  | .bastore => match st with
    | .int x :: .int i :: .ref a :: st => match zSh[a]? with
      | some (.inl (1, n, _)) => vp_in i n ∧ k tl ls st (zsi h a i.toNatClampNeg (vp_nar .boolean x))
      | _ => False
    | _ => False
  | .laload => match st with
    | .int i :: .ref a :: st => match zSh[a]? with
      | some (.inl (2, n, _)) => vp_in i n ∧ k tl ls (.long (h.2 a i.toNatClampNeg) :: st) h
      | _ => False
    | _ => False
  | .lastore => match st with
    | .long x :: .int i :: .ref a :: st => match zSh[a]? with
      | some (.inl (2, n, _)) => vp_in i n ∧ k tl ls st (zsl h a i.toNatClampNeg x)
      | _ => False
    | _ => False
  | .aaload => match st with
    | .int i :: .ref a :: st => match zSh[a]? with
      | some (.inl (3, n, rs)) => vp_in i n ∧ match rs[i.toNatClampNeg]? with
        | some r => k tl ls (.ref r :: st) h
        | none => False
      | _ => False
    | _ => False
  | .arraylength => match st with
    | .ref a :: st => match zSh[a]? with
      | some (.inl (0, n, _)) => k tl ls (.int (Int32.ofNat n) :: st) h
      | none => match zlk0 M.2.2.2.2.2.2 a with
        | some (n, _) => k tl ls (.int (Int32.ofNat n) :: st) h
        | none => False
      | _ => False
    | _ => False
  | .invokevirtual i => zcall true (zlk0 M.2.2.2.2.2.1 i) tl ls st h k
  | .invokestatic i => zcall false (zlk0 M.2.2.2.2.2.1 i) tl ls st h k
  | _ => False
/-- a run of n instructions at most, to the method's end -/
def zgo (M : zM) (post : Option Value → zH → Prop) : Nat → List zI → List (Option Value) → List Value → zH → Prop
  | 0, _, _, _, _ => False
  | _ + 1, [], _, _, _ => False
  | n + 1, (pc, ins, _) :: tl, ls, st, h => zst M post pc ins tl ls st h (zgo M post n)
def zG (M : zM) (post : Option Value → zH → Prop) (is : List zI) (ls : List (Option Value)) (st : List Value) (h : zH) : Prop := ∃ n, zgo M post n is ls st h
def zarg : List Value → List (Option Value)
  | [] => []
  | .long x :: vs => some (.long x) :: none :: zarg vs
  | v :: vs => some v :: zarg vs
def zini (nL : Nat) (as : List Value) : List (Option Value) := zarg as ++ List.replicate (nL - (zarg as).length) none
def znd : List Value → Bool
  | [] => true
  | .double _ :: _ => false
  | _ :: vs => znd vs
/-- the kind of an answer -/
def zkd (ret : Option FieldType) (r : Option Value) : Prop := match ret with
  | none => r = none
  | some .long => ∃ v, r = some (.long v)
  | some .int => ∃ v, r = some (.int v)
  | some .boolean => r = some (.int 0) ∨ r = some (.int 1)
  | _ => False
/-- what a method does -/
def zR (M : zM) (nL : Nat) (ret : Option FieldType) : zRel := fun as h r h' => (Nat.ble (zarg as).length nL && znd as) = true ∧ zkd ret r ∧ zG M (fun r1 h1 => r1 = r ∧ h1 = h') M.1 (zini nL as) [] h
/-- System.arraycopy between int arrays -/
def zcpy (h : zH) (a0 sp a1 dp n : Nat) : zH := (fun a b => if a = a1 then va_cpy (h.1 a0) (h.1 a1) sp dp n b else h.1 a b, h.2)
def zAC : zRel := fun as h r h' => ∃ (a0 a1 n0 n1 : Nat) (sp dp n : Int32), as = [.ref a0, .int sp, .ref a1, .int dp, .int n] ∧ zSh[a0]? = some (.inl (0, n0, [])) ∧ zSh[a1]? = some (.inl (0, n1, [])) ∧ ¬ sp < 0 ∧ ¬ dp < 0 ∧ ¬ n < 0 ∧ sp.toNatClampNeg + n.toNatClampNeg ≤ n0 ∧ dp.toNatClampNeg + n.toNatClampNeg ≤ n1 ∧ r = none ∧ h' = zcpy h a0 sp.toNatClampNeg a1 dp.toNatClampNeg n.toNatClampNeg
