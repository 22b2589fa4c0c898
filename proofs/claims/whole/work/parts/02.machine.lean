/-! ===== THE SMALL MACHINE: the cells of the whole system by number; one step of a method's code on them; runs. No heap, no tables: part 03 ties it to the machine ===== -/
/-- what the cells hold: ints (fields and arrays) by cell and place; longs likewise -/
abbrev zH : Type := (Nat → Nat → Int32) × (Nat → Nat → Int64)
def zsi (h : zH) (k j : Nat) (x : Int32) : zH := (fun a b => if a = k ∧ b = j then x else h.1 a b, h.2)
def zsl (h : zH) (k j : Nat) (x : Int64) : zH := (h.1, fun a b => if a = k ∧ b = j then x else h.2 a b)
/-- the shape of a cell: an array (0 int, 1 boolean, 2 long, 3 of Setup: its cells), its length; or an object: its class's number, its fields (a cell, or an int) -/
abbrev zS : Type := (Nat × Nat × List Nat) ⊕ (Nat × List (Option Nat))
def zSetup (k : Nat) : List zS := [.inr (6, [some (k + 1), some (k + 2), some (k + 3), some (k + 4), some (k + 5)]), .inl (0, 30, []), .inl (0, 5, []), .inl (0, 12, []), .inl (0, 4, []), .inl (0, 12, [])]
def zSh : List zS := [
  .inr (7, [some 1, some 7, none, some 26, some 29, some 32, some 35, some 38]),
  .inr (6, [some 2, some 3, some 4, some 5, some 6]), .inl (0, 30, []), .inl (0, 5, []), .inl (0, 12, []), .inl (0, 4, []), .inl (0, 12, []),
  .inl (3, 3, [8, 14, 20]),
  .inr (6, [some 9, some 10, some 11, some 12, some 13]), .inl (0, 30, []), .inl (0, 5, []), .inl (0, 12, []), .inl (0, 4, []), .inl (0, 12, []),
  .inr (6, [some 15, some 16, some 17, some 18, some 19]), .inl (0, 30, []), .inl (0, 5, []), .inl (0, 12, []), .inl (0, 4, []), .inl (0, 12, []),
  .inr (6, [some 21, some 22, some 23, some 24, some 25]), .inl (0, 30, []), .inl (0, 5, []), .inl (0, 12, []), .inl (0, 4, []), .inl (0, 12, []),
  .inr (3, [some 1, some 27, some 28]), .inl (2, 181, []), .inl (2, 181, []),
  .inr (4, [some 1, some 30]), .inr (5, [some 31, none]), .inl (0, 28, []),
  .inr (2, [some 29, some 33, none, some 34]), .inl (0, 48, []), .inl (0, 4096, []),
  .inr (0, [some 29, some 36, some 37]), .inl (0, 12, []), .inl (0, 16, []),
  .inr (1, [some 39, some 40, some 41, none]), .inl (0, 60, []), .inl (0, 60, []), .inl (0, 60, []),
  .inr (8, [some 43, none, none, none, none, none, some 44, some 45, none, some 46, some 47, some 48, some 49, some 50, none, some 51, some 52, some 53, some 54, some 55, some 56, none, some 57, some 58, some 59, some 60, some 61, some 62, none]),
  .inl (0, 30, []), .inl (0, 4, []), .inl (0, 12, []), .inl (0, 12, []), .inl (0, 12, []), .inl (0, 12, []), .inl (0, 12, []), .inl (0, 12, []),
  .inl (0, 60, []), .inl (0, 60, []), .inl (0, 60, []), .inl (2, 181, []), .inl (1, 181, []), .inl (0, 12, []),
  .inl (0, 8, []), .inl (0, 8, []), .inl (0, 8, []), .inl (0, 8, []), .inl (0, 16, []), .inl (0, 153, [])]
abbrev zI : Type := Nat × Instr × Nat
abbrev zRel : Type := List Value → zH → Option Value → zH → Prop
/-- a method: its code; field links (class, field, may be written); static links; constants; long constants; calls (arguments, kind of answer: 0 none, 1 int, 2 long; the receiver's class; what it does); arrays that nobody writes -/
abbrev zM : Type := List zI × List (Nat × Nat × Nat × Bool) × List (Nat × Nat) × List (Nat × Int32) × List (Nat × Int64) × List (Nat × Nat × Nat × Option Nat × zRel) × List (Nat × Nat × (Nat → Int32))
def zlk0 {α : Type} : List (Nat × α) → Nat → Option α
  | [], _ => none
  | (a, b) :: l, i => match Nat.beq a i with
    | true => some b
    | false => zlk0 l i
theorem zlk0_mem {α : Type} : ∀ {l : List (Nat × α)} {i : Nat} {b : α}, zlk0 l i = some b → (i, b) ∈ l
  | [], _, _, h => by simp [zlk0] at h
  | (a, c) :: l, i, b, h => by
    unfold zlk0 at h
    split at h
    next e => cases h; rw [Nat.eq_of_beq_eq_true e]; exact List.mem_cons_self
    next => exact List.mem_cons_of_mem _ (zlk0_mem h)
/-- where a jump leads -/
def zj (cd : List zI) (pc : Nat) (off : Int) : List zI := match (pc : Int) + off with
  | .ofNat t => cd.dropWhile (fun e => !(Nat.beq e.1 t))
  | .negSucc _ => []
def zc (c : ClassFile.Cond) (x y : Int32) : Prop := match c with
  | .eq => x = y
  | .ne => ¬ x = y
  | .lt => x < y
  | .ge => y ≤ x
  | .gt => y < x
  | .le => x ≤ y
def zcs : List Value → Nat
  | [] => 0
  | v :: l => v.category + zcs l
def zsw (cd : List zI) (pc : Nat) (x : Int32) (k : List zI → Prop) : Int → List Int → Prop
  | _, [] => True
  | lo, o :: os => (x.toInt = lo → k (zj cd pc o)) ∧ zsw cd pc x k (lo + 1) os
/-- the receiver is an object of that class -/
def zrcv (o : Option Nat) (as : List Value) : Bool := match o with
  | none => true
  | some ci => match as with
    | .ref a :: _ => match zSh[a]? with
      | some (.inr (ci', _)) => Nat.beq ci ci'
      | _ => false
    | _ => false
def zcall (vt : Bool) (c : Option (Nat × Nat × Option Nat × zRel)) (tl : List zI) (ls : List (Option Value)) (st : List Value) (h : zH) (k : List zI → List (Option Value) → List Value → zH → Prop) : Prop := match c with
  | some (n, kd, o, Rl) => match Nat.ble (zcs (st.drop n)) 8 && (Nat.beq (st.take n).length n && ((o.isSome == vt) && zrcv o (st.take n).reverse)) with
    | true => match kd with
      | 0 => ∃ h' : zH, Rl (st.take n).reverse h none h' ∧ k tl ls (st.drop n) h'
      | 1 => ∃ (v : Int32) (h' : zH), Rl (st.take n).reverse h (some (.int v)) h' ∧ k tl ls (.int v :: st.drop n) h'
      | 2 => ∃ (v : Int64) (h' : zH), Rl (st.take n).reverse h (some (.long v)) h' ∧ k tl ls (.long v :: st.drop n) h'
      | _ => False
    | false => False
  | none => False
/-- no long stands ahead of local i -/
def znl (ls : List (Option Value)) (i : Nat) : Bool := match ls[i - 1]? with
  | some (some v) => Nat.beq v.category 1
  | _ => true
/-- one instruction -/
def zst (M : zM) (post : Option Value → zH → Prop) (pc : Nat) (ins : Instr) (tl : List zI) (ls : List (Option Value)) (st : List Value) (h : zH) (k : List zI → List (Option Value) → List Value → zH → Prop) : Prop := match ins with
  | .iload_n i => match ls[i.val]? with
    | some (some (.int x)) => k tl ls (.int x :: st) h
    | _ => False
  | .iload i => match ls[i]? with
    | some (some (.int x)) => k tl ls (.int x :: st) h
    | _ => False
  | .aload_n i => match ls[i.val]? with
    | some (some (.ref x)) => k tl ls (.ref x :: st) h
    | _ => False
  | .aload i => match ls[i]? with
    | some (some (.ref x)) => k tl ls (.ref x :: st) h
    | _ => False
  | .lload_n i => match ls[i.val]? with
    | some (some (.long x)) => k tl ls (.long x :: st) h
    | _ => False
  | .istore_n i => match st with
    | .int x :: st => match Nat.blt i.val ls.length && znl ls i.val with
      | true => k tl (ls.set i.val (some (.int x))) st h
      | false => False
    | _ => False
  | .istore i => match st with
    | .int x :: st => match Nat.blt i ls.length && znl ls i with
      | true => k tl (ls.set i (some (.int x))) st h
      | false => False
    | _ => False
  | .iinc i n => match ls[i]? with
    | some (some (.int x)) => match znl ls i with
      | true => k tl (ls.set i (some (.int (x + Int32.ofInt n)))) st h
      | false => False
    | _ => False
  | .iconst n => k tl ls (.int (Int32.ofInt n) :: st) h
  | .bipush n => k tl ls (.int (Int8.ofInt n).toInt32 :: st) h
  | .sipush n => k tl ls (.int (Int16.ofInt n).toInt32 :: st) h
  | .lconst n => k tl ls (.long (Int64.ofNat n.val) :: st) h
  | .ldc i => match zlk0 M.2.2.2.1 i with
    | some v => k tl ls (.int v :: st) h
    | none => False
  | .ldc_w i => match zlk0 M.2.2.2.1 i with
    | some v => k tl ls (.int v :: st) h
    | none => False
  | .ldc2_w i => match zlk0 M.2.2.2.2.1 i with
    | some v => k tl ls (.long v :: st) h
    | none => False
  | .iadd => match st with
    | .int y :: .int x :: st => k tl ls (.int (x + y) :: st) h
    | _ => False
  | .isub => match st with
    | .int y :: .int x :: st => k tl ls (.int (x - y) :: st) h
    | _ => False
  | .imul => match st with
    | .int y :: .int x :: st => k tl ls (.int (x * y) :: st) h
    | _ => False
  | .idiv => match st with
    | .int y :: .int x :: st => ¬ y = 0 ∧ k tl ls (.int (x / y) :: st) h
    | _ => False
  | .irem => match st with
    | .int y :: .int x :: st => ¬ y = 0 ∧ k tl ls (.int (x - x / y * y) :: st) h
    | _ => False
  | .iand => match st with
    | .int y :: .int x :: st => k tl ls (.int (x &&& y) :: st) h
    | _ => False
  | .ior => match st with
    | .int y :: .int x :: st => k tl ls (.int (x ||| y) :: st) h
    | _ => False
  | .ixor => match st with
    | .int y :: .int x :: st => k tl ls (.int (x ^^^ y) :: st) h
    | _ => False
  | .ishl => match st with
    | .int y :: .int x :: st => k tl ls (.int (x <<< (y &&& 31)) :: st) h
    | _ => False
  | .ishr => match st with
    | .int y :: .int x :: st => k tl ls (.int (x >>> (y &&& 31)) :: st) h
    | _ => False
  | .iushr => match st with
    | .int y :: .int x :: st => k tl ls (.int (x.toUInt32 >>> (y.toUInt32 &&& Int32.toUInt32 31)).toInt32 :: st) h
    | _ => False
  | .ladd => match st with
    | .long y :: .long x :: st => k tl ls (.long (x + y) :: st) h
    | _ => False
  | .lmul => match st with
    | .long y :: .long x :: st => k tl ls (.long (x * y) :: st) h
    | _ => False
  | .i2l => match st with
    | .int x :: st => k tl ls (.long x.toInt64 :: st) h
    | _ => False
  | .lcmp => match st with
    | .long y :: .long x :: st => k tl ls (.int (lg_cmp x y) :: st) h
    | _ => False
  | .dup => match st with
    | .int x :: st => k tl ls (.int x :: .int x :: st) h
    | .ref x :: st => k tl ls (.ref x :: .ref x :: st) h
    | _ => False
  | .dup2 => match st with
    | .int y :: .ref x :: st => k tl ls (.int y :: .ref x :: .int y :: .ref x :: st) h
    | _ => False
  | .ifCond c off => match st with
    | .int x :: st => (zc c x 0 → k (zj M.1 pc off) ls st h) ∧ (¬ zc c x 0 → k tl ls st h)
    | _ => False
  | .if_icmp c off => match st with
    | .int y :: .int x :: st => (zc c x y → k (zj M.1 pc off) ls st h) ∧ (¬ zc c x y → k tl ls st h)
    | _ => False
  | .goto off => k (zj M.1 pc off) ls st h
  | .tableswitch d lo hi offs => match st with
    | .int x :: st => (x.toInt < lo ∨ hi < x.toInt → k (zj M.1 pc d) ls st h) ∧ zsw M.1 pc x (fun q => k q ls st h) lo offs.toList
    | _ => False
  | .ireturn => match st with
    | [.int v] => post (some (.int v)) h
    | _ => False
  | .lreturn => match st with
    | [.long v] => post (some (.long v)) h
    | _ => False
  | .return_ => match st with
    | [] => post none h
    | _ => False
  | .getfield i => match st with
    | .ref a :: st => match zlk0 M.2.1 i with
      | some (ci, j, _) => match zSh[a]? with
        | some (.inr (ci', fs)) => match Nat.beq ci ci' with
          | true => match fs[j]? with
            | some (some r) => k tl ls (.ref r :: st) h
            | some none => k tl ls (.int (h.1 a j) :: st) h
            | none => False
          | false => False
        | _ => False
      | none => False
    | _ => False
  | .putfield i => match st with
    | .int x :: .ref a :: st => match zlk0 M.2.1 i with
      | some (ci, j, true) => match zSh[a]? with
        | some (.inr (ci', fs)) => match Nat.beq ci ci' with
          | true => match fs[j]? with
            | some none => k tl ls st (zsi h a j x)
            | _ => False
          | false => False
        | _ => False
      | _ => False
    | _ => False
  | .getstatic i => match zlk0 M.2.2.1 i with
    | some a => k tl ls (.ref a :: st) h
    | none => False
  | .iaload => match st with
    | .int i :: .ref a :: st => match zSh[a]? with
      | some (.inl (0, n, _)) => vp_in i n ∧ k tl ls (.int (h.1 a i.toNatClampNeg) :: st) h
      | none => match zlk0 M.2.2.2.2.2.2 a with
        | some (n, f) => vp_in i n ∧ k tl ls (.int (f i.toNatClampNeg) :: st) h
        | none => False
      | _ => False
    | _ => False
  | .iastore => match st with
    | .int x :: .int i :: .ref a :: st => match zSh[a]? with
      | some (.inl (0, n, _)) => vp_in i n ∧ k tl ls st (zsi h a i.toNatClampNeg x)
      | _ => False
    | _ => False
  | .baload => match st with
    | .int i :: .ref a :: st => match zSh[a]? with
      | some (.inl (1, n, _)) => vp_in i n ∧ k tl ls (.int (h.1 a i.toNatClampNeg) :: st) h
      | _ => False
    | _ => False
  | .bastore => match st with
    | .int x :: .int i :: .ref a :: st => match zSh[a]? with
      | some (.inl (1, n, _)) => vp_in i n ∧ k tl ls st (zsi h a i.toNatClampNeg (vp_nar .boolean x))
      | _ => False
    | _ => False
  | .laload => match st with
    | .int i :: .ref a :: st => match zSh[a]? with
      | some (.inl (2, n, _)) => vp_in i n ∧ k tl ls (.long (h.2 a i.toNatClampNeg) :: st) h
      | _ => False
    | _ => False
  | .lastore => match st with
    | .long x :: .int i :: .ref a :: st => match zSh[a]? with
      | some (.inl (2, n, _)) => vp_in i n ∧ k tl ls st (zsl h a i.toNatClampNeg x)
      | _ => False
    | _ => False
  | .aaload => match st with
    | .int i :: .ref a :: st => match zSh[a]? with
      | some (.inl (3, n, rs)) => vp_in i n ∧ match rs[i.toNatClampNeg]? with
        | some r => k tl ls (.ref r :: st) h
        | none => False
      | _ => False
    | _ => False
  | .arraylength => match st with
    | .ref a :: st => match zSh[a]? with
      | some (.inl (0, n, _)) => k tl ls (.int (Int32.ofNat n) :: st) h
      | some (.inl (2, n, _)) => k tl ls (.int (Int32.ofNat n) :: st) h
      | none => match zlk0 M.2.2.2.2.2.2 a with
        | some (n, _) => k tl ls (.int (Int32.ofNat n) :: st) h
        | none => False
      | _ => False
    | _ => False
  | .invokevirtual i => zcall true (zlk0 M.2.2.2.2.2.1 i) tl ls st h k
  | .invokestatic i => zcall false (zlk0 M.2.2.2.2.2.1 i) tl ls st h k
  | _ => False
def zstL (M : zM) (post : Option Value → zH → Prop) (is : List zI) (ls : List (Option Value)) (st : List Value) (h : zH) (k : List zI → List (Option Value) → List Value → zH → Prop) : Prop := match is with
  | [] => False
  | (pc, ins, _) :: tl => zst M post pc ins tl ls st h k
/-- from here the method comes to its end, with post: the least that holds wherever one step leads to where it holds -/
def zG (M : zM) (post : Option Value → zH → Prop) (is : List zI) (ls : List (Option Value)) (st : List Value) (h : zH) : Prop := ∀ P : List zI → List (Option Value) → List Value → zH → Prop, (∀ is ls st h, zstL M post is ls st h P → P is ls st h) → P is ls st h
def zarg : List Value → List (Option Value)
  | [] => []
  | .long x :: vs => some (.long x) :: none :: zarg vs
  | v :: vs => some v :: zarg vs
def zini (nL : Nat) (as : List Value) : List (Option Value) := zarg as ++ List.replicate (nL - (zarg as).length) none
def znd : List Value → Bool
  | [] => true
  | .double _ :: _ => false
  | _ :: vs => znd vs
/-- the kind of an answer -/
def zkd (ret : Option FieldType) (r : Option Value) : Prop := match ret with
  | none => r = none
  | some .long => ∃ v, r = some (.long v)
  | some .int => ∃ v, r = some (.int v)
  | some .boolean => r = some (.int 0) ∨ r = some (.int 1)
  | _ => False
/-- what a method does -/
def zR (M : zM) (nL : Nat) (ret : Option FieldType) : zRel := fun as h r h' => (Nat.ble (zarg as).length nL && znd as) = true ∧ zkd ret r ∧ zG M (fun r1 h1 => r1 = r ∧ h1 = h') M.1 (zini nL as) [] h
/-- System.arraycopy between int arrays -/
def zcpy (h : zH) (a0 sp a1 dp n : Nat) : zH := (fun a b => if a = a1 then va_cpy (h.1 a0) (h.1 a1) sp dp n b else h.1 a b, h.2)
def zAC : zRel := fun as h r h' => ∃ (a0 a1 n0 n1 : Nat) (sp dp n : Int32), as = [.ref a0, .int sp, .ref a1, .int dp, .int n] ∧ zSh[a0]? = some (.inl (0, n0, [])) ∧ zSh[a1]? = some (.inl (0, n1, [])) ∧ ¬ sp < 0 ∧ ¬ dp < 0 ∧ ¬ n < 0 ∧ sp.toNatClampNeg + n.toNatClampNeg ≤ n0 ∧ dp.toNatClampNeg + n.toNatClampNeg ≤ n1 ∧ r = none ∧ h' = zcpy h a0 sp.toNatClampNeg a1 dp.toNatClampNeg n.toNatClampNeg
theorem zsw_mono {cd : List zI} {pc : Nat} {x : Int32} {k k' : List zI → Prop} (hk : ∀ q, k q → k' q) : ∀ (os : List Int) (lo : Int), zsw cd pc x k lo os → zsw cd pc x k' lo os
  | [], _, _ => trivial
  | _ :: os, lo, hs => ⟨fun z => hk _ (hs.1 z), zsw_mono hk os (lo + 1) hs.2⟩
theorem zcall_mono {vt : Bool} {c : Option (Nat × Nat × Option Nat × zRel)} {tl : List zI} {ls : List (Option Value)} {st : List Value} {h : zH} {k k' : List zI → List (Option Value) → List Value → zH → Prop} (hk : ∀ is ls st h, k is ls st h → k' is ls st h) : zcall vt c tl ls st h k → zcall vt c tl ls st h k' := by
  unfold zcall
  repeat' split
  all_goals first
    | exact fun hs => hs
    | exact fun ⟨h', a, b⟩ => ⟨h', a, hk _ _ _ _ b⟩
    | exact fun ⟨v, h', a, b⟩ => ⟨v, h', a, hk _ _ _ _ b⟩
set_option maxHeartbeats 4000000 in
theorem zst_mono {M : zM} {post : Option Value → zH → Prop} {pc : Nat} {ins : Instr} {tl : List zI} {ls : List (Option Value)} {st : List Value} {h : zH} {k k' : List zI → List (Option Value) → List Value → zH → Prop} (hk : ∀ is ls st h, k is ls st h → k' is ls st h) : zst M post pc ins tl ls st h k → zst M post pc ins tl ls st h k' := by
  unfold zst
  repeat' split
  all_goals first
    | exact fun hs => hs
    | exact fun hs => hk _ _ _ _ hs
    | exact fun hs => ⟨hs.1, hk _ _ _ _ hs.2⟩
    | exact fun hs => ⟨fun z => hk _ _ _ _ (hs.1 z), fun z => hk _ _ _ _ (hs.2 z)⟩
    | exact fun hs => ⟨fun z => hk _ _ _ _ (hs.1 z), zsw_mono (fun q => hk q _ _ _) _ _ hs.2⟩
    | exact zcall_mono hk
theorem zstL_mono {M : zM} {post : Option Value → zH → Prop} {is : List zI} {ls : List (Option Value)} {st : List Value} {h : zH} {k k' : List zI → List (Option Value) → List Value → zH → Prop} (hk : ∀ is ls st h, k is ls st h → k' is ls st h) : zstL M post is ls st h k → zstL M post is ls st h k' := by
  unfold zstL
  split
  · exact id
  · exact zst_mono hk
/-- one step -/
theorem zG_step {M : zM} {post : Option Value → zH → Prop} {is : List zI} {ls : List (Option Value)} {st : List Value} {h : zH} (hs : zstL M post is ls st h (zG M post)) : zG M post is ls st h := fun P hP => hP is ls st h (zstL_mono (fun _ _ _ _ g => g P hP) hs)
/-- fewer locals known -/
def zle (ls ls' : List (Option Value)) : Prop := ls.length = ls'.length ∧ (∀ (i : Nat) (v : Value), ls[i]? = some (some v) → ls'[i]? = some (some v)) ∧ ∀ (i : Nat) (v : Value), ls'[i]? = some (some v) → ls[i]? = some (some v) ∨ v.category = 1
theorem zle_set {ls ls' : List (Option Value)} (hl : zle ls ls') (i : Nat) (v : Value) : zle (ls.set i (some v)) (ls'.set i (some v)) := by
  obtain ⟨h1, h2, h3⟩ := hl
  refine ⟨by simp [h1], fun j w hj => ?_, fun j w hj => ?_⟩
  · by_cases hji : i = j
    · subst hji
      have hlt : i < ls.length := by have := (List.getElem?_eq_some_iff.mp hj).1; simpa using this
      rw [List.getElem?_set_self hlt] at hj
      rw [List.getElem?_set_self (by omega)]
      exact hj
    · rw [List.getElem?_set_ne hji] at hj ⊢
      exact h2 j w hj
  · by_cases hji : i = j
    · subst hji
      have hlt : i < ls'.length := by have := (List.getElem?_eq_some_iff.mp hj).1; simpa using this
      rw [List.getElem?_set_self hlt] at hj
      rw [List.getElem?_set_self (by omega)]
      exact Or.inl hj
    · rw [List.getElem?_set_ne hji] at hj ⊢
      exact h3 j w hj
theorem zle_znl {ls ls' : List (Option Value)} (hl : zle ls ls') {i : Nat} (h : znl ls i = true) : znl ls' i = true := by
  unfold znl at h ⊢
  split
  · next v hv =>
    rcases hl.2.2 _ _ hv with h1 | h1
    · rw [h1] at h; exact h
    · rw [h1]; rfl
  · rfl
theorem zle_blt {ls ls' : List (Option Value)} (hl : zle ls ls') {i : Nat} (h : (Nat.blt i ls.length && znl ls i) = true) : (Nat.blt i ls'.length && znl ls' i) = true := by
  obtain ⟨a, b⟩ := Bool.and_eq_true_iff.mp h
  rw [← hl.1, a, zle_znl hl b]; rfl
theorem zcall_le {vt : Bool} {c : Option (Nat × Nat × Option Nat × zRel)} {tl : List zI} {ls ls' : List (Option Value)} {st : List Value} {h : zH} {k k' : List zI → List (Option Value) → List Value → zH → Prop} (hk : ∀ is st h, k is ls st h → k' is ls' st h) : zcall vt c tl ls st h k → zcall vt c tl ls' st h k' := by
  unfold zcall
  repeat' split
  all_goals first
    | exact fun hs => hs
    | exact fun ⟨h', a, b⟩ => ⟨h', a, hk _ _ _ b⟩
    | exact fun ⟨v, h', a, b⟩ => ⟨v, h', a, hk _ _ _ b⟩
set_option maxHeartbeats 4000000 in
theorem zst_le {M : zM} {post : Option Value → zH → Prop} {pc : Nat} {ins : Instr} {tl : List zI} {ls ls' : List (Option Value)} {st : List Value} {h : zH} {k k' : List zI → List (Option Value) → List Value → zH → Prop} (hl : zle ls ls') (hk : ∀ is la lb st h, zle la lb → k is la st h → k' is lb st h) : zst M post pc ins tl ls st h k → zst M post pc ins tl ls' st h k' := by
  have hk2 : ∀ is st h, k is ls st h → k' is ls' st h := fun is st h q => hk is ls ls' st h hl q
  unfold zst
  cases ins
  case iload_n i => dsimp only; intro hs; split at hs; · next x hi => rw [hl.2.1 _ _ hi]; exact hk2 _ _ _ hs
                    · exact hs.elim
  case iload i => dsimp only; intro hs; split at hs; · next x hi => rw [hl.2.1 _ _ hi]; exact hk2 _ _ _ hs
                  · exact hs.elim
  case aload_n i => dsimp only; intro hs; split at hs; · next x hi => rw [hl.2.1 _ _ hi]; exact hk2 _ _ _ hs
                    · exact hs.elim
  case aload i => dsimp only; intro hs; split at hs; · next x hi => rw [hl.2.1 _ _ hi]; exact hk2 _ _ _ hs
                  · exact hs.elim
  case lload_n i => dsimp only; intro hs; split at hs; · next x hi => rw [hl.2.1 _ _ hi]; exact hk2 _ _ _ hs
                    · exact hs.elim
  case istore_n i => dsimp only; intro hs; split at hs; · split at hs
                                                          · next hb => rw [zle_blt hl hb]; exact hk _ _ _ _ _ (zle_set hl _ _) hs
                                                          · exact hs.elim
                     · exact hs.elim
  case istore i => dsimp only; intro hs; split at hs; · split at hs
                                                        · next hb => rw [zle_blt hl hb]; exact hk _ _ _ _ _ (zle_set hl _ _) hs
                                                        · exact hs.elim
                   · exact hs.elim
  case iinc i n => dsimp only; intro hs; split at hs; · next x hi =>
                                                        split at hs
                                                        · next hb => rw [hl.2.1 _ _ hi]; dsimp only; rw [zle_znl hl hb]; exact hk _ _ _ _ _ (zle_set hl _ _) hs
                                                        · exact hs.elim
                   · exact hs.elim
  all_goals dsimp only
  all_goals repeat' split
  all_goals first
    | exact fun hs => hs
    | exact fun hs => hk2 _ _ _ hs
    | exact fun hs => ⟨hs.1, hk2 _ _ _ hs.2⟩
    | exact fun hs => ⟨fun z => hk2 _ _ _ (hs.1 z), fun z => hk2 _ _ _ (hs.2 z)⟩
    | exact fun hs => ⟨fun z => hk2 _ _ _ (hs.1 z), zsw_mono (fun q => hk2 q _ _) _ _ hs.2⟩
    | exact zcall_le hk2
theorem zG_le {M : zM} {post : Option Value → zH → Prop} {is : List zI} {ls ls' : List (Option Value)} {st : List Value} {h : zH} (hl : zle ls ls') (hg : zG M post is ls st h) : zG M post is ls' st h := by
  refine hg (fun is ls st h => ∀ ls', zle ls ls' → zG M post is ls' st h) ?_ ls' hl
  intro is ls st h hs ls' hl
  refine zG_step ?_
  cases is with
  | nil => exact hs.elim
  | cons q tl =>
    obtain ⟨pc, ins, len⟩ := q
    exact zst_le (k := fun is ls st h => ∀ ls', zle ls ls' → zG M post is ls' st h) (k' := zG M post) hl (fun is la lb st h hl q => q lb hl) hs
def zdr : Option Value → Option Value
  | some (.int _) => none
  | some (.ref _) => none
  | o => o
def zmask : List Bool → List (Option Value) → List (Option Value)
  | false :: m, x :: ls => zdr x :: zmask m ls
  | true :: m, x :: ls => x :: zmask m ls
  | _, ls => ls
theorem zmask_le : ∀ (m : List Bool) (ls : List (Option Value)), zle (zmask m ls) ls
  | [], ls => ⟨rfl, fun _ _ h => h, fun _ _ h => Or.inl h⟩
  | true :: _, [] => ⟨rfl, fun _ _ h => h, fun _ _ h => Or.inl h⟩
  | false :: _, [] => ⟨rfl, fun _ _ h => h, fun _ _ h => Or.inl h⟩
  | true :: m, x :: ls => by
    obtain ⟨h1, h2, h3⟩ := zmask_le m ls
    refine ⟨by simp [zmask, h1], fun i v h => ?_, fun i v h => ?_⟩
    · cases i with
      | zero => exact h
      | succ i => exact h2 i v h
    · cases i with
      | zero => exact Or.inl h
      | succ i => exact h3 i v h
  | false :: m, x :: ls => by
    obtain ⟨h1, h2, h3⟩ := zmask_le m ls
    refine ⟨by simp [zmask, h1], fun i v h => ?_, fun i v h => ?_⟩
    · cases i with
      | zero =>
        simp only [zmask, List.getElem?_cons_zero, Option.some.injEq] at h ⊢
        cases x with
        | none => cases h
        | some w => cases w <;> first | exact h | cases h
      | succ i => exact h2 i v h
    · cases i with
      | zero =>
        simp only [zmask, List.getElem?_cons_zero, Option.some.injEq] at h ⊢
        subst h
        cases v <;> first | exact Or.inl rfl | exact Or.inr rfl
      | succ i => exact h3 i v h
/-- many steps, up to the places of cuts; what is known of the locals there -/
def zcut (cuts : List (Nat × List Bool)) : List zI → Option (List Bool)
  | [] => none
  | (pc, _, _) :: _ => zlk0 cuts pc
def zsg (M : zM) (post : Option Value → zH → Prop) (cuts : List (Nat × List Bool)) : Nat → List zI → List (Option Value) → List Value → zH → Prop
  | 0, is, ls, st, h => zG M post is ls st h
  | n + 1, is, ls, st, h => zstL M post is ls st h (fun is ls st h => match zcut cuts is with
    | some m => zG M post is (zmask m ls) st h
    | none => zsg M post cuts n is ls st h)
theorem zsg_sound {M : zM} {post : Option Value → zH → Prop} {cuts : List (Nat × List Bool)} : ∀ (n : Nat) {is : List zI} {ls : List (Option Value)} {st : List Value} {h : zH}, zsg M post cuts n is ls st h → zG M post is ls st h
  | 0, _, _, _, _, hs => hs
  | n + 1, _, _, _, _, hs => zG_step (zstL_mono (fun is ls st h q => by
    split at q
    · exact zG_le (zmask_le _ _) q
    · exact zsg_sound n q) hs)
/-- what stands at a place of the code -/
def zat (M : zM) (pc : Nat) : List zI := M.1.dropWhile (fun e => !(Nat.beq e.1 pc))
