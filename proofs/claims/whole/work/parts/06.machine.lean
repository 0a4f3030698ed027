/-! THE SMALL MACHINE: the system's bytecode over a world of numbered cells. A cell is a row of ints (boolean or int, its length) or an object (class number, fields: an int stands for 'the memory has it', a reference for the cell of that number). The memory holds all ints: cell, place. -/
abbrev lc_C : Type := (Bool × Nat) ⊕ (Nat × List Value)
abbrev lc_Sh : Type := List lc_C
abbrev lc_M : Type := Nat → Nat → Int32
abbrev lc_Res : Type := Option Value × lc_Sh × lc_M
/-- one cell's ints anew -/
def lc_set (M : lc_M) (r : Nat) (f : Nat → Int32) : lc_M := fun q => if q = r then f else M q
def lc_up (M : lc_M) (r j : Nat) (x : Int32) : lc_M := lc_set M r (upd (M r) j x)
/-- a value of one word into a local; one of two words that it cuts is gone -/
def lc_st1 (ls : List Value) (i : Nat) (v : Value) : List Value := match i with
  | 0 => ls.set 0 v
  | j + 1 => match ls[j]? with
    | some (.long _) => (ls.set j .null).set (j + 1) v
    | some (.double _) => (ls.set j .null).set (j + 1) v
    | _ => ls.set (j + 1) v
def lc_st2 (ls : List Value) (i : Nat) (v : Value) : List Value := lc_st1 (ls.set (i + 1) .null) i v
/-- the locals at a method's entry -/
def lc_exl : List Value → List Value
  | [] => []
  | .long x :: t => .long x :: .null :: lc_exl t
  | .double x :: t => .double x :: .null :: lc_exl t
  | v :: t => v :: lc_exl t
def lc_pad : Nat → List Value → List Value
  | 0, _ => []
  | n + 1, [] => .null :: lc_pad n []
  | n + 1, v :: t => v :: lc_pad n t
def lc_ent (k : Nat) (as : List Value) : List Value := lc_pad (lc_mL k) (lc_exl as)
/-- all references lie below n -/
def lc_wf (n : Nat) : List Value → Bool
  | [] => true
  | .ref r :: t => Nat.blt r n && lc_wf n t
  | _ :: t => lc_wf n t
def lc_wfS (n : Nat) : lc_Sh → Bool
  | [] => true
  | .inr (_, fs) :: t => lc_wf n fs && lc_wfS n t
  | .inl _ :: t => lc_wfS n t
def lc_size : lc_C → Nat
  | .inl (_, n) => n
  | .inr (_, fs) => fs.length
def lc_sz : lc_Sh → Nat
  | [] => 0
  | c :: t => lc_size c + lc_sz t
def lc_if {α : Type} (c : ClassFile.Cond) (x y : Int32) (A B : α) : α := match c with
  | .eq => if x = y then A else B
  | .ne => if ¬ x = y then A else B
  | .lt => if x < y then A else B
  | .ge => if y ≤ x then A else B
  | .gt => if y < x then A else B
  | .le => if x ≤ y then A else B
def lc_sw {α : Type} (x j : Int32) (d : Nat) (f : Nat → α) : List Nat → α
  | [] => f d
  | t :: ts => if x = j then f t else lc_sw x (j + 1) d f ts
/-- arguments off the stack, in their order, and what lies below -/
def lc_pop : Nat → List Value → List Value → Option (List Value × List Value)
  | 0, as, st => some (as, st)
  | n + 1, as, v :: st => lc_pop n (v :: as) st
  | _ + 1, _, [] => none
def lc_few : List Value → Bool
  | [] => true
  | [_] => true
  | [_, _] => true
  | [_, _, _] => true
  | [_, _, _, _] => true
  | _ => false
/-- what neither asks nor touches the cells: how far it goes, locals, stack -/
def lc_pure (i : Instr) (a : Nat) (v : Int32) (w : Int64) (ls st : List Value) : Option (Nat × List Value × List Value) :=
  match i with
  | .iconst _ => some (1, ls, .int v :: st)
  | .bipush _ => some (2, ls, .int v :: st)
  | .sipush _ => some (3, ls, .int v :: st)
  | .ldc _ => some (2, ls, .int v :: st)
  | .ldc_w _ => some (3, ls, .int v :: st)
  | .lconst _ => some (1, ls, .long w :: st)
  | .ldc2_w _ => some (3, ls, .long w :: st)
  | .iload_n _ => match ls[a]? with
    | some (.int x) => some (1, ls, .int x :: st)
    | _ => none
  | .iload _ => match ls[a]? with
    | some (.int x) => some (2, ls, .int x :: st)
    | _ => none
  | .aload_n _ => match ls[a]? with
    | some (.ref x) => some (1, ls, .ref x :: st)
    | _ => none
  | .aload _ => match ls[a]? with
    | some (.ref x) => some (2, ls, .ref x :: st)
    | _ => none
  | .lload_n _ => match ls[a]? with
    | some (.long x) => some (1, ls, .long x :: st)
    | _ => none
  | .lload _ => match ls[a]? with
    | some (.long x) => some (2, ls, .long x :: st)
    | _ => none
  | .istore_n _ => match st with
    | .int x :: st => bif Nat.blt a ls.length then some (1, lc_st1 ls a (.int x), st) else none
    | _ => none
  | .istore _ => match st with
    | .int x :: st => bif Nat.blt a ls.length then some (2, lc_st1 ls a (.int x), st) else none
    | _ => none
  | .lstore_n _ => match st with
    | .long x :: st => bif Nat.blt (a + 1) ls.length then some (1, lc_st2 ls a (.long x), st) else none
    | _ => none
  | .iinc _ _ => match ls[a]? with
    | some (.int x) => some (3, lc_st1 ls a (.int (x + v)), st)
    | _ => none
  | .iadd => match st with
    | .int y :: .int x :: st => some (1, ls, .int (x + y) :: st)
    | _ => none
  | .isub => match st with
    | .int y :: .int x :: st => some (1, ls, .int (x - y) :: st)
    | _ => none
  | .imul => match st with
    | .int y :: .int x :: st => some (1, ls, .int (x * y) :: st)
    | _ => none
  | .iand => match st with
    | .int y :: .int x :: st => some (1, ls, .int (x &&& y) :: st)
    | _ => none
  | .ior => match st with
    | .int y :: .int x :: st => some (1, ls, .int (x ||| y) :: st)
    | _ => none
  | .ixor => match st with
    | .int y :: .int x :: st => some (1, ls, .int (x ^^^ y) :: st)
    | _ => none
  | .ishl => match st with
    | .int y :: .int x :: st => some (1, ls, .int (x <<< (y &&& 31)) :: st)
    | _ => none
  | .ishr => match st with
    | .int y :: .int x :: st => some (1, ls, .int (x >>> (y &&& 31)) :: st)
    | _ => none
  | .iushr => match st with
    | .int y :: .int x :: st => some (1, ls, .int (x.toUInt32 >>> (y.toUInt32 &&& Int32.toUInt32 31)).toInt32 :: st)
    | _ => none
  | .ladd => match st with
    | .long y :: .long x :: st => some (1, ls, .long (x + y) :: st)
    | _ => none
  | .lsub => match st with
    | .long y :: .long x :: st => some (1, ls, .long (x - y) :: st)
    | _ => none
  | .lmul => match st with
    | .long y :: .long x :: st => some (1, ls, .long (x * y) :: st)
    | _ => none
  | .lcmp => match st with
    | .long y :: .long x :: st => some (1, ls, .int (lg_cmp x y) :: st)
    | _ => none
  | .i2l => match st with
    | .int x :: st => some (1, ls, .long x.toInt64 :: st)
    | _ => none
  | .l2i => match st with
    | .long x :: st => some (1, ls, .int x.toInt32 :: st)
    | _ => none
  | .dup => match st with
    | .int x :: st => some (1, ls, .int x :: .int x :: st)
    | .ref x :: st => some (1, ls, .ref x :: .ref x :: st)
    | _ => none
  | .pop => match st with
    | .int _ :: st => some (1, ls, st)
    | _ => none
  | .dup2 => match st with
    | .int y :: .ref x :: st => some (1, ls, .int y :: .ref x :: .int y :: .ref x :: st)
    | _ => none
  | _ => none
/-- a run from a frame on: depth that is left, method, pc, locals, stack, cells, memory -/
abbrev lc_F : Type := Nat → Nat → Nat → List Value → List Value → lc_Sh → lc_M → Option lc_Res
def lc_getf (f : List Value → Option lc_Res) (a b : Nat) (st : List Value) (Sh : lc_Sh) (M : lc_M) : Option lc_Res := match st with
  | .ref r :: st => match Sh[r]? with
    | some (.inr (ci, fs)) => bif Nat.beq ci a then (match fs[b]? with
      | some (.int _) => f (.int (M r b) :: st)
      | some (.ref q) => f (.ref q :: st)
      | _ => none) else none
    | _ => none
  | _ => none
def lc_putf (f : List Value → lc_Sh → lc_M → Option lc_Res) (a b : Nat) (st : List Value) (Sh : lc_Sh) (M : lc_M) : Option lc_Res := match st with
  | .int x :: .ref r :: st => match Sh[r]? with
    | some (.inr (ci, fs)) => bif Nat.beq ci a then (match fs[b]?, lc_ty a b with
      | some (.int _), .int => f st Sh (lc_up M r b x)
      | _, _ => none) else none
    | _ => none
  | .ref q :: .ref r :: st => match Sh[r]? with
    | some (.inr (ci, fs)) => bif Nat.beq ci a then (match fs[b]?, lc_ty a b with
      | some .null, .object _ => f st (Sh.set r (.inr (ci, fs.set b (.ref q)))) M
      | some .null, .array _ => f st (Sh.set r (.inr (ci, fs.set b (.ref q)))) M
      | _, _ => none) else none
    | _ => none
  | _ => none
def lc_ald (z : Bool) (f : List Value → Option lc_Res) (st : List Value) (Sh : lc_Sh) (M : lc_M) : Option lc_Res := match st with
  | .int j :: .ref r :: st => match Sh[r]? with
    | some (.inl (y, len)) => bif y == z then (if ¬ (j < 0 ∨ len ≤ j.toNatClampNeg) then f (.int (M r j.toNatClampNeg) :: st) else none) else none
    | _ => none
  | _ => none
def lc_ast (z : Bool) (f : List Value → lc_M → Option lc_Res) (st : List Value) (Sh : lc_Sh) (M : lc_M) : Option lc_Res := match st with
  | .int x :: .int j :: .ref r :: st => match Sh[r]? with
    | some (.inl (y, len)) => bif y == z then (if ¬ (j < 0 ∨ len ≤ j.toNatClampNeg) then f st (lc_up M r j.toNatClampNeg (bif z then vp_nar .boolean x else x)) else none) else none
    | _ => none
  | _ => none
def lc_cpy (f : List Value → lc_M → Option lc_Res) (st : List Value) (Sh : lc_Sh) (M : lc_M) : Option lc_Res := match st with
  | .int len :: .int dp :: .ref r1 :: .int sp :: .ref r0 :: st => match Sh[r0]?, Sh[r1]? with
    | some (.inl (false, n0)), some (.inl (false, n1)) => bif lc_few st then (if ¬ sp < 0 ∧ ¬ dp < 0 ∧ ¬ len < 0 ∧ sp.toNatClampNeg + len.toNatClampNeg ≤ n0 ∧ dp.toNatClampNeg + len.toNatClampNeg ≤ n1 then f st (lc_set M r1 (va_cpy (M r0) (M r1) sp.toNatClampNeg dp.toNatClampNeg len.toNatClampNeg)) else none) else none
    | _, _ => none
  | _ => none
/-- behind a call: an int or nothing comes back, and no cell is new -/
def lc_back (n0 : Nat) (f : List Value → lc_Sh → lc_M → Option lc_Res) (st : List Value) : Option lc_Res → Option lc_Res
  | some (none, Sh', M') => bif Nat.beq Sh'.length n0 then f st Sh' M' else none
  | some (some (.int x), Sh', M') => bif Nat.beq Sh'.length n0 then f (.int x :: st) Sh' M' else none
  | _ => none
def lc_backI (n0 : Nat) (ok : Bool) (f : lc_Sh → lc_M → Option lc_Res) : Option lc_Res → Option lc_Res
  | some (none, Sh', M') => bif Nat.beq Sh'.length n0 || ok then f Sh' M' else none
  | _ => none
def lc_body (f : lc_F) : lc_F := fun d k pc ls st Sh M =>
  match lc_fetch k pc with
  | none => none
  | some (i, a, b, v, w, _, ts) =>
    match lc_pure i a v w ls st with
    | some (c, ls', st') => f d k (pc + c) ls' st' Sh M
    | none =>
      match i with
      | .idiv => match st with
        | .int y :: .int x :: st => if y = 0 then none else f d k (pc + 1) ls (.int (x / y) :: st) Sh M
        | _ => none
      | .irem => match st with
        | .int y :: .int x :: st => if y = 0 then none else f d k (pc + 1) ls (.int (x - x / y * y) :: st) Sh M
        | _ => none
      | .ldiv => match st with
        | .long y :: .long x :: st => if y = 0 then none else f d k (pc + 1) ls (.long (x / y) :: st) Sh M
        | _ => none
      | .lrem => match st with
        | .long y :: .long x :: st => if y = 0 then none else f d k (pc + 1) ls (.long (x - x / y * y) :: st) Sh M
        | _ => none
      | .if_icmp c _ => match st with
        | .int y :: .int x :: st => lc_if c x y (f d k b ls st Sh M) (f d k (pc + 3) ls st Sh M)
        | _ => none
      | .ifCond c _ => match st with
        | .int x :: st => lc_if c x 0 (f d k b ls st Sh M) (f d k (pc + 3) ls st Sh M)
        | _ => none
      | .goto _ => f d k b ls st Sh M
      | .tableswitch _ _ _ _ => match st with
        | .int x :: st => lc_sw x 0 b (fun t => f d k t ls st Sh M) ts
        | _ => none
      | .getfield _ => lc_getf (fun st => f d k (pc + 3) ls st Sh M) a b st Sh M
      | .putfield _ => lc_putf (fun st Sh M => f d k (pc + 3) ls st Sh M) a b st Sh M
      | .iaload => lc_ald false (fun st => f d k (pc + 1) ls st Sh M) st Sh M
      | .baload => lc_ald true (fun st => f d k (pc + 1) ls st Sh M) st Sh M
      | .iastore => lc_ast false (fun st M => f d k (pc + 1) ls st Sh M) st Sh M
      | .bastore => lc_ast true (fun st M => f d k (pc + 1) ls st Sh M) st Sh M
      | .new _ => bif lc_wfS Sh.length Sh && lc_wf Sh.length ls && lc_wf Sh.length st then f d k (pc + 3) ls (.ref Sh.length :: st) (Sh ++ [.inr (a, lc_dfl a)]) (lc_set M Sh.length (fun _ => 0)) else none
      | .newarray t => match st with
        | .int x :: st => if x < 0 ∨ 100000 < x.toNatClampNeg then none else bif lc_wfS Sh.length Sh && lc_wf Sh.length ls && lc_wf Sh.length st then (match t with
          | .int => f d k (pc + 2) ls (.ref Sh.length :: st) (Sh ++ [.inl (false, x.toNatClampNeg)]) (lc_set M Sh.length (fun _ => 0))
          | .boolean => f d k (pc + 2) ls (.ref Sh.length :: st) (Sh ++ [.inl (true, x.toNatClampNeg)]) (lc_set M Sh.length (fun _ => 0))
          | _ => none) else none
        | _ => none
      | .invokespecial _ => match d with
        | 0 => none
        | d' + 1 => match b with
          | 1 => match st with
            | .ref _ :: st => bif lc_few st then f (d' + 1) k (pc + 3) ls st Sh M else none
            | _ => none
          | 0 => match lc_pop (lc_mN a) [] st with
            | some (as, .ref r :: st) => bif lc_few st && Nat.ble (lc_exl (.ref r :: as)).length (lc_mL a) then lc_backI Sh.length (lc_wf Sh.length ls && lc_wf Sh.length st) (fun Sh' M' => f (d' + 1) k (pc + 3) ls st Sh' M') (f d' a 0 (lc_ent a (.ref r :: as)) [] Sh M) else none
            | _ => none
          | _ => none
      | .invokevirtual _ => match d with
        | 0 => none
        | d' + 1 => match lc_pop (lc_mN a) [] st with
          | some (as, .ref r :: st) => match Sh[r]? with
            | some (.inr (ci, _)) => bif Nat.beq ci b && lc_few st && Nat.ble (lc_exl (.ref r :: as)).length (lc_mL a) then lc_back Sh.length (fun st' Sh' M' => f (d' + 1) k (pc + 3) ls st' Sh' M') st (f d' a 0 (lc_ent a (.ref r :: as)) [] Sh M) else none
            | _ => none
          | _ => none
      | .invokestatic _ => match d with
        | 0 => none
        | d' + 1 => match b with
          | 2 => lc_cpy (fun st M => f (d' + 1) k (pc + 3) ls st Sh M) st Sh M
          | 4 => match st with
            | .int y :: .int x :: st => bif lc_few st then f (d' + 1) k (pc + 3) ls (.int (if x < y then y else x) :: st) Sh M else none
            | _ => none
          | 5 => match st with
            | .int y :: .int x :: st => bif lc_few st then f (d' + 1) k (pc + 3) ls (.int (if y < x then y else x) :: st) Sh M else none
            | _ => none
          | _ => match lc_pop (lc_mN a) [] st with
            | some (as, st) => bif lc_few st && Nat.ble (lc_exl as).length (lc_mL a) then lc_back Sh.length (fun st' Sh' M' => f (d' + 1) k (pc + 3) ls st' Sh' M') st (f d' a 0 (lc_ent a as) [] Sh M) else none
            | _ => none
      | .ireturn => match st with
        | [.int x] => match lc_mR k with
          | some .int => some (some (.int x), Sh, M)
          | some .boolean => if x = 0 ∨ x = 1 then some (some (.int x), Sh, M) else none
          | _ => none
        | _ => none
      | .return_ => match st with
        | [] => match lc_mR k with
          | none => some (none, Sh, M)
          | _ => none
        | _ => none
      | _ => none
def lc_run : Nat → lc_F
  | 0 => fun _ _ _ _ _ _ _ => none
  | n + 1 => lc_body (lc_run n)
theorem lc_test : (lc_run 2000 8 73 0 (lc_ent 73 [.ref 0]) [] [.inr (10, lc_dfl 10)] (fun _ _ => 0)).isSome = true := by decide +kernel
