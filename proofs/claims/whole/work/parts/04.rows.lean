/-! what a row of the code says is so: decided by the kernel, method by method -/
def lc_pc (j : Nat) : List Cond := match j with
  | 0 => k2_sels lw_privs
  | 1 => tables_1_1
  | 2 => tables_1_2
  | 3 => tables_1_3
  | 4 => tables_1_4
  | 5 => tables_1_5
  | _ => tables_1_6
def lc_isW (p : Nat) (w : Cond) : Bool := decide ((lc_pc (p / 256))[p % 256]? = some w)
theorem lc_pc_in (j : Nat) : ∀ w ∈ lc_pc j, w ∈ lw_tbl := by
  intro w hw
  unfold lw_tbl tables_1
  simp only [List.mem_append]
  match j, hw with
  | 0, hw => exact Or.inl hw
  | 1, hw => exact Or.inr (Or.inl hw)
  | 2, hw => exact Or.inr (Or.inr (Or.inl hw))
  | 3, hw => exact Or.inr (Or.inr (Or.inr (Or.inl hw)))
  | 4, hw => exact Or.inr (Or.inr (Or.inr (Or.inr (Or.inl hw))))
  | 5, hw => exact Or.inr (Or.inr (Or.inr (Or.inr (Or.inr (Or.inl hw)))))
  | j + 6, hw => exact Or.inr (Or.inr (Or.inr (Or.inr (Or.inr (Or.inr hw)))))
theorem lc_isW_in {p : Nat} {w : Cond} (h : lc_isW p w = true) : w ∈ lw_tbl := lc_pc_in _ w (List.mem_of_getElem? (of_decide_eq_true h))
def lc_fld (a b : Nat) : Option (String × String × String × Bool) := match lc_cl[a]? with
  | some (_, T, N) => if b < N then some (T b) else none
  | none => none
def lc_dec (k pc : Nat) (i : Instr) (n : Nat) : Bool := decide (decode (lc_mC k) pc = .ok (i, n))
def lc_swok (pc : Nat) : List Nat → List Int → Bool
  | [], [] => true
  | t :: ts, o :: os => decide ((pc : Int) + o = (t : Int)) && lc_swok pc ts os
  | _, _ => false
def lc_rok (k pc : Nat) : Option lc_Row → Bool
  | none => true
  | some (i, a, b, v, w, p, ts) => match i with
    | .iconst c => lc_dec k pc i 1 && decide (Int32.ofInt c = v)
    | .bipush c => lc_dec k pc i 2 && decide ((Int8.ofInt c).toInt32 = v)
    | .sipush c => lc_dec k pc i 3 && decide ((Int16.ofInt c).toInt32 = v)
    | .ldc x => lc_dec k pc i 2 && lc_isW p (.constant (lc_mY k).cls x v)
    | .ldc_w x => lc_dec k pc i 3 && lc_isW p (.constant (lc_mY k).cls x v)
    | .lconst c => lc_dec k pc i 1 && decide (Int64.ofNat (c : Nat) = w)
    | .ldc2_w x => lc_dec k pc i 3 && lc_isW p (.constantLong (lc_mY k).cls x w)
    | .iload_n x | .aload_n x | .lload_n x | .istore_n x | .lstore_n x => lc_dec k pc i 1 && decide ((x : Nat) = a)
    | .iload x | .aload x | .lload x | .istore x => lc_dec k pc i 2 && decide (x = a)
    | .iinc x c => lc_dec k pc i 3 && decide (x = a) && decide (Int32.ofInt c = v)
    | .if_icmp _ o | .ifCond _ o | .goto o => lc_dec k pc i 3 && decide ((pc : Int) + o = (b : Int))
    | .tableswitch d lo hi os => lc_dec k pc i p && decide (lo = 0) && decide (hi + 1 = (ts.length : Int)) && decide ((pc : Int) + d = (b : Int)) && lc_swok pc ts os.toList && decide (ts.length < 100)
    | .getfield x => lc_dec k pc i 3 && (match lc_fld a b with
      | some (O, f, ds, _) => lc_isW p (.fieldLink (lc_mY k).cls x O f ds)
      | none => false)
    | .putfield x => lc_dec k pc i 3 && (match lc_fld a b with
      | some (O, f, ds, fin) => lc_isW p (.fieldLink (lc_mY k).cls x O f ds) && (!fin || (decide ((lc_mY k).name = "<init>") && decide (O = (lc_mY k).cls)))
      | none => false)
    | .new x => lc_dec k pc i 3 && (match lc_cl[a]? with
      | some (C, _, _) => lc_isW p (.classLink (lc_mY k).cls x C)
      | none => false)
    | .newarray _ => lc_dec k pc i 2
    | .invokespecial x => lc_dec k pc i 3 && (match b with
      | 1 => lc_isW p (.methodLink (lc_mY k).cls x Lib.objectInit)
      | _ => decide (a < lc_NM) && decide ((lc_mY a).name = "<init>") && lc_isW p (.methodLink (lc_mY k).cls x (lc_mY a)))
    | .invokevirtual x => lc_dec k pc i 3 && decide (a < lc_NM) && !(lc_mP a).2.2.2.2 && decide (¬ (lc_mY a).name = "<init>") && decide ((lc_cl[b]?).map (fun q => q.1) = some (lc_mY a).cls) && lc_isW p (.methodLink (lc_mY k).cls x (lc_mY a))
    | .invokestatic x => lc_dec k pc i 3 && (match b with
      | 2 => lc_isW p (.methodLink (lc_mY k).cls x arraycopyName)
      | 4 => lc_isW p (.methodLink (lc_mY k).cls x Lib.Math.max.name)
      | 5 => lc_isW p (.methodLink (lc_mY k).cls x Lib.Math.min.name)
      | 3 => decide (a < lc_NM) && (lc_mP a).2.2.2.2 && lc_isW p (.methodLinkNest (lc_mY k).cls x (lc_mY a) "LaceLines")
      | _ => decide (a < lc_NM) && (lc_mP a).2.2.2.2 && lc_isW p (.methodLink (lc_mY k).cls x (lc_mY a)))
    | _ => lc_dec k pc i 1
def lc_allW : List Cond → List Nat → Bool
  | [], _ => true
  | w :: ws, p :: ps => lc_isW p w && lc_allW ws ps
  | _ :: _, [] => false
/-- a method's own words -/
def lc_mok (k : Nat) : Bool := match lc_mP k with
  | (p0, p1, p2, p3, sta) => lc_isW p0 (.code (lc_mY k) (lc_mC k) (lc_mL k) (lc_mR k)) && lc_isW p1 (.initialized (lc_mY k).cls) &&
    (bif sta then lc_isW p2 (.static (lc_mY k)) else lc_isW p2 (.instanceMethod (lc_mY k)) && (decide ((lc_mY k).name = "<init>") || lc_isW p3 (.selects (lc_mY k).cls (lc_mY k) (lc_mY k)))) &&
    plainName (lc_mY k).cls && decide ((lc_mY k).cls ≠ "java/lang/invoke/MethodHandle") && decide ((lc_mY k).cls ≠ "java/lang/invoke/VarHandle") &&
    decide ((parseMethodDescriptor (lc_mY k).desc).map (fun d => d.parameters.length) = some (lc_mN k)) && decide (lc_mL k ≤ 8) && (decide (¬ (lc_mY k).name = "<init>") || decide (lc_mR k = none))
