/-! the law, walked once for all its calls -/
def R_law : String := "LaceLinesLaw"
def lw_P (b : Addr) (xs : List Int32) (args : Array Value) (s : State) : Prop := args = #[.ref b] ∧ s.IntsAt b xs ∧ xs.length ≤ 192 ∧ (Jvm.Cond.and given_1 narrow_1).before args s = true
def lw_Q (_ : Array Value) (s : State) (o : Outcome) (t : State) : Prop := o = .returned (some (.int 1)) ∧ Framed s o t [] 59 2926
def lw_Z (below : List Frame) (a : Array Value) (s : State) : State → Prop := fun t => ∃ o, t.status = .running ∧ Ended t below o ∧ lw_Q a s o t
/-- the law's own end, with 1 on the stack, nothing written that was there before, its room as the claim has it -/
theorem lw_ret {p : Program} {l : Launch} {e : Env} {s : State} {m : MethodId} {below : List Frame} {meth : Method} {c : Code} {b : Nat} (hx : p.tables.exec = Jvm.exec) (hb : c.code = code) (hr : meth.sig.returnType = ret) (hlocks : meth.locks = false) {pc : Nat} {H : Heap} {ls : Array Slot} (hdg : decode code pc = .ok (.ireturn, 1)) : W p l e room_1 s m #[Value.ref b] below meth c H [] 59 2926 (lw_Z below #[Value.ref b] s) (F0 m pc ls [.int 1]) := by
  intro T hT X
  obtain ⟨fs, hret, hrun, hended, hW, hframe⟩ := X.leave (v := some (.int 1)) (hlocks := hlocks) (fun h => by rw [hr] at h; cases h)
  have hmeth' : T.vm.method? m = some meth := X.method'
  refine ⟨T.setFrames fs, ?_, .returned (some (.int 1)), hrun, hended, rfl, ⟨_, rfl⟩, hW, hframe⟩
  jvm_step X.here [X.here.top, hx, hb, hdg, hmeth', hr, ret, narrow_b1]
  (try refine ⟨rfl, ?_⟩); (try refine ⟨rfl, ?_⟩)
  first | (intro acts; rw [hret _ acts rfl rfl rfl]) | rw [hret _ _ rfl rfl rfl]
  exact Steps.refl _
def lw_At (p : Program) (s : State) (m : MethodId) (meth : Method) (c : Code) (b L : Nat) (xs : Nat → Int32) : Prop :=
  p.tables.exec = Jvm.exec ∧ c.code = code ∧ meth.sig.returnType = ret ∧ c.maxLocals = 4 ∧ s.vm.findClass R_law = some m.cls ∧ (∀ w ∈ lw_tbl, w.before #[Value.ref b] s = true) ∧ va_X b L xs s s.heap ∧ b < s.heap.size ∧ meth.locks = false ∧ (Jvm.Cond.and given_1 narrow_1).before #[Value.ref b] s = true
/-- a method that the law may call on the cell rc -/
def lc_lawM (k rc np : Nat) : Bool := decide (k < lc_NM) && !(lc_mP k).2.2.2.2 && decide (¬ (lc_mY k).name = "<init>") && decide (lc_mN k = np) && decide (np + 1 ≤ lc_mL k) &&
  (match lc_SH[rc]? with
  | some (.inr (ci, _)) => decide ((lc_cl[ci]?).map (fun q => q.1) = some (lc_mY k).cls)
  | _ => false)
def lc_ints (np : Nat) (a b : Int32) : List Value := match np with
  | 0 => []
  | 1 => [.int a]
  | _ => [.int a, .int b]
theorem lc_ints_len {np : Nat} {a b : Int32} (h : np ≤ 2) : (lc_ints np a b).length = np ∧ ∀ r, (lc_exl (.ref r :: lc_ints np a b)).length = np + 1 := by
  match np, h with
  | 0, _ => exact ⟨rfl, fun _ => rfl⟩
  | 1, _ => exact ⟨rfl, fun _ => rfl⟩
  | 2, _ => exact ⟨rfl, fun _ => rfl⟩
theorem lc_ints_em {np : Nat} {a b : Int32} {ad : Nat → Nat} : (lc_ints np a b).map (lc_em ad) = lc_ints np a b := by
  unfold lc_ints
  split <;> rfl
section LcLaw
variable {p : Program} {l : Launch} {e : Env} {s : State} {m : MethodId} {below : List Frame} {meth : Method} {c : Code} {b L : Nat} {xs : Nat → Int32} {D : va_G} {cI cZ : ClassId} {ad : Nat → Nat} {M : lc_M} {H : Heap} {locs : List Loc} {Q : State → Prop}
theorem lc_Nz_law {args : Array Value} (hts : ∀ w ∈ lw_tbl, w.before args s = true) : lc_Nz s := fun a i x h hm => va_Nw.of rfl (hts _ hm)
theorem lc_tt_law {args : Array Value} (hts : ∀ w ∈ lw_tbl, w.before args s = true) : ∀ w ∈ lc_tt, w.before args s = true := fun w hw => hts w (List.mem_filter.mp hw).1
/-- one call of the law -/
theorem lc_lawcall (C0 : lw_At p s m meth c b L xs) (hK : va_K D lc_cl (lc_tys cI cZ) s) {pc x pl k rc np : Nat} {a0 a1 r : Int32} {ls : Array Slot} {rest : List Value} {M' : lc_M} (hsz : ls.size = 4) (hnp : np ≤ 2) (hmk : lc_lawM k rc np = true) (hlk : lc_isW pl (.methodLink R_law x (lc_mY k)) = true) (hd : decode code pc = .ok (.invokevirtual x, 3))
    (hrest : (rest.map fun v => v.category).sum ≤ 8) (hv : lc_val 8 k 0 (lc_ent k (.ref rc :: lc_ints np a0 a1)) [] lc_SH M = some (some (.int r), lc_SH, M'))
    (hP : va_P D lc_cl (lc_ws ad cI cZ lc_SH M) H) (hD : va_D (fun q => s.heap.size ≤ q) (lc_ws ad cI cZ lc_SH M)) (hS : va_S (fun q => s.heap.size ≤ q) s.heap H locs)
    (kk : ∀ (H1 : Heap) (locs1 : List Loc), va_P D lc_cl (lc_ws ad cI cZ lc_SH M') H1 → va_D (fun q => s.heap.size ≤ q) (lc_ws ad cI cZ lc_SH M') → va_S (fun q => s.heap.size ≤ q) s.heap H1 locs1 → W p l e room_1 s m #[Value.ref b] below meth c H1 locs1 59 2926 Q (F0 m (pc + 3) ls (.int r :: rest))) :
    W p l e room_1 s m #[Value.ref b] below meth c H locs 59 2926 Q (F0 m pc ls ((lc_ints np a0 a1).reverse ++ .ref (ad rc) :: rest)) := by
  obtain ⟨hx, hb, hr, hml, hown, hts0, hX, hbl, hlocks, hgv⟩ := C0
  have hts := lc_tt_law hts0
  have hN := lc_Nz_law hts0
  obtain ⟨n, hn⟩ := lc_val_run hv
  unfold lc_lawM at hmk
  simp only [Bool.and_eq_true, decide_eq_true_eq, Bool.not_eq_true'] at hmk
  obtain ⟨⟨⟨⟨⟨ha, hst⟩, hni⟩, hmn⟩, hmL⟩, hcls⟩ := hmk
  obtain ⟨hl1, hl2⟩ := lc_ints_len (a := a0) (b := a1) hnp
  obtain ⟨f1, f2, -, f3, -, f5, f6, -⟩ := lc_mfacts ha
  obtain ⟨g1, g2⟩ := f3 hst
  have g3 : Cond.selects (lc_mY k).cls (lc_mY k) (lc_mY k) ∈ lw_tbl := g2.resolve_left hni
  have hrec : ∃ cell : Cell, H[ad rc]? = some cell ∧ cell.vm.isStatics = false ∧ s.vm.findClass (lc_mY k).cls = some cell.cls := by
    split at hcls
    · rename_i ci fs hs
      simp only [decide_eq_true_eq] at hcls
      cases hq : lc_cl[ci]? with
      | none => rw [hq] at hcls; cases hcls
      | some q =>
        rw [hq] at hcls
        have hqc : q.1 = (lc_mY k).cls := Option.some.inj hcls
        have := va_recv (s := s) (H := H) hK hP hq (lc_ws_at hs)
        rw [hqc] at this
        exact this
    · cases hcls
  have hM1 : lc_Con l s.heap.size D cI cZ ad 8 k (.ref rc :: lc_ints np a0 a1) lc_SH M (some (.int r), lc_SH, M') := lc_con (lc_sound n) ha (by rw [hl2]; exact hmL) hn
  have hcw : CallW room_1 s #[Value.ref b] R_law (lc_mY k).cls x (lc_mY k) (lc_mC k) (lc_mL k) (lc_mR k) (lc_w k) (lc_rm 8 lc_SH lc_SH) (lc_SH.length - lc_SH.length) (lc_sz lc_SH - lc_sz lc_SH) (lc_mN k) :=
    ⟨callB_of (Ts := lc_tt) (lc_mN k) hts (lc_good ha) rfl rfl rfl (hts _ (lc_tt_in f2 rfl)) (hts _ (lc_isW_tt hlk rfl)) f5 ⟨Nat.le_of_ble_eq_true rfl, by show 8 + (lc_mL k + 11) + 27 * 8 ≤ 322; omega⟩, hts _ (lc_tt_in g1 rfl), hts _ (lc_tt_in g3 rfl)⟩
  have hrun := va_runV (e := e) (below := below) (meth := meth) (locs := locs) (cells := 59) (slots := 2926) (g := F0 m pc ls ((lc_ints np a0 a1).reverse ++ .ref (ad rc) :: rest)) (As := lc_ints np a0 a1) (rest := rest) (b := ad rc) (p := p) (c := c) (cc := code) (nL := 4) (Ts := lc_tt) ⟨hx, hb, hml, hown, hts⟩ hM1 hcw ⟨lc_blind, hrec, fun U hU hW => ⟨by rw [List.map_cons, lc_ints_em]; rfl, by rw [hU]; exact hS.1, by rw [hU]; exact hP, va_K.moved hW.alike hK, hD, hN.warm hW⟩⟩ rfl (by rw [hl1, hmn]) hsz rfl (lv_room hrest) hd ⟨by rw [Nat.sub_self]; exact Nat.le_refl _, by rw [Nat.sub_self]; exact Nat.le_refl _⟩
  refine lc_call hrun (fun v st₀ t Lc h0 hLf hal hq => ?_)
  obtain ⟨ad', ha', hv', hP', hD', hK', hF⟩ := hq
  cases hv'
  have he : ad' = ad := funext fun i => ha' i (fun z => by have := z.1; have := z.2; dsimp only at *; omega)
  subst he
  rw [Nat.sub_self, Nat.sub_self]
  have hF1 := hF.1
  have hF2 := hF.2
  rw [h0] at hF1 hF2
  refine kk t.heap (locs ++ Lc) hP' hD' ⟨Nat.le_trans hS.1 hF1, fun q z1 z2 => (hF2 q (Nat.lt_of_lt_of_le z1 hS.1) z2).trans (hS.2.1 q z1 z2), fun q hq => ?_⟩
  rcases List.mem_append.mp hq with z | z
  · exact hS.2.2 q z
  · exact hLf q z
/-- the bytes of one branch of the law -/
def lc_dl (pc : Nat) (i : Instr) (n : Nat) : Bool := decide (decode code pc = .ok (i, n))
def lc_arg1 (pc : Nat) : Bool := lc_dl pc (.aload_n 0) 1 && lc_dl (pc + 1) (.iload_n 3) 1 && lc_dl (pc + 2) (.iconst 1) 1 && lc_dl (pc + 3) .iadd 1 && lc_dl (pc + 4) .iaload 1
def lc_arg2 (pc : Nat) : Bool := lc_dl pc (.aload_n 0) 1 && lc_dl (pc + 1) (.iload_n 3) 1 && lc_dl (pc + 2) (.iconst 2) 1 && lc_dl (pc + 3) .iadd 1 && lc_dl (pc + 4) .iaload 1
def lc_args (np pc : Nat) : Bool := match np with
  | 0 => true
  | 1 => lc_arg1 pc
  | _ => lc_arg1 pc && lc_arg2 (pc + 5)
def lc_opok (o : lc_Op) : Bool := match o with
  | (np, pc, x1, p1, k1, x2, p2, k2) => decide (np ≤ 2) && lc_lawM k1 0 np && lc_lawM k2 43 np && lc_isW p1 (.methodLink R_law x1 (lc_mY k1)) && lc_isW p2 (.methodLink R_law x2 (lc_mY k2)) &&
    lc_dl pc (.aload_n 1) 1 && lc_args np (pc + 1) && lc_dl (pc + 1 + 5 * np) (.invokevirtual x1) 3 && lc_dl (pc + 4 + 5 * np) (.aload_n 2) 1 && lc_args np (pc + 5 + 5 * np) && lc_dl (pc + 5 + 10 * np) (.invokevirtual x2) 3 && lc_dl (pc + 8 + 10 * np) (.if_icmp .eq (932 - (pc + 8 + 10 * np : Nat))) 3
theorem lc_ok0 : lc_opok (1, 176, 13, 618, 74, 17, 1225, 120) = true := by decide +kernel
theorem lc_ok1 : lc_opok (0, 199, 18, 628, 75, 22, 1235, 129) = true := by decide +kernel
theorem lc_ok2 : lc_opok (0, 212, 23, 712, 76, 26, 1294, 131) = true := by decide +kernel
theorem lc_ok3 : lc_opok (1, 225, 27, 716, 77, 30, 1298, 136) = true := by decide +kernel
theorem lc_ok4 : lc_opok (2, 248, 31, 732, 78, 35, 1313, 138) = true := by decide +kernel
theorem lc_ok5 : lc_opok (2, 281, 36, 768, 79, 39, 1326, 139) = true := by decide +kernel
theorem lc_ok6 : lc_opok (1, 314, 40, 784, 80, 43, 1334, 148) = true := by decide +kernel
theorem lc_ok7 : lc_opok (1, 337, 44, 817, 81, 47, 1358, 149) = true := by decide +kernel
theorem lc_ok8 : lc_opok (1, 360, 48, 834, 82, 51, 1366, 151) = true := by decide +kernel
theorem lc_ok9 : lc_opok (2, 383, 52, 869, 83, 55, 1391, 152) = true := by decide +kernel
theorem lc_ok10 : lc_opok (1, 416, 56, 874, 84, 59, 1395, 154) = true := by decide +kernel
theorem lc_ok11 : lc_opok (1, 439, 60, 885, 85, 63, 1407, 155) = true := by decide +kernel
theorem lc_ok12 : lc_opok (1, 462, 64, 897, 86, 67, 1412, 164) = true := by decide +kernel
theorem lc_ok13 : lc_opok (1, 485, 68, 943, 87, 71, 1449, 165) = true := by decide +kernel
theorem lc_ok14 : lc_opok (1, 508, 72, 947, 88, 75, 1454, 166) = true := by decide +kernel
theorem lc_ok15 : lc_opok (2, 531, 76, 955, 89, 79, 1458, 168) = true := by decide +kernel
theorem lc_ok16 : lc_opok (1, 564, 80, 970, 90, 83, 1466, 169) = true := by decide +kernel
theorem lc_ok17 : lc_opok (1, 587, 84, 975, 91, 87, 1470, 170) = true := by decide +kernel
theorem lc_ok18 : lc_opok (2, 610, 88, 980, 92, 91, 1475, 171) = true := by decide +kernel
theorem lc_ok19 : lc_opok (2, 643, 92, 986, 93, 95, 1481, 172) = true := by decide +kernel
theorem lc_ok20 : lc_opok (2, 676, 96, 999, 94, 99, 1486, 174) = true := by decide +kernel
theorem lc_ok21 : lc_opok (1, 709, 100, 1027, 95, 103, 1494, 177) = true := by decide +kernel
theorem lc_ok22 : lc_opok (0, 732, 104, 1047, 96, 107, 1506, 178) = true := by decide +kernel
theorem lc_ok23 : lc_opok (0, 745, 108, 1055, 97, 111, 1510, 180) = true := by decide +kernel
theorem lc_ok24 : lc_opok (1, 758, 112, 1066, 98, 115, 1519, 181) = true := by decide +kernel
theorem lc_ok25 : lc_opok (1, 781, 116, 1075, 99, 119, 1539, 182) = true := by decide +kernel
theorem lc_ok26 : lc_opok (2, 804, 120, 1084, 100, 123, 1543, 183) = true := by decide +kernel
theorem lc_ok27 : lc_opok (0, 837, 124, 1088, 101, 127, 1547, 184) = true := by decide +kernel
theorem lc_ok28 : lc_opok (0, 850, 128, 1092, 102, 131, 1551, 185) = true := by decide +kernel
theorem lc_ok29 : lc_opok (1, 863, 132, 1096, 103, 135, 1555, 186) = true := by decide +kernel
theorem lc_ok30 : lc_opok (1, 886, 136, 1100, 104, 139, 1559, 187) = true := by decide +kernel
theorem lc_ok31 : lc_opok (1, 909, 140, 1109, 105, 143, 1563, 188) = true := by decide +kernel
theorem lc_ops_ok : ∀ o ∈ lc_ops, lc_opok o = true := by
  unfold lc_ops
  refine List.forall_mem_cons.mpr ⟨lc_ok0, ?_⟩
  refine List.forall_mem_cons.mpr ⟨lc_ok1, ?_⟩
  refine List.forall_mem_cons.mpr ⟨lc_ok2, ?_⟩
  refine List.forall_mem_cons.mpr ⟨lc_ok3, ?_⟩
  refine List.forall_mem_cons.mpr ⟨lc_ok4, ?_⟩
  refine List.forall_mem_cons.mpr ⟨lc_ok5, ?_⟩
  refine List.forall_mem_cons.mpr ⟨lc_ok6, ?_⟩
  refine List.forall_mem_cons.mpr ⟨lc_ok7, ?_⟩
  refine List.forall_mem_cons.mpr ⟨lc_ok8, ?_⟩
  refine List.forall_mem_cons.mpr ⟨lc_ok9, ?_⟩
  refine List.forall_mem_cons.mpr ⟨lc_ok10, ?_⟩
  refine List.forall_mem_cons.mpr ⟨lc_ok11, ?_⟩
  refine List.forall_mem_cons.mpr ⟨lc_ok12, ?_⟩
  refine List.forall_mem_cons.mpr ⟨lc_ok13, ?_⟩
  refine List.forall_mem_cons.mpr ⟨lc_ok14, ?_⟩
  refine List.forall_mem_cons.mpr ⟨lc_ok15, ?_⟩
  refine List.forall_mem_cons.mpr ⟨lc_ok16, ?_⟩
  refine List.forall_mem_cons.mpr ⟨lc_ok17, ?_⟩
  refine List.forall_mem_cons.mpr ⟨lc_ok18, ?_⟩
  refine List.forall_mem_cons.mpr ⟨lc_ok19, ?_⟩
  refine List.forall_mem_cons.mpr ⟨lc_ok20, ?_⟩
  refine List.forall_mem_cons.mpr ⟨lc_ok21, ?_⟩
  refine List.forall_mem_cons.mpr ⟨lc_ok22, ?_⟩
  refine List.forall_mem_cons.mpr ⟨lc_ok23, ?_⟩
  refine List.forall_mem_cons.mpr ⟨lc_ok24, ?_⟩
  refine List.forall_mem_cons.mpr ⟨lc_ok25, ?_⟩
  refine List.forall_mem_cons.mpr ⟨lc_ok26, ?_⟩
  refine List.forall_mem_cons.mpr ⟨lc_ok27, ?_⟩
  refine List.forall_mem_cons.mpr ⟨lc_ok28, ?_⟩
  refine List.forall_mem_cons.mpr ⟨lc_ok29, ?_⟩
  refine List.forall_mem_cons.mpr ⟨lc_ok30, ?_⟩
  refine List.forall_mem_cons.mpr ⟨lc_ok31, ?_⟩
  exact fun _ h => absurd h List.not_mem_nil
theorem dl_0 : decode code 0 = .ok (.new 7, 3) := by decide +kernel
theorem dl_3 : decode code 3 = .ok (.dup, 1) := by decide +kernel
theorem dl_4 : decode code 4 = .ok (.invokespecial 9, 3) := by decide +kernel
theorem dl_7 : decode code 7 = .ok (.astore_n 1, 1) := by decide +kernel
theorem dl_8 : decode code 8 = .ok (.new 10, 3) := by decide +kernel
theorem dl_11 : decode code 11 = .ok (.dup, 1) := by decide +kernel
theorem dl_12 : decode code 12 = .ok (.invokespecial 12, 3) := by decide +kernel
theorem dl_15 : decode code 15 = .ok (.astore_n 2, 1) := by decide +kernel
theorem dl_16 : decode code 16 = .ok (.iconst 0, 1) := by decide +kernel
theorem dl_17 : decode code 17 = .ok (.istore_n 3, 1) := by decide +kernel
theorem dl_18 : decode code 18 = .ok (.iload_n 3, 1) := by decide +kernel
theorem dl_19 : decode code 19 = .ok (.aload_n 0, 1) := by decide +kernel
theorem dl_20 : decode code 20 = .ok (.arraylength, 1) := by decide +kernel
theorem dl_21 : decode code 21 = .ok (.iconst 3, 1) := by decide +kernel
theorem dl_22 : decode code 22 = .ok (.isub, 1) := by decide +kernel
theorem dl_23 : decode code 23 = .ok (.if_icmp .gt 915, 3) := by decide +kernel
theorem dl_26 : decode code 26 = .ok (.aload_n 0, 1) := by decide +kernel
theorem dl_27 : decode code 27 = .ok (.iload_n 3, 1) := by decide +kernel
theorem dl_28 : decode code 28 = .ok (.iaload, 1) := by decide +kernel
theorem dl_29 : decode code 29 = .ok (.bipush 31, 2) := by decide +kernel
theorem dl_31 : decode code 31 = .ok (.iand, 1) := by decide +kernel
theorem dl_932 : decode code 932 = .ok (.iinc 3 3, 3) := by decide +kernel
theorem dl_935 : decode code 935 = .ok (.goto (-917), 3) := by decide +kernel
theorem dl_938 : decode code 938 = .ok (.iconst 1, 1) := by decide +kernel
theorem dl_939 : decode code 939 = .ok (.ireturn, 1) := by decide +kernel
def lc_offs : Array Int := #[144, 167, 180, 193, 216, 249, 282, 305, 328, 351, 384, 407, 430, 453, 476, 499, 532, 555, 578, 611, 644, 677, 700, 713, 726, 749, 772, 805, 818, 831, 854, 877]
theorem dl_32 : decode code 32 = .ok (.tableswitch 900 0 31 lc_offs, 144) := by decide +kernel
theorem lc_offs_ok : ∀ j, j < 32 → ∃ o off, lc_ops[j]? = some o ∧ lc_offs[j]? = some off ∧ (32 : Int) + off = (o.2.1 : Int) := by
  have h : (List.range 32).all (fun j => match lc_ops[j]?, lc_offs[j]? with | some o, some off => decide ((32 : Int) + off = (o.2.1 : Int)) | _, _ => false) = true := by decide +kernel
  intro j hj
  have h1 := List.all_eq_true.mp h j (List.mem_range.mpr hj)
  split at h1
  · rename_i o off e1 e2
    exact ⟨o, off, e1, e2, of_decide_eq_true h1⟩
  · cases h1
theorem lc_dl_ok {pc n : Nat} {i : Instr} (h : lc_dl pc i n = true) : decode code pc = .ok (i, n) := of_decide_eq_true h
theorem lc_arg1_walk (C0 : lw_At p s m meth c b L xs) (hL : L ≤ 192) {i pc : Nat} (hi : i + 3 ≤ L) {st : List Value} {ls : Array Slot} {q0 q1 : Nat} (hl : lv_has ls 4 [(0, .ref b), (1, .ref q0), (2, .ref q1), (3, .int (nI i))]) (hS : va_S (fun q => s.heap.size ≤ q) s.heap H locs) (h : lc_arg1 pc = true) {cells slots : Nat}
    (kk : W p l e room_1 s m #[Value.ref b] below meth c H locs cells slots Q (F0 m (pc + 5) ls (.int (xs (i + 1)) :: st))) : W p l e room_1 s m #[Value.ref b] below meth c H locs cells slots Q (F0 m pc ls st) := by
  obtain ⟨hx, hb, hr, hml, hown, hts0, hX, hbl, hlocks, hgv⟩ := C0
  have hbA : ¬ (fun q : Nat => s.heap.size ≤ q) b := Nat.not_le.mpr hbl
  simp only [lc_arg1, Bool.and_eq_true] at h
  obtain ⟨⟨⟨⟨h0, h1⟩, h2⟩, h3⟩, h4⟩ := h
  refine lv_aload_n hx hb (lc_dl_ok h0) rfl (lv_at hl 0 rfl) ?_
  refine lv_iload_n hx hb (lc_dl_ok h1) rfl (lv_at hl 3 rfl) ?_
  refine lv_iconst (v := nI 1) hx hb (lc_dl_ok h2) (by decide) ?_
  refine lv_iadd hx hb (lc_dl_ok h3) ?_
  rw [nI_add]
  refine va_sld hx hb hX hbl hbA hS (vp_in_nI (by omega) (by omega)) (lc_dl_ok h4) ?_
  rw [nI_clamp (by omega)]
  exact kk
theorem lc_arg2_walk (C0 : lw_At p s m meth c b L xs) (hL : L ≤ 192) {i pc : Nat} (hi : i + 3 ≤ L) {st : List Value} {ls : Array Slot} {q0 q1 : Nat} (hl : lv_has ls 4 [(0, .ref b), (1, .ref q0), (2, .ref q1), (3, .int (nI i))]) (hS : va_S (fun q => s.heap.size ≤ q) s.heap H locs) (h : lc_arg2 pc = true) {cells slots : Nat}
    (kk : W p l e room_1 s m #[Value.ref b] below meth c H locs cells slots Q (F0 m (pc + 5) ls (.int (xs (i + 2)) :: st))) : W p l e room_1 s m #[Value.ref b] below meth c H locs cells slots Q (F0 m pc ls st) := by
  obtain ⟨hx, hb, hr, hml, hown, hts0, hX, hbl, hlocks, hgv⟩ := C0
  have hbA : ¬ (fun q : Nat => s.heap.size ≤ q) b := Nat.not_le.mpr hbl
  simp only [lc_arg2, Bool.and_eq_true] at h
  obtain ⟨⟨⟨⟨h0, h1⟩, h2⟩, h3⟩, h4⟩ := h
  refine lv_aload_n hx hb (lc_dl_ok h0) rfl (lv_at hl 0 rfl) ?_
  refine lv_iload_n hx hb (lc_dl_ok h1) rfl (lv_at hl 3 rfl) ?_
  refine lv_iconst (v := nI 2) hx hb (lc_dl_ok h2) (by decide) ?_
  refine lv_iadd hx hb (lc_dl_ok h3) ?_
  rw [nI_add]
  refine va_sld hx hb hX hbl hbA hS (vp_in_nI (by omega) (by omega)) (lc_dl_ok h4) ?_
  rw [nI_clamp (by omega)]
  exact kk
theorem lc_args_walk (C0 : lw_At p s m meth c b L xs) (hL : L ≤ 192) {i pc np : Nat} (hnp : np ≤ 2) (hi : i + 3 ≤ L) {st : List Value} {ls : Array Slot} {q0 q1 : Nat} (hl : lv_has ls 4 [(0, .ref b), (1, .ref q0), (2, .ref q1), (3, .int (nI i))]) (hS : va_S (fun q => s.heap.size ≤ q) s.heap H locs) (h : lc_args np pc = true) {cells slots : Nat}
    (kk : W p l e room_1 s m #[Value.ref b] below meth c H locs cells slots Q (F0 m (pc + 5 * np) ls ((lc_ints np (xs (i + 1)) (xs (i + 2))).reverse ++ st))) : W p l e room_1 s m #[Value.ref b] below meth c H locs cells slots Q (F0 m pc ls st) := by
  have hc : np = 0 ∨ np = 1 ∨ np = 2 := by omega
  rcases hc with rfl | rfl | rfl
  · exact kk
  · exact lc_arg1_walk C0 hL hi hl hS h kk
  · have h12 : (lc_arg1 pc && lc_arg2 (pc + 5)) = true := h
    rw [Bool.and_eq_true] at h12
    exact lc_arg1_walk C0 hL hi hl hS h12.1 (lc_arg2_walk C0 hL hi hl hS h12.2 kk)
/-- what the pure part owes: each call of the class and of the reference, from a memory that agrees, gives one answer, and a memory that agrees -/
def lc_Steps (Inv : Nat → lc_M → Prop) : Prop := ∀ (n : Nat), n < 64 → ∀ (j : Nat) (o : lc_Op), lc_ops[j]? = some o → ∀ (a0 a1 : Int32) (M : lc_M), Inv n M → ∃ (r : Int32) (M1 M2 : lc_M), lc_val 8 o.2.2.2.2.1 0 (lc_ent o.2.2.2.2.1 (.ref 0 :: lc_ints o.1 a0 a1)) [] lc_SH M = some (some (.int r), lc_SH, M1) ∧ lc_val 8 o.2.2.2.2.2.2.2 0 (lc_ent o.2.2.2.2.2.2.2 (.ref 43 :: lc_ints o.1 a0 a1)) [] lc_SH M1 = some (some (.int r), lc_SH, M2) ∧ Inv (n + 1) M2
set_option maxHeartbeats 4000000 in
theorem lc_law_loop {Inv : Nat → lc_M → Prop} (hst : lc_Steps Inv) (hL : L ≤ 192) (C0 : lw_At p s m meth c b L xs) (hK : va_K D lc_cl (lc_tys cI cZ) s) :
    ∀ (n i k : Nat) (M : lc_M) (H : Heap) (locs : List Loc), i = 3 * k → i ≤ L + 2 → L + 3 ≤ i + n → Inv k M → va_P D lc_cl (lc_ws ad cI cZ lc_SH M) H → va_D (fun q => s.heap.size ≤ q) (lc_ws ad cI cZ lc_SH M) → va_S (fun q => s.heap.size ≤ q) s.heap H locs → ∀ (ls : Array Slot), lv_has ls 4 [(0, .ref b), (1, .ref (ad 0)), (2, .ref (ad 43)), (3, .int (nI i))] → W p l e room_1 s m #[Value.ref b] below meth c H locs 59 2926 (lw_Z below #[Value.ref b] s) (F0 m 18 ls []) := by
  obtain ⟨hx, hb, hr, hml, hown, hts0, hX, hbl, hlocks, hgv⟩ := id C0
  have hbA : ¬ (fun q : Nat => s.heap.size ≤ q) b := Nat.not_le.mpr hbl
  intro n
  induction n with
  | zero => intro i k M H locs h0 h1 h2; exact absurd h2 (by omega)
  | succ n ih =>
    intro i k M H locs hik hi hin hI hP hD hS ls hl
    refine lv_iload_n hx hb dl_18 rfl (lv_at hl 3 rfl) ?_
    refine lv_aload_n hx hb dl_19 rfl (lv_at hl 0 rfl) ?_
    refine va_slen hx hb hX hbl hbA hS dl_20 ?_
    refine lv_iconst (v := nI 3) hx hb dl_21 (by decide) ?_
    refine lv_isub hx hb dl_22 ?_
    have hto : (nI L - nI 3).toInt = (L : Int) - 3 := pk_sub_toInt (by omega) (by omega)
    refine lv_icmp_gt (tgt := 938) hx hb dl_23 (by decide) (fun q => ?_) (fun q => ?_)
    · refine lv_iconst (v := 1) hx hb dl_938 (by decide) ?_
      refine va_forget (fun q hq => hS.2.2 q hq) ?_
      exact lw_ret hx hb hr hlocks dl_939
    · have h3 : i + 3 ≤ L := by
        have q2 := Int32.not_lt.mp q
        have q3 := Int32.le_iff_toInt_le.mp q2
        rw [nI_toInt (by omega)] at q3
        have hto2 : (Int32.ofNat L - nI 3).toInt = (L : Int) - 3 := hto
        rw [hto2] at q3
        omega
      refine lv_aload_n hx hb dl_26 rfl (lv_at hl 0 rfl) ?_
      refine lv_iload_n hx hb dl_27 rfl (lv_at hl 3 rfl) ?_
      refine va_sld hx hb hX hbl hbA hS (vp_in_nI (by omega) (by omega)) dl_28 ?_
      refine lv_bipush (v := 31) hx hb dl_29 (by decide) ?_
      refine lv_iand hx hb dl_31 ?_
      obtain ⟨j, hj, ej⟩ := pk_andE (xs (nI i).toNatClampNeg) (m := 31) 5 (by decide)
      rw [ej]
      obtain ⟨o, off, ho, hoff, htg⟩ := lc_offs_ok j hj
      have hxi : (nI j).toInt = (j : Int) := nI_toInt (by omega)
      refine lv_tableIn (tgt := o.2.1) hx hb dl_32 (by rw [hxi]; omega) (by rw [hxi]; omega) (off := off) (by rw [hxi, show ((j : Int) - 0).toNat = j by omega]; exact hoff) htg ?_
      have hok := lc_ops_ok o (List.mem_of_getElem? ho)
      obtain ⟨r, M1, M2, hv1, hv2, hI2⟩ := hst k (by omega) j o ho (xs (i + 1)) (xs (i + 2)) M hI
      obtain ⟨np, pc, x1, p1, k1, x2, p2, k2⟩ := o
      dsimp only at hv1 hv2 ⊢
      simp only [lc_opok, Bool.and_eq_true, decide_eq_true_eq] at hok
      obtain ⟨⟨⟨⟨⟨⟨⟨⟨⟨⟨⟨hnp, hm1⟩, hm2⟩, hw1⟩, hw2⟩, d1⟩, d2⟩, d3⟩, d4⟩, d5⟩, d6⟩, d7⟩ := hok
      refine lv_aload_n hx hb (lc_dl_ok d1) rfl (lv_at hl 1 rfl) ?_
      refine lc_args_walk C0 hL hnp h3 hl hS d2 ?_
      refine lc_lawcall C0 hK hl.1 hnp hm1 hw1 (lc_dl_ok d3) (by simp) hv1 hP hD hS (fun H1 locs1 hP1 hD1 hS1 => ?_)
      rw [show pc + 1 + 5 * np + 3 = pc + 4 + 5 * np by omega]
      refine lv_aload_n hx hb (lc_dl_ok d4) rfl (lv_at hl 2 rfl) ?_
      rw [show pc + 4 + 5 * np + 1 = pc + 5 + 5 * np by omega]
      refine lc_args_walk C0 hL hnp h3 hl hS1 d5 ?_
      rw [show pc + 5 + 5 * np + 5 * np = pc + 5 + 10 * np by omega]
      refine lc_lawcall C0 hK hl.1 hnp hm2 hw2 (lc_dl_ok d6) (by simp [Value.category]) hv2 hP1 hD1 hS1 (fun H2 locs2 hP2 hD2 hS2 => ?_)
      rw [show pc + 5 + 10 * np + 3 = pc + 8 + 10 * np by omega]
      refine lv_icmp_eq (tgt := 932) hx hb (lc_dl_ok d7) (by omega) (fun _ => ?_) (fun q => absurd rfl q)
      refine lv_iinc (v := nI (i + 3)) (lv' := [(3, .int (nI (i + 3))), (0, .ref b), (1, .ref (ad 0)), (2, .ref (ad 43))]) hx hb dl_932 hl (k := 3) rfl (nI_add i 3) (by decide) rfl (fun ls hl => ?_)
      refine lv_goto (tgt := 18) hx hb dl_935 (by decide) ?_
      exact ih (i + 3) (k + 1) M2 H2 locs2 (by omega) (by omega) (by omega) hI2 hP2 hD2 hS2 ls (lv_sub hl [1, 2, 3, 0] rfl)
end LcLaw
/-- the start of the law: the two objects are made -/
def lc_cD (s : State) : Prop := ∀ (i : Nat) (q : vw_C), lc_cl[i]? = some q → ∃ (cC : ClassId) (iS : Nat → Nat), u_Kn s q.1 q.2.1 q.2.2 cC iS
theorem lc_known {s : State} {args : Array Value} (hts : ∀ w ∈ lc_tt, w.before args s = true) : lc_cD s := by
  intro i q hq
  obtain ⟨hin, hins, -⟩ := lc_cls hq
  exact u_known hts (lc_u_tt hin) (hts _ (lc_tt_in hins rfl))
theorem lc_classes {s : State} {args : Array Value} (hts : ∀ w ∈ lc_tt, w.before args s = true) : ∃ (D : va_G) (cI cZ : ClassId), va_K D lc_cl (lc_tys cI cZ) s := by
  have hk := lc_known hts
  obtain ⟨cI, kI, cmI, a1, a2, a3⟩ := Cond.arrayClass_spec (hts _ (lc_isW_tt lc_w_ai rfl))
  obtain ⟨cZ, kZ, cmZ, b1, b2, b3⟩ := Cond.arrayClass_spec (hts _ (lc_isW_tt lc_w_az rfl))
  have h : ∀ i : Nat, ∃ cc : ClassId × (Nat → Nat), ∀ q, lc_cl[i]? = some q → u_Kn s q.1 q.2.1 q.2.2 cc.1 cc.2 := by
    intro i
    cases hq : lc_cl[i]? with
    | none => exact ⟨(0, fun _ => 0), fun q h => by cases h⟩
    | some q =>
      obtain ⟨cC, iS, h⟩ := hk i q hq
      exact ⟨(cC, iS), fun q' h' => by cases h'; exact h⟩
  refine ⟨(fun i => (Classical.choose (h i)).1, fun i => (Classical.choose (h i)).2), cI, cZ, fun i q hq => Classical.choose_spec (h i) q hq, fun k q hq => ?_⟩
  match k, hq with
  | 0, hq => cases hq; exact ⟨fun n z => ⟨fun k h => (by cases h), kI, a2, cmI, a3⟩, a1⟩
  | 1, hq => cases hq; exact ⟨fun n z => ⟨fun k h => (by cases h), kZ, b2, cmZ, b3⟩, b1⟩
  | k + 2, hq => simp [lc_tys] at hq
