/-! what touches no cell: each instruction by its row -/
theorem lc_dec_ok {k pc n : Nat} {i : Instr} (h : lc_dec k pc i n = true) : decode (lc_mC k) pc = .ok (i, n) := of_decide_eq_true h
/-- the words that stay: all but those on private methods, of which 'selects' has come -/
def lc_isN : Cond → Bool
  | .methodLinkNest _ _ _ _ => true
  | _ => false
def lc_tt : List Cond := lw_tbl.filter (fun w => goodWord w || lc_isN w)
theorem lc_tt_in {w : Cond} (h : w ∈ lw_tbl) (g : (goodWord w || lc_isN w) = true) : w ∈ lc_tt := List.mem_filter.mpr ⟨h, g⟩
theorem lc_isW_tt {p : Nat} {w : Cond} (h : lc_isW p w = true) (g : (goodWord w || lc_isN w) = true) : w ∈ lc_tt := lc_tt_in (lc_isW_in h) g
theorem lc_u_tt {C : String} {T : u_T} {N : Nat} (h : ∀ w ∈ u_ws C T N, w ∈ lw_tbl) : ∀ w ∈ u_ws C T N, w ∈ lc_tt := by
  intro w hw
  refine lc_tt_in (h w hw) ?_
  unfold u_ws at hw
  obtain ⟨j, -, rfl⟩ := List.mem_map.mp hw
  unfold u_lay
  split <;> rfl
section LcPure
variable {p : Program} {l : Launch} {e : Env} {R : Room} {s : State} {m : MethodId} {args : Array Value} {below : List Frame} {meth : Method} {c : Code} {H : Heap} {locs : List Loc} {cells slots : Nat} {Q : State → Prop}
set_option maxHeartbeats 4000000 in
theorem lc_pure_ok {k : Nat} (hx : p.tables.exec = Jvm.exec) (hb : c.code = lc_mC k) (hown : s.vm.findClass (lc_mY k).cls = some m.cls) (hts : ∀ w ∈ lc_tt, w.before args s = true)
    {pc a b pl cn : Nat} {i : Instr} {v : Int32} {w : Int64} {ts : List Nat} {ad : Nat → Nat} {ls : Array Slot} {lst st lst' st' : List Value} (hr : lc_rok k pc (some (i, a, b, v, w, pl, ts)) = true)
    (h : lc_pure i a v w lst st = some (cn, lst', st')) (hL : lc_LV ad ls lst)
    (kk : ∀ ls' : Array Slot, lc_LV ad ls' lst' → lst'.length = lst.length → W p l e R s m args below meth c H locs cells slots Q (F0 m (pc + cn) ls' (st'.map (lc_em ad)))) :
    W p l e R s m args below meth c H locs cells slots Q (F0 m pc ls (st.map (lc_em ad))) := by
  cases i
  case iconst q =>
    simp only [lc_rok, Bool.and_eq_true, decide_eq_true_eq] at hr
    cases h
    exact lv_iconst hx hb (lc_dec_ok hr.1) hr.2 (kk ls hL rfl)
  case bipush q =>
    simp only [lc_rok, Bool.and_eq_true, decide_eq_true_eq] at hr
    cases h
    exact lv_bipush hx hb (lc_dec_ok hr.1) hr.2 (kk ls hL rfl)
  case sipush q =>
    simp only [lc_rok, Bool.and_eq_true, decide_eq_true_eq] at hr
    cases h
    exact lv_sipush hx hb (lc_dec_ok hr.1) hr.2 (kk ls hL rfl)
  case lconst q =>
    simp only [lc_rok, Bool.and_eq_true, decide_eq_true_eq] at hr
    cases h
    exact lv_lconst hx hb (lc_dec_ok hr.1) hr.2 (kk ls hL rfl)
  case ldc q =>
    simp only [lc_rok, Bool.and_eq_true, decide_eq_true_eq] at hr
    cases h
    exact lv_ldc hx hb hown (hts _ (lc_isW_tt hr.2 rfl)) (lc_dec_ok hr.1) (kk ls hL rfl)
  case ldc_w q =>
    simp only [lc_rok, Bool.and_eq_true, decide_eq_true_eq] at hr
    cases h
    exact lv_ldcw hx hb hown (hts _ (lc_isW_tt hr.2 rfl)) (lc_dec_ok hr.1) (kk ls hL rfl)
  case ldc2_w q =>
    simp only [lc_rok, Bool.and_eq_true, decide_eq_true_eq] at hr
    cases h
    exact lv_ldc2 hx hb hown (hts _ (lc_isW_tt hr.2 rfl)) (lc_dec_ok hr.1) (kk ls hL rfl)
  case iload_n q =>
    simp only [lc_rok, Bool.and_eq_true, decide_eq_true_eq] at hr
    obtain ⟨hd, rfl⟩ := hr
    simp only [lc_pure] at h
    split at h
    · rename_i x hq
      cases h
      exact lv_iload_n hx hb (lc_dec_ok hd) rfl (hL.2.2 _ _ hq (fun z => by cases z)) (kk ls hL rfl)
    · cases h
  case iload q =>
    simp only [lc_rok, Bool.and_eq_true, decide_eq_true_eq] at hr
    obtain ⟨hd, rfl⟩ := hr
    simp only [lc_pure] at h
    split at h
    · rename_i x hq
      cases h
      exact lv_iload hx hb (lc_dec_ok hd) (hL.2.2 _ _ hq (fun z => by cases z)) (kk ls hL rfl)
    · cases h
  case aload_n q =>
    simp only [lc_rok, Bool.and_eq_true, decide_eq_true_eq] at hr
    obtain ⟨hd, rfl⟩ := hr
    simp only [lc_pure] at h
    split at h
    · rename_i x hq
      cases h
      exact lv_aload_n hx hb (lc_dec_ok hd) rfl (hL.2.2 _ _ hq (fun z => by cases z)) (kk ls hL rfl)
    · cases h
  case aload q =>
    simp only [lc_rok, Bool.and_eq_true, decide_eq_true_eq] at hr
    obtain ⟨hd, rfl⟩ := hr
    simp only [lc_pure] at h
    split at h
    · rename_i x hq
      cases h
      exact lv_aload hx hb (lc_dec_ok hd) (hL.2.2 _ _ hq (fun z => by cases z)) (kk ls hL rfl)
    · cases h
  case lload_n q =>
    simp only [lc_rok, Bool.and_eq_true, decide_eq_true_eq] at hr
    obtain ⟨hd, rfl⟩ := hr
    simp only [lc_pure] at h
    split at h
    · rename_i x hq
      cases h
      exact lv_lload_n hx hb (lc_dec_ok hd) rfl (hL.2.2 _ _ hq (fun z => by cases z)) (kk ls hL rfl)
    · cases h
  case lload q =>
    simp only [lc_rok, Bool.and_eq_true, decide_eq_true_eq] at hr
    obtain ⟨hd, rfl⟩ := hr
    simp only [lc_pure] at h
    split at h
    · rename_i x hq
      cases h
      exact lv_lload hx hb (lc_dec_ok hd) (hL.2.2 _ _ hq (fun z => by cases z)) (kk ls hL rfl)
    · cases h
  case istore_n q =>
    simp only [lc_rok, Bool.and_eq_true, decide_eq_true_eq] at hr
    obtain ⟨hd, rfl⟩ := hr
    simp only [lc_pure] at h
    split at h
    · rename_i x st0
      cases hq : Nat.blt (q : Nat) lst.length with
      | false => rw [hq] at h; cases h
      | true =>
        rw [hq] at h
        cases h
        exact lv_istore_n hx hb (lc_dec_ok hd) rfl hL.has (Nat.ble_eq.mp hq) rfl (fun ls2 hl2 => kk ls2 (lc_LV_st1 (v := .int x) hl2) lc_st1_len)
    · cases h
  case istore q =>
    simp only [lc_rok, Bool.and_eq_true, decide_eq_true_eq] at hr
    obtain ⟨hd, rfl⟩ := hr
    simp only [lc_pure] at h
    split at h
    · rename_i x st0
      cases hq : Nat.blt q lst.length with
      | false => rw [hq] at h; cases h
      | true =>
        rw [hq] at h
        cases h
        exact lv_istore hx hb (lc_dec_ok hd) hL.has (Nat.ble_eq.mp hq) rfl (fun ls2 hl2 => kk ls2 (lc_LV_st1 (v := .int x) hl2) lc_st1_len)
    · cases h
  case lstore_n q =>
    simp only [lc_rok, Bool.and_eq_true, decide_eq_true_eq] at hr
    obtain ⟨hd, rfl⟩ := hr
    simp only [lc_pure] at h
    split at h
    · rename_i x st0
      cases hq : Nat.blt ((q : Nat) + 1) lst.length with
      | false => rw [hq] at h; cases h
      | true =>
        rw [hq] at h
        cases h
        exact lv_lstore_n hx hb (lc_dec_ok hd) rfl hL.has (Nat.ble_eq.mp hq) rfl (fun ls2 hl2 => kk ls2 (lc_LV_st2 (v := .long x) hl2) (by unfold lc_st2; rw [lc_st1_len]; simp))
    · cases h
  case iinc q z =>
    simp only [lc_rok, Bool.and_eq_true, decide_eq_true_eq] at hr
    obtain ⟨⟨hd, rfl⟩, hv⟩ := hr
    simp only [lc_pure] at h
    split at h
    · rename_i x hq
      cases h
      obtain ⟨j, hj⟩ := List.getElem?_of_mem (lc_prs_mem.mpr ⟨.int x, hq, (fun y => by cases y), rfl⟩ : ((q, lc_em ad (.int x)) : Nat × Value) ∈ lc_prs ad lst)
      exact lv_iinc hx hb (lc_dec_ok hd) hL.has hj (by rw [hv]) (List.getElem?_eq_some_iff.mp hq).1 rfl (fun ls2 hl2 => kk ls2 (lc_LV_st1 (v := .int (x + v)) hl2) lc_st1_len)
    · cases h
  case iadd =>
    simp only [lc_rok] at hr
    simp only [lc_pure] at h
    split at h
    · cases h
      exact lv_iadd hx hb (lc_dec_ok hr) (kk ls hL rfl)
    · cases h
  case isub =>
    simp only [lc_rok] at hr
    simp only [lc_pure] at h
    split at h
    · cases h
      exact lv_isub hx hb (lc_dec_ok hr) (kk ls hL rfl)
    · cases h
  case imul =>
    simp only [lc_rok] at hr
    simp only [lc_pure] at h
    split at h
    · cases h
      exact lv_imul hx hb (lc_dec_ok hr) (kk ls hL rfl)
    · cases h
  case iand =>
    simp only [lc_rok] at hr
    simp only [lc_pure] at h
    split at h
    · cases h
      exact lv_iand hx hb (lc_dec_ok hr) (kk ls hL rfl)
    · cases h
  case ior =>
    simp only [lc_rok] at hr
    simp only [lc_pure] at h
    split at h
    · cases h
      exact lv_ior hx hb (lc_dec_ok hr) (kk ls hL rfl)
    · cases h
  case ixor =>
    simp only [lc_rok] at hr
    simp only [lc_pure] at h
    split at h
    · cases h
      exact lv_ixor hx hb (lc_dec_ok hr) (kk ls hL rfl)
    · cases h
  case ishl =>
    simp only [lc_rok] at hr
    simp only [lc_pure] at h
    split at h
    · cases h
      exact lv_ishl hx hb (lc_dec_ok hr) (kk ls hL rfl)
    · cases h
  case ishr =>
    simp only [lc_rok] at hr
    simp only [lc_pure] at h
    split at h
    · cases h
      exact lv_ishr hx hb (lc_dec_ok hr) (kk ls hL rfl)
    · cases h
  case ladd =>
    simp only [lc_rok] at hr
    simp only [lc_pure] at h
    split at h
    · cases h
      exact lv_ladd hx hb (lc_dec_ok hr) (kk ls hL rfl)
    · cases h
  case lsub =>
    simp only [lc_rok] at hr
    simp only [lc_pure] at h
    split at h
    · cases h
      exact lv_lsub hx hb (lc_dec_ok hr) (kk ls hL rfl)
    · cases h
  case lmul =>
    simp only [lc_rok] at hr
    simp only [lc_pure] at h
    split at h
    · cases h
      exact lv_lmul hx hb (lc_dec_ok hr) (kk ls hL rfl)
    · cases h
  case iushr =>
    simp only [lc_rok] at hr
    simp only [lc_pure] at h
    split at h
    · cases h
      exact lv_iushr hx hb (lc_dec_ok hr) rfl (kk ls hL rfl)
    · cases h
  case lcmp =>
    simp only [lc_rok] at hr
    simp only [lc_pure] at h
    split at h
    · cases h
      exact W.lcmp hx hb (lc_dec_ok hr) (kk ls hL rfl)
    · cases h
  case i2l =>
    simp only [lc_rok] at hr
    simp only [lc_pure] at h
    split at h
    · cases h
      exact lv_i2l hx hb (lc_dec_ok hr) rfl (kk ls hL rfl)
    · cases h
  case l2i =>
    simp only [lc_rok] at hr
    simp only [lc_pure] at h
    split at h
    · cases h
      exact lv_l2i hx hb (lc_dec_ok hr) rfl (kk ls hL rfl)
    · cases h
  case dup =>
    simp only [lc_rok] at hr
    simp only [lc_pure] at h
    split at h
    · cases h
      exact lv_dup hx hb (lc_dec_ok hr) rfl (kk ls hL rfl)
    · cases h
      exact lv_dup hx hb (lc_dec_ok hr) rfl (kk ls hL rfl)
    · cases h
  case pop =>
    simp only [lc_rok] at hr
    simp only [lc_pure] at h
    split at h
    · rename_i x st0
      cases h
      exact lv_pop (va := .int x) hx hb (lc_dec_ok hr) rfl (kk ls hL rfl)
    · cases h
  case dup2 =>
    simp only [lc_rok] at hr
    simp only [lc_pure] at h
    split at h
    · cases h
      exact lv_dup2_11 hx hb (lc_dec_ok hr) rfl rfl (kk ls hL rfl)
    · cases h
  all_goals (simp [lc_pure] at h)
end LcPure
