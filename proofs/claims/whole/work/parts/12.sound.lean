/-! every run of the small machine is a run of the machine -/
section LcCall
variable {p : Program} {l : Launch} {e : Env} {R : Room} {s : State} {m : MethodId} {args : Array Value} {below : List Frame} {meth : Method} {c : Code} {H : Heap} {locs : List Loc} {cells slots : Nat} {Q : State → Prop}
theorem lc_call {mc ms pc : Nat} {ls : Array Slot} {st0 rest : List Value} {Qa : State → Outcome → State → Prop} {free : Addr → Prop} (hr : va_Run p l e R s m args below meth c H locs cells slots mc ms (F0 m pc ls st0) rest Qa free)
    (kk : ∀ (v : Option Value) (st₀ t : State) (L : List Loc), st₀.heap = H → (∀ q ∈ L, free q.base) → s.vm.Alike t.vm → Qa st₀ (.returned v) t → W p l e R s m args below meth c t.heap (locs ++ L) (cells + mc) (slots + ms) Q (F0 m (pc + 3) ls (v.toList ++ rest))) : W p l e R s m args below meth c H locs cells slots Q (F0 m pc ls st0) := by
  intro T hT X
  obtain ⟨v, st₀, t, T', L, h0, X', hL, e1, e2, hq, st⟩ := hr T hT X
  obtain ⟨t2, a1, b1⟩ := kk v st₀ t L h0 hL (by rw [← e2]; exact X'.warmed.alike) hq T' e1 X'
  exact ⟨t2, st t2 a1, b1⟩
end LcCall
theorem lc_after {f : lc_F} (hI : lc_In f) {p : Program} {l : Launch} {e : Env} {s : State} {m : MethodId} {args : Array Value} {below : List Frame} {meth : Method} {c : Code} {B : Nat} {D : va_G} {cI cZ : ClassId} {d k : Nat} {ad0 : Nat → Nat} {Sh0 : lc_Sh} {res r1 : lc_Res}
    (hC : lc_Cx p s m args meth c B D cI cZ k) {ad : Nat → Nat} {pc : Nat} {lst rest st0 : List Value} {Sh : lc_Sh} {M : lc_M} {ls : Array Slot} {H : Heap} {locs : List Loc} {cells slots : Nat} {A : Array Value}
    (hrun : va_Run p l e (lc_rm d Sh0 res.2.1) s m args below meth c H locs cells slots (r1.2.1.length - Sh.length) (lc_sz r1.2.1 - lc_sz Sh) (F0 m pc ls st0) (rest.map (lc_em ad)) (lc_Post B D cI cZ ad Sh r1 A) (fun q => B ≤ q))
    (h : f d k (pc + 3) lst (r1.1.toList ++ rest) r1.2.1 r1.2.2 = some res) (ho : r1.1 = none ∨ ∃ x, r1.1 = some (.int x)) (hok : r1.2.1.length = Sh.length ∨ (lc_wf Sh.length lst = true ∧ lc_wf Sh.length rest = true)) (hm1 : Sh.length ≤ r1.2.1.length) (hm2 : lc_sz Sh ≤ lc_sz r1.2.1)
    (hL : lc_LV ad ls lst) (hlen : lst.length = lc_mL k) (hR : lc_HR B D cI cZ s ad0 Sh0 ad Sh M H locs) (e1 : cells = Sh.length - Sh0.length) (e2 : slots = lc_sz Sh - lc_sz Sh0) :
    W p l e (lc_rm d Sh0 res.2.1) s m args below meth c H locs cells slots (MQ below (lc_Post B D cI cZ ad0 Sh0 res) args s (res.2.1.length - Sh0.length) (lc_sz res.2.1 - lc_sz Sh0) (fun q => B ≤ q)) (F0 m pc ls st0) := by
  obtain ⟨hP, hD, hS, hL0, hL1, had⟩ := hR
  refine lc_call hrun (fun v st₀ t L h0 hLf hal hq => ?_)
  obtain ⟨ad', ha, hv, hP', hD', hK', hF⟩ := hq
  cases hv
  have hlt : ∀ i, i < Sh.length → ad' i = ad i := fun i hi => ha i (fun q => by omega)
  have hmap : rest.map (lc_em ad') = rest.map (lc_em ad) ∧ lc_LV ad' ls lst := by
    rcases hok with q | q
    · have : ad' = ad := funext fun i => ha i (fun z => by omega)
      subst this
      exact ⟨rfl, hL⟩
    · exact ⟨lc_map_wf hlt q.2, hL.ad hlt q.1⟩
  have hst : (r1.1.map (lc_em ad')).toList ++ rest.map (lc_em ad) = (r1.1.toList ++ rest).map (lc_em ad') := by
    rcases ho with q | ⟨x, q⟩
    · rw [q, ← hmap.1]; rfl
    · rw [q, ← hmap.1]; rfl
  rw [hst]
  refine hI p l e s m args below meth c B D cI cZ d k ad0 Sh0 res hC ad' (pc + 3) lst _ r1.2.1 r1.2.2 ls t.heap (locs ++ L) _ _ h hmap.2 hlen ⟨hP', hD', ?_, by omega, by omega, fun i hi => ?_⟩ (by omega) (by omega)
  · have hF1 := hF.1
    have hF2 := hF.2
    rw [h0] at hF1 hF2
    refine ⟨Nat.le_trans hS.1 hF1, fun q g1 g2 => (hF2 q (Nat.lt_of_lt_of_le g1 hS.1) g2).trans (hS.2.1 q g1 g2), fun q hq => ?_⟩
    rcases List.mem_append.mp hq with z | z
    · exact hS.2.2 q z
    · exact hLf q z
  · rw [ha i (fun q => by omega)]
    exact had i (fun q => by omega)
theorem lc_blind {B : Nat} {D : va_G} {cI cZ : ClassId} {ad : Nat → Nat} {Sh : lc_Sh} {M : lc_M} {av : List Value} : FrameBlind (va_Pc av (lc_Pre B D cI cZ ad Sh M)) := by
  intro a U g mk q
  obtain ⟨q0, q1, q2, q3, q4, q5⟩ := q
  exact ⟨q0, q1, q2, va_K.moved (u := U) (U := U.calling g mk a) (Vm.Alike.refl U.vm) q3, q4, q5.same (U := U.calling g mk a) rfl⟩
theorem lc_preat {p : Program} {s : State} {m : MethodId} {args : Array Value} {meth : Method} {c : Code} {B : Nat} {D : va_G} {cI cZ : ClassId} {k : Nat} (hC : lc_Cx p s m args meth c B D cI cZ k) {ad0 ad : Nat → Nat} {Sh0 Sh : lc_Sh} {M : lc_M} {H : Heap} {locs : List Loc} (hR : lc_HR B D cI cZ s ad0 Sh0 ad Sh M H locs) {U : State} (hU : U.heap = H) (hW : s.WarmedH U.vm) : lc_Pre B D cI cZ ad Sh M U := by
  obtain ⟨-, -, -, -, -, -, -, -, -, hK, hB, hN⟩ := hC
  obtain ⟨hP, hD, hS, -⟩ := hR
  exact ⟨by rw [hU]; exact Nat.le_trans hB hS.1, by rw [hU]; exact hP, va_K.moved hW.alike hK, hD, hN.warm hW⟩
theorem lc_swok_at {pc : Nat} : ∀ (ts : List Nat) (os : List Int), lc_swok pc ts os = true → ∀ (n t : Nat), ts[n]? = some t → ∃ o, os[n]? = some o ∧ (pc : Int) + o = (t : Int)
  | [], _, _, n, t, h => by simp at h
  | t0 :: ts, [], h, _, _, _ => by cases h
  | t0 :: ts, o :: os, h, n, t, hn => by
    simp only [lc_swok, Bool.and_eq_true, decide_eq_true_eq] at h
    cases n with
    | zero => cases hn; exact ⟨o, rfl, h.1⟩
    | succ n => exact lc_swok_at ts os h.2 n t hn
theorem lc_sw_at {α : Type} (x : Int32) (d : Nat) (f : Nat → α) : ∀ (ts : List Nat) (j : Nat), (∃ n t, ts[n]? = some t ∧ x = nI (j + n) ∧ lc_sw x (nI j) d f ts = f t) ∨ ((∀ n, n < ts.length → ¬ x = nI (j + n)) ∧ lc_sw x (nI j) d f ts = f d)
  | [], j => Or.inr ⟨fun n h => by simp at h, rfl⟩
  | t :: ts, j => by
    unfold lc_sw
    by_cases hx : x = nI j
    · rw [if_pos hx]
      exact Or.inl ⟨0, t, rfl, hx, rfl⟩
    · rw [if_neg hx, nI_1]
      rcases lc_sw_at x d f ts (j + 1) with ⟨n, t', h1, h2, h3⟩ | ⟨h1, h2⟩
      · exact Or.inl ⟨n + 1, t', h1, by rw [h2]; congr 1; omega, h3⟩
      · refine Or.inr ⟨fun n hn => ?_, h2⟩
        cases n with
        | zero => exact hx
        | succ n => rw [show j + (n + 1) = j + 1 + n by omega]; exact h1 n (by simpa using hn)
theorem lc_dfl_is (a : Nat) : ∀ v ∈ lc_dfl a, v = .int 0 ∨ v = .null := by
  unfold lc_dfl
  split <;> decide +kernel
theorem lc_dfl_cv {a : Nat} {ad : Nat → Nat} : (lc_dfl a).mapIdx (fun _ v => lc_cv ad 0 v) = lc_dfl a := by
  apply List.ext_getElem?
  intro i
  rw [List.getElem?_mapIdx]
  cases h : (lc_dfl a)[i]? with
  | none => rfl
  | some v =>
    rcases lc_dfl_is a v (List.mem_of_getElem? h) with q | q
    · rw [q]; rfl
    · rw [q]; rfl
theorem lc_ini_ns : ∀ k, k < lc_NM → (lc_mY k).name = "<init>" → (lc_mP k).2.2.2.2 = false := by decide +kernel
set_option maxHeartbeats 8000000 in
theorem lc_in_body {f : lc_F} (hI : lc_In f) (hM : lc_Mo f) : lc_In (lc_body f) := by
  intro p l e s m args below meth c B D cI cZ d k ad0 Sh0 res hC ad pc lst st Sh M ls H locs cells slots h hL hlen hR e1 e2
  obtain ⟨hk, hx, hb, hml, hown, hts, hr, hlocks, hmn, hK, hB, hN⟩ := id hC
  obtain ⟨hP, hD, hS, hL0, hL1, had⟩ := id hR
  have hA : ∀ q : Nat, s.heap.size ≤ q → B ≤ q := fun q h => Nat.le_trans hB h
  have hmls : c.maxLocals = ls.size := by rw [hml, hL.1, hlen]
  have hfix : CallFix p m c (lc_mC k) (lc_mL k) s args lc_tt (lc_mY k).cls := ⟨hx, hb, hml, hown, hts⟩
  have hsz : ls.size = lc_mL k := by rw [hL.1, hlen]
  -- on, with the cells as they are
  have go : ∀ (pc' : Nat) (st' : List Value), f d k pc' lst st' Sh M = some res → W p l e (lc_rm d Sh0 res.2.1) s m args below meth c H locs cells slots (MQ below (lc_Post B D cI cZ ad0 Sh0 res) args s (res.2.1.length - Sh0.length) (lc_sz res.2.1 - lc_sz Sh0) (fun q => B ≤ q)) (F0 m pc' ls (st'.map (lc_em ad))) :=
    fun pc' st' h' => hI p l e s m args below meth c B D cI cZ d k ad0 Sh0 res hC ad pc' lst st' Sh M ls H locs cells slots h' hL hlen hR e1 e2
  have hmo0 : Sh.length ≤ res.2.1.length ∧ lc_sz Sh ≤ lc_sz res.2.1 := lc_mo_body hM d k pc lst st Sh M res h
  have hrow : lc_rok k pc (lc_fetch k pc) = true := lc_qa k hk pc
  unfold lc_body at h
  split at h
  · cases h
  · rename_i i a b v w pl ts hf
    rw [hf] at hrow
    split at h
    · rename_i cn lst' st' hp
      exact lc_pure_ok hx hb hown hts hrow hp hL (fun ls' hL' hl' => hI p l e s m args below meth c B D cI cZ d k ad0 Sh0 res hC ad _ lst' st' Sh M ls' H locs cells slots h hL' (hl'.trans hlen) hR e1 e2)
    · split at h
      -- idiv
      · split at h
        · split at h
          · cases h
          · rename_i hne
            exact lv_idiv hx hb (lc_dec_ok hrow) hne (go _ _ h)
        · cases h
      -- irem
      · split at h
        · split at h
          · cases h
          · rename_i hne
            exact lv_irem hx hb (lc_dec_ok hrow) hne (go _ _ h)
        · cases h
      -- ldiv
      · split at h
        · split at h
          · cases h
          · rename_i hne
            exact lv_ldiv hx hb (lc_dec_ok hrow) hne (go _ _ h)
        · cases h
      -- lrem
      · split at h
        · split at h
          · cases h
          · rename_i hne
            exact lv_lrem hx hb (lc_dec_ok hrow) hne (go _ _ h)
        · cases h
      -- if_icmp
      · rename_i cd o _
        simp only [lc_rok, Bool.and_eq_true, decide_eq_true_eq] at hrow
        split at h
        · cases cd <;> simp only [lc_if] at h
          · exact lv_icmp_eq hx hb (lc_dec_ok hrow.1) hrow.2 (fun q => by rw [if_pos q] at h; exact go _ _ h) (fun q => by rw [if_neg q] at h; exact go _ _ h)
          · exact lv_icmp_ne hx hb (lc_dec_ok hrow.1) hrow.2 (fun q => by rw [if_pos q] at h; exact go _ _ h) (fun q => by rw [if_neg (fun z => z q)] at h; exact go _ _ h)
          · exact lv_icmp_lt hx hb (lc_dec_ok hrow.1) hrow.2 (fun q => by rw [if_pos q] at h; exact go _ _ h) (fun q => by rw [if_neg q] at h; exact go _ _ h)
          · exact lv_icmp_ge hx hb (lc_dec_ok hrow.1) hrow.2 (fun q => by rw [if_pos q] at h; exact go _ _ h) (fun q => by rw [if_neg q] at h; exact go _ _ h)
          · exact lv_icmp_gt hx hb (lc_dec_ok hrow.1) hrow.2 (fun q => by rw [if_pos q] at h; exact go _ _ h) (fun q => by rw [if_neg q] at h; exact go _ _ h)
          · exact lv_icmp_le hx hb (lc_dec_ok hrow.1) hrow.2 (fun q => by rw [if_pos q] at h; exact go _ _ h) (fun q => by rw [if_neg q] at h; exact go _ _ h)
        · cases h
      -- ifCond
      · rename_i cd o _
        simp only [lc_rok, Bool.and_eq_true, decide_eq_true_eq] at hrow
        split at h
        · cases cd <;> simp only [lc_if] at h
          · exact lv_if_eq hx hb (lc_dec_ok hrow.1) hrow.2 (fun q => by rw [if_pos q] at h; exact go _ _ h) (fun q => by rw [if_neg q] at h; exact go _ _ h)
          · exact lv_if_ne hx hb (lc_dec_ok hrow.1) hrow.2 (fun q => by rw [if_pos q] at h; exact go _ _ h) (fun q => by rw [if_neg (fun z => z q)] at h; exact go _ _ h)
          · exact lv_if_lt hx hb (lc_dec_ok hrow.1) hrow.2 (fun q => by rw [if_pos q] at h; exact go _ _ h) (fun q => by rw [if_neg q] at h; exact go _ _ h)
          · exact lv_if_ge hx hb (lc_dec_ok hrow.1) hrow.2 (fun q => by rw [if_pos q] at h; exact go _ _ h) (fun q => by rw [if_neg q] at h; exact go _ _ h)
          · exact lv_if_gt hx hb (lc_dec_ok hrow.1) hrow.2 (fun q => by rw [if_pos q] at h; exact go _ _ h) (fun q => by rw [if_neg q] at h; exact go _ _ h)
          · exact lv_if_le hx hb (lc_dec_ok hrow.1) hrow.2 (fun q => by rw [if_pos q] at h; exact go _ _ h) (fun q => by rw [if_neg q] at h; exact go _ _ h)
        · cases h
      -- goto
      · simp only [lc_rok, Bool.and_eq_true, decide_eq_true_eq] at hrow
        exact lv_goto hx hb (lc_dec_ok hrow.1) hrow.2 (go _ _ h)
      -- tableswitch
      · rename_i df lo hi os _
        simp only [lc_rok, Bool.and_eq_true, decide_eq_true_eq] at hrow
        obtain ⟨⟨⟨⟨⟨hd, hlo⟩, hhi⟩, hdf⟩, hsw⟩, h100⟩ := hrow
        split at h
        · rename_i x st0 _
          subst hlo
          rcases lc_sw_at x b (fun t => f d k t lst st0 Sh M) ts 0 with ⟨n, t, g1, g2, g3⟩ | ⟨g1, g2⟩
          · rw [nI_0] at g3
            rw [g3] at h
            obtain ⟨off, o1, o2⟩ := lc_swok_at ts os.toList hsw n t g1
            have hn : n < ts.length := (List.getElem?_eq_some_iff.mp g1).1
            have hxi : x.toInt = (n : Int) := by rw [g2, Nat.zero_add, nI_toInt (by omega)]
            exact lv_tableIn hx hb (lc_dec_ok hd) (by omega) (by omega) (off := off) (by rw [show (x.toInt - 0).toNat = n by omega]; rw [← Array.getElem?_toList]; exact o1) o2 (go _ _ h)
          · rw [nI_0] at g2
            rw [g2] at h
            refine lv_tableOut hx hb (lc_dec_ok hd) ?_ hdf (go _ _ h)
            by_cases q : x.toInt < 0
            · exact Or.inl q
            · refine Or.inr (Int.not_le.mp (fun z => ?_))
              have hlt : x.toInt.toNat < ts.length := by omega
              refine g1 x.toInt.toNat hlt ?_
              rw [Nat.zero_add]
              apply Int32.toInt_inj.mp
              rw [nI_toInt (by omega)]
              omega
        · cases h
      -- getfield
      · exact lc_getf_ok hx hb hown hts hK hrow h hP (fun st' h' => go _ _ h')
      -- putfield
      · exact lc_putf_ok hx hb hown hts hK hmn hrow h hP hD hS (fun st' Sh' M' H1 locs1 h' q1 q2 hP' hD' hS' => hI p l e s m args below meth c B D cI cZ d k ad0 Sh0 res hC ad _ lst st' Sh' M' ls H1 locs1 cells slots h' hL hlen ⟨hP', hD', hS', by omega, by omega, fun i hi => had i (by rw [← q1]; exact hi)⟩ (by omega) (by omega))
      -- iaload, baload
      · exact lc_ald_ok (z := false) hx hb hK (lc_dec_ok hrow) h hP (fun st' h' => go _ _ h')
      · exact lc_ald_ok (z := true) hx hb hK (lc_dec_ok hrow) h hP (fun st' h' => go _ _ h')
      -- iastore, bastore
      · exact lc_ast_ok (z := false) hx hb hK (lc_dec_ok hrow) h hP hD hS (fun st' M' H1 locs1 h' hP' hD' hS' => hI p l e s m args below meth c B D cI cZ d k ad0 Sh0 res hC ad _ lst st' Sh M' ls H1 locs1 cells slots h' hL hlen ⟨hP', hD', hS', hL0, hL1, had⟩ e1 e2)
      · exact lc_ast_ok (z := true) hx hb hK (lc_dec_ok hrow) h hP hD hS (fun st' M' H1 locs1 h' hP' hD' hS' => hI p l e s m args below meth c B D cI cZ d k ad0 Sh0 res hC ad _ lst st' Sh M' ls H1 locs1 cells slots h' hL hlen ⟨hP', hD', hS', hL0, hL1, had⟩ e1 e2)
      -- new
      · rename_i x _
        obtain ⟨hw, h⟩ := lc_bif h
        simp only [Bool.and_eq_true] at hw
        obtain ⟨⟨hw1, hw2⟩, hw3⟩ := hw
        simp only [lc_rok, Bool.and_eq_true] at hrow
        obtain ⟨hd, hcl⟩ := hrow
        split at hcl
        · rename_i C T N hc
          obtain ⟨hin, hins, hini, -, hty, hdl, hdv⟩ := lc_cls hc
          have hmo := hM _ _ _ _ _ _ _ _ h
          rw [lc_sz_app, List.length_append] at hmo
          have hmo1 : Sh.length + 1 ≤ res.2.1.length := hmo.1
          have hmo2 : lc_sz Sh + N ≤ lc_sz res.2.1 := by
            have := hmo.2
            rw [show lc_size (.inr (a, lc_dfl a)) = N from hdl] at this
            exact this
          have hcells : cells + 1 ≤ (lc_rm d Sh0 res.2.1).cells := by
            show cells + 1 ≤ res.2.1.length - Sh0.length
            omega
          have hslots : slots + N ≤ (lc_rm d Sh0 res.2.1).slots := by
            show slots + N ≤ lc_sz res.2.1 - lc_sz Sh0
            omega
          refine va_new (ci := a) (C := C) (T := T) (N := N) (fs := lc_dfl a) hx hb hts (lc_u_tt hin) (lc_ty a) hty hown (hts _ (lc_isW_tt hcl rfl)) (hts _ (lc_tt_in hins rfl)) (hts _ (lc_tt_in hini rfl)) hK hP hD hS hA hc hdv hcells hslots (lc_dec_ok hd) (fun q H1 hP1 hD1 hS1 => ?_)
          have hce : lc_ce (lc_ext ad Sh.length q) cI cZ (fun _ => 0) (.inr (a, lc_dfl a)) = .inr (a, lc_dfl a) := by
            show (Sum.inr (a, _) : va_E) = _
            rw [lc_dfl_cv]
          have hpu := lc_ws_push (ad := ad) (cI := cI) (cZ := cZ) (M := M) (q := q) (c := .inr (a, lc_dfl a)) hw1
          rw [hce] at hpu
          rw [hpu] at hP1 hD1
          have hst : Value.ref q :: st.map (lc_em ad) = (Value.ref Sh.length :: st).map (lc_em (lc_ext ad Sh.length q)) := by
            rw [List.map_cons, lc_map_wf (ad := ad) (ad' := lc_ext ad Sh.length q) (fun i hi => lc_ext_lt hi) hw3]
            show _ = Value.ref (lc_ext ad Sh.length q Sh.length) :: _
            rw [lc_ext_at]
          rw [hst]
          refine hI p l e s m args below meth c B D cI cZ d k ad0 Sh0 res hC (lc_ext ad Sh.length q) _ lst _ _ _ ls H1 locs _ _ h (hL.ad (fun i hi => lc_ext_lt hi) hw2) hlen ⟨hP1, hD1, hS1, ?_, ?_, fun i hi => ?_⟩ ?_ ?_
          · rw [List.length_append]; omega
          · rw [lc_sz_app]; omega
          · rw [List.length_append] at hi
            have hne : i ≠ Sh.length := fun z => hi ⟨by omega, by rw [z]; exact Nat.lt_succ_self _⟩
            rw [show lc_ext ad Sh.length q i = ad i from if_neg hne]
            exact had i (fun z => hi ⟨z.1, Nat.lt_succ_of_lt z.2⟩)
          · rw [List.length_append]
            show cells + 1 = Sh.length + 1 - Sh0.length
            omega
          · rw [lc_sz_app, show lc_size (.inr (a, lc_dfl a)) = N from hdl]; omega
        · cases hcl
      -- newarray
      · rename_i at0 _
        split at h
        · rename_i x st0 _
          split at h
          · cases h
          · rename_i hxx
            obtain ⟨hw, h⟩ := lc_bif h
            simp only [Bool.and_eq_true] at hw
            obtain ⟨⟨hw1, hw2⟩, hw3⟩ := hw
            have hx0 : ¬ x < 0 := fun z => hxx (Or.inl z)
            have hxn : x.toNatClampNeg ≤ 100000 := Nat.not_lt.mp (fun z => hxx (Or.inr z))
            -- one new row of ints, int or boolean
            have mk : ∀ (z : Bool) (ty : FieldType) (aty : ArrayType), newarray.typeOf aty = ty → componentBytes ty ≤ 4 → (Cond.arrayClass (newarray.typeOf aty)).before args s = true → (∀ cA : ClassId, vp_cell cA (x.toNatClampNeg, .inl (fun _ => 0)) = arrV cA x.toNatClampNeg (fun _ => defaultValue ty)) →
                (∀ cA : ClassId, va_K D lc_cl (lc_tys cI cZ ++ [(cA, ty)]) s → cA = bif z then cZ else cI) → decode (lc_mC k) pc = .ok (.newarray aty, 2) → f d k (pc + 2) lst (.ref Sh.length :: st0) (Sh ++ [.inl (z, x.toNatClampNeg)]) (lc_set M Sh.length (fun _ => 0)) = some res →
                W p l e (lc_rm d Sh0 res.2.1) s m args below meth c H locs cells slots (MQ below (lc_Post B D cI cZ ad0 Sh0 res) args s (res.2.1.length - Sh0.length) (lc_sz res.2.1 - lc_sz Sh0) (fun q => B ≤ q)) (F0 m pc ls (.int x :: st0.map (lc_em ad))) := by
              intro z ty aty hty hcb har hcell hcA hd h
              have hmo := hM _ _ _ _ _ _ _ _ h
              rw [lc_sz_app, List.length_append] at hmo
              have hmo1 : Sh.length + 1 ≤ res.2.1.length := hmo.1
              have hmo2 : lc_sz Sh + x.toNatClampNeg ≤ lc_sz res.2.1 := hmo.2
              have hcells : cells + 1 ≤ (lc_rm d Sh0 res.2.1).cells := by
                show cells + 1 ≤ res.2.1.length - Sh0.length
                omega
              have hslots : slots + x.toNatClampNeg ≤ (lc_rm d Sh0 res.2.1).slots := by
                show slots + _ ≤ lc_sz res.2.1 - lc_sz Sh0
                omega
              have hby : x.toNatClampNeg * componentBytes ty ≤ 536870912 := Nat.le_trans (Nat.mul_le_mul hxn hcb) (Nat.le_of_ble_eq_true rfl)
              refine va_newa (atype := aty) (ty := ty) (N' := x.toNatClampNeg) (a0 := (x.toNatClampNeg, .inl (fun _ => 0))) hx hb har hty hK hP hD hS hA hcell hx0 rfl hby hcells hslots hd (fun q cA H1 hK1 hP1 hD1 hS1 => ?_)
              have hcz := hcA cA hK1
              subst hcz
              have hpu := lc_ws_push (ad := ad) (cI := cI) (cZ := cZ) (M := M) (q := q) (c := .inl (z, x.toNatClampNeg)) hw1
              rw [show lc_ce (lc_ext ad Sh.length q) cI cZ (fun _ => 0) (.inl (z, x.toNatClampNeg)) = .inl (bif z then cZ else cI, x.toNatClampNeg, .inl (fun _ => 0)) from rfl] at hpu
              rw [hpu] at hP1 hD1
              have hst : Value.ref q :: st0.map (lc_em ad) = (Value.ref Sh.length :: st0).map (lc_em (lc_ext ad Sh.length q)) := by
                rw [List.map_cons, lc_map_wf (ad := ad) (ad' := lc_ext ad Sh.length q) (fun i hi => lc_ext_lt hi) hw3]
                show _ = Value.ref (lc_ext ad Sh.length q Sh.length) :: _
                rw [lc_ext_at]
              rw [hst]
              refine hI p l e s m args below meth c B D cI cZ d k ad0 Sh0 res hC (lc_ext ad Sh.length q) _ lst _ _ _ ls H1 locs _ _ h (hL.ad (fun i hi => lc_ext_lt hi) hw2) hlen ⟨hP1, hD1, hS1, ?_, ?_, fun i hi => ?_⟩ ?_ ?_
              · rw [List.length_append]; omega
              · rw [lc_sz_app]; omega
              · rw [List.length_append] at hi
                have hne : i ≠ Sh.length := fun z => hi ⟨by omega, by rw [z]; exact Nat.lt_succ_self _⟩
                rw [show lc_ext ad Sh.length q i = ad i from if_neg hne]
                exact had i (fun z => hi ⟨z.1, Nat.lt_succ_of_lt z.2⟩)
              · rw [List.length_append]
                show cells + 1 = Sh.length + 1 - Sh0.length
                omega
              · rw [lc_sz_app]
                show slots + x.toNatClampNeg = lc_sz Sh + x.toNatClampNeg - lc_sz Sh0
                omega
            have hdec := lc_dec_ok hrow
            split at h
            · exact mk false .int .int rfl (Nat.le_of_ble_eq_true rfl) (hts _ (lc_isW_tt lc_w_ai rfl)) (fun _ => rfl) (fun cA q => by
                have q1 : s.vm.findClass _ = some cA := (q.2 2 _ rfl).2
                have q2 : s.vm.findClass _ = some cI := (hK.2 0 _ rfl).2
                exact Option.some.inj (q1.symm.trans q2)) hdec h
            · exact mk true .boolean .boolean rfl (Nat.le_of_ble_eq_true rfl) (hts _ (lc_isW_tt lc_w_az rfl)) (fun _ => rfl) (fun cA q => by
                have q1 : s.vm.findClass _ = some cA := (q.2 2 _ rfl).2
                have q2 : s.vm.findClass _ = some cZ := (hK.2 1 _ rfl).2
                exact Option.some.inj (q1.symm.trans q2)) hdec h
            · cases h
        · cases h
      -- invokespecial
      · rename_i x _
        split at h
        · cases h
        · rename_i d'
          have hrmf : (lc_rm (d' + 1) Sh0 res.2.1).frames = d' + 1 := rfl
          have hrml : (lc_rm (d' + 1) Sh0 res.2.1).locals = 27 * (d' + 1) := rfl
          split at h
          · simp only [lc_rok, Bool.and_eq_true] at hrow
            split at h
            · obtain ⟨hfw, h⟩ := lc_bif h
              have h8 := lc_few_sum (ad := ad) hfw
              exact W.objInit hx hb hown (hts _ (lc_isW_tt hrow.2 rfl)) (hts _ (lc_isW_tt lc_w_ob1 rfl)) (hts _ (lc_isW_tt lc_w_ob2 rfl)) rfl (by show ls.size = _; rw [hmls]) rfl (lc_dec_ok hrow.1) (by rw [hrmf]; omega) (by rw [hrml]; show 2 * 0 + _ + 12 ≤ _; omega) (go _ _ h)
            · cases h
          · simp only [lc_rok, Bool.and_eq_true, decide_eq_true_eq] at hrow
            obtain ⟨hd, ⟨ha, hini⟩, hlk⟩ := hrow
            split at h
            · rename_i as r st0 hpop
              obtain ⟨hfw, h⟩ := lc_bif h
              simp only [Bool.and_eq_true] at hfw
              obtain ⟨hfw, hfl⟩ := hfw
              obtain ⟨Sh', M', h1, hok, h⟩ := lc_backI_inv h
              have hm1 := hM _ _ _ _ _ _ _ _ h1
              have hm2 := hM _ _ _ _ _ _ _ _ h
              obtain ⟨hpl, hps⟩ := lc_pop_ok hpop ad
              obtain ⟨f1, f2, -, f3, -, f5, f6, f7⟩ := lc_mfacts ha
              have f4 := f7 hini
              have hsta : (lc_mP a).2.2.2.2 = false := lc_ini_ns a ha hini
              obtain ⟨g1, -⟩ := f3 hsta
              have hM1 : lc_Con l B D cI cZ ad d' a (.ref r :: as) Sh M (none, Sh', M') := lc_con hI ha (Nat.ble_eq.mp hfl) h1
              have hcb : CallB (lc_rm (d' + 1) Sh0 res.2.1) s args (lc_mY k).cls x (lc_mY a) (lc_mC a) (lc_mL a) none (lc_w a) (lc_rm d' Sh Sh') (Sh'.length - Sh.length) (lc_sz Sh' - lc_sz Sh) (lc_mN a) :=
                callB_of (Ts := lc_tt) (lc_mN a) hts (lc_good ha) (by rw [← f4]; rfl) rfl rfl (hts _ (lc_tt_in f2 rfl)) (hts _ (lc_isW_tt hlk rfl)) f5 ⟨by rw [hrmf]; exact Nat.le_refl _, by rw [hrml]; show 8 + (lc_mL a + 11) + 27 * d' ≤ _; omega⟩
              have hrun := va_runI (e := e) (below := below) (meth := meth) (locs := locs) (cells := cells) (slots := slots) (g := F0 m pc ls (st.map (lc_em ad))) (As := as.map (lc_em ad)) (rest := st0.map (lc_em ad)) (b := ad r) hfix hM1 ⟨hcb, hini, hts _ (lc_tt_in g1 rfl)⟩ ⟨lc_blind, fun U hU hW => ⟨rfl, lc_preat hC hR hU hW⟩⟩ rfl (by rw [List.length_map]; exact hpl) hsz (by rw [hps]; rfl) (lv_room (lc_few_sum hfw)) (lc_dec_ok hd) ⟨by show cells + _ ≤ res.2.1.length - Sh0.length; have := hm1.1; have := hm2.1; dsimp only at *; omega, by show slots + _ ≤ lc_sz res.2.1 - lc_sz Sh0; have := hm1.2; have := hm2.2; dsimp only at *; omega⟩
              exact lc_after hI hC (r1 := (none, Sh', M')) hrun h (Or.inl rfl) (hok.imp id (fun z => by simpa using z)) hm1.1 hm1.2 hL hlen hR e1 e2
            · cases h
          · cases h
      -- invokevirtual
      · rename_i x _
        split at h
        · cases h
        · rename_i d'
          have hrmf : (lc_rm (d' + 1) Sh0 res.2.1).frames = d' + 1 := rfl
          have hrml : (lc_rm (d' + 1) Sh0 res.2.1).locals = 27 * (d' + 1) := rfl
          split at h
          · rename_i as r st0 hpop
            split at h
            · rename_i ci fs hsr
              obtain ⟨hfw, h2⟩ := lc_bif h
              clear h
              simp only [Bool.and_eq_true] at hfw
              obtain ⟨⟨hci, hfw⟩, hfl⟩ := hfw
              have hcib : ci = b := Nat.eq_of_beq_eq_true hci
              subst hcib
              simp only [lc_rok, Bool.and_eq_true, decide_eq_true_eq, Bool.not_eq_true'] at hrow
              obtain ⟨⟨⟨⟨⟨hd, ha⟩, hst⟩, hni⟩, hcls⟩, hlk⟩ := hrow
              obtain ⟨o, Sh', M', h1, hlen1, ho, h⟩ := lc_back_inv h2
              have hm1 := hM _ _ _ _ _ _ _ _ h1
              have hm2 := hM _ _ _ _ _ _ _ _ h
              obtain ⟨hpl, hps⟩ := lc_pop_ok hpop ad
              obtain ⟨f1, f2, -, f3, -, f5, f6, -⟩ := lc_mfacts ha
              obtain ⟨g1, g2⟩ := f3 hst
              have g3 : Cond.selects (lc_mY a).cls (lc_mY a) (lc_mY a) ∈ lw_tbl := g2.resolve_left hni
              have hrec : ∃ cell : Cell, H[ad r]? = some cell ∧ cell.vm.isStatics = false ∧ s.vm.findClass (lc_mY a).cls = some cell.cls := by
                cases hq : lc_cl[ci]? with
                | none => rw [hq] at hcls; cases hcls
                | some q =>
                  rw [hq] at hcls
                  have hqc : q.1 = (lc_mY a).cls := Option.some.inj hcls
                  have := va_recv (s := s) (H := H) hK hP hq (lc_ws_at hsr)
                  rw [hqc] at this
                  exact this
              have hM1 : lc_Con l B D cI cZ ad d' a (.ref r :: as) Sh M (o, Sh', M') := lc_con hI ha (Nat.ble_eq.mp hfl) h1
              have hcw : CallW (lc_rm (d' + 1) Sh0 res.2.1) s args (lc_mY k).cls (lc_mY a).cls x (lc_mY a) (lc_mC a) (lc_mL a) (lc_mR a) (lc_w a) (lc_rm d' Sh Sh') (Sh'.length - Sh.length) (lc_sz Sh' - lc_sz Sh) (lc_mN a) :=
                ⟨callB_of (Ts := lc_tt) (lc_mN a) hts (lc_good ha) rfl rfl rfl (hts _ (lc_tt_in f2 rfl)) (hts _ (lc_isW_tt hlk rfl)) f5 ⟨by rw [hrmf]; exact Nat.le_refl _, by rw [hrml]; show 8 + (lc_mL a + 11) + 27 * d' ≤ _; omega⟩, hts _ (lc_tt_in g1 rfl), hts _ (lc_tt_in g3 rfl)⟩
              have hrun := va_runV (e := e) (below := below) (meth := meth) (locs := locs) (cells := cells) (slots := slots) (g := F0 m pc ls (st.map (lc_em ad))) (As := as.map (lc_em ad)) (rest := st0.map (lc_em ad)) (b := ad r) hfix hM1 hcw ⟨lc_blind, hrec, fun U hU hW => ⟨rfl, lc_preat hC hR hU hW⟩⟩ rfl (by rw [List.length_map]; exact hpl) hsz (by rw [hps]; rfl) (lv_room (lc_few_sum hfw)) (lc_dec_ok hd) ⟨by show cells + _ ≤ res.2.1.length - Sh0.length; have := hm1.1; have := hm2.1; dsimp only at *; omega, by show slots + _ ≤ lc_sz res.2.1 - lc_sz Sh0; have := hm1.2; have := hm2.2; dsimp only at *; omega⟩
              exact lc_after hI hC (r1 := (o, Sh', M')) hrun h ho (Or.inl hlen1) hm1.1 hm1.2 hL hlen hR e1 e2
            · cases h
          · cases h
      -- invokestatic
      · rename_i x _
        split at h
        · cases h
        · rename_i d'
          have hrmf : (lc_rm (d' + 1) Sh0 res.2.1).frames = d' + 1 := rfl
          have hrml : (lc_rm (d' + 1) Sh0 res.2.1).locals = 27 * (d' + 1) := rfl
          have hmo : Sh.length ≤ res.2.1.length ∧ lc_sz Sh ≤ lc_sz res.2.1 := hmo0
          have hce : cells ≤ (lc_rm (d' + 1) Sh0 res.2.1).cells := by show cells ≤ res.2.1.length - Sh0.length; omega
          have hsl : slots ≤ (lc_rm (d' + 1) Sh0 res.2.1).slots := by show slots ≤ lc_sz res.2.1 - lc_sz Sh0; omega
          split at h
          · simp only [lc_rok, Bool.and_eq_true] at hrow
            exact lc_cpy_ok hx hb hmls hown hts hK (lc_dec_ok hrow.1) (hts _ (lc_isW_tt hrow.2 rfl)) (by rw [hrmf]; omega) (by rw [hrml]; omega) h hP hD hS (fun st' M' H1 locs1 h' hP' hD' hS' => hI p l e s m args below meth c B D cI cZ (d' + 1) k ad0 Sh0 res hC ad _ lst st' Sh M' ls H1 locs1 cells slots h' hL hlen ⟨hP', hD', hS', hL0, hL1, had⟩ e1 e2)
          · simp only [lc_rok, Bool.and_eq_true] at hrow
            split at h
            · obtain ⟨hfw, h⟩ := lc_bif h
              have h8 := lc_few_sum (ad := ad) hfw
              exact va_mmax hx hb hmls hown (hts _ (lc_isW_tt hrow.2 rfl)) (hts _ (lc_isW_tt lc_w_mx1 rfl)) (hts _ (lc_isW_tt lc_w_ma rfl)) (hts _ (lc_isW_tt lc_w_mx2 rfl)) (by rw [hrmf]; omega) (by rw [hrml]; omega) hce hsl (lc_dec_ok hrow.1) (go _ _ h)
            · cases h
          · simp only [lc_rok, Bool.and_eq_true] at hrow
            split at h
            · obtain ⟨hfw, h⟩ := lc_bif h
              have h8 := lc_few_sum (ad := ad) hfw
              exact va_mmin hx hb hmls hown (hts _ (lc_isW_tt hrow.2 rfl)) (hts _ (lc_isW_tt lc_w_mn1 rfl)) (hts _ (lc_isW_tt lc_w_ma rfl)) (hts _ (lc_isW_tt lc_w_mn2 rfl)) (by rw [hrmf]; omega) (by rw [hrml]; omega) hce hsl (lc_dec_ok hrow.1) (go _ _ h)
            · cases h
          · rename_i hb2 hb4 hb5
            split at h
            · rename_i as st0 hpop
              obtain ⟨hfw, h2⟩ := lc_bif h
              clear h
              simp only [Bool.and_eq_true] at hfw
              obtain ⟨hfw, hfl⟩ := hfw
              obtain ⟨o, Sh', M', h1, hlen1, ho, h⟩ := lc_back_inv h2
              have hm1 := hM _ _ _ _ _ _ _ _ h1
              have hm2 := hM _ _ _ _ _ _ _ _ h
              obtain ⟨hpl, hps⟩ := lc_pop_ok hpop ad
              have hroom : cells + (Sh'.length - Sh.length) ≤ (lc_rm (d' + 1) Sh0 res.2.1).cells ∧ slots + (lc_sz Sh' - lc_sz Sh) ≤ (lc_rm (d' + 1) Sh0 res.2.1).slots := ⟨by show cells + _ ≤ res.2.1.length - Sh0.length; have := hm1.1; have := hm2.1; dsimp only at *; omega, by show slots + _ ≤ lc_sz res.2.1 - lc_sz Sh0; have := hm1.2; have := hm2.2; dsimp only at *; omega⟩
              by_cases hb3 : b = 3
              · subst hb3
                simp only [lc_rok, Bool.and_eq_true, decide_eq_true_eq] at hrow
                obtain ⟨hd, ⟨ha, hst⟩, hlk⟩ := hrow
                obtain ⟨f1, f2, f3, -, -, f5, f6, -⟩ := lc_mfacts ha
                have hM1 : lc_Con l B D cI cZ ad d' a as Sh M (o, Sh', M') := lc_con hI ha (Nat.ble_eq.mp hfl) h1
                have hcn : va_CN (lc_rm (d' + 1) Sh0 res.2.1) s args (lc_mY k).cls x (lc_mY a) "LaceLines" (lc_mC a) (lc_mL a) (lc_mR a) (lc_w a) (lc_rm d' Sh Sh') (Sh'.length - Sh.length) (lc_sz Sh' - lc_sz Sh) (lc_mN a) :=
                  va_cnB (Ts := lc_tt) (lc_mN a) hts (lc_good ha) rfl rfl rfl (hN _ _ _ _ (lc_isW_in hlk)) (hts _ (lc_tt_in f2 rfl)) f5 ⟨by rw [hrmf]; exact Nat.le_refl _, by rw [hrml]; show 8 + (lc_mL a + 11) + 27 * d' ≤ _; omega⟩
                have hrun := va_runSN (e := e) (below := below) (meth := meth) (locs := locs) (cells := cells) (slots := slots) (g := F0 m pc ls (st.map (lc_em ad))) (As := as.map (lc_em ad)) (rest := st0.map (lc_em ad)) hfix hM1 ⟨hcn, hts _ (lc_tt_in (f3 hst) rfl), trivial⟩ ⟨lc_blind, fun U hU hW => ⟨rfl, lc_preat hC hR hU hW⟩⟩ rfl (by rw [List.length_map]; exact hpl) hsz hps (lv_room (lc_few_sum hfw)) (lc_dec_ok hd) hroom
                exact lc_after hI hC (r1 := (o, Sh', M')) hrun h ho (Or.inl hlen1) hm1.1 hm1.2 hL hlen hR e1 e2
              · have hrow2 : lc_dec k pc (.invokestatic x) 3 = true ∧ ((a < lc_NM ∧ (lc_mP a).2.2.2.2 = true) ∧ lc_isW pl (.methodLink (lc_mY k).cls x (lc_mY a)) = true) := by
                  simp only [lc_rok, Bool.and_eq_true] at hrow
                  obtain ⟨q1, q2⟩ := hrow
                  exact ⟨q1, ⟨of_decide_eq_true q2.1.1, q2.1.2⟩, q2.2⟩
                obtain ⟨hd, ⟨ha, hst⟩, hlk⟩ := hrow2
                obtain ⟨f1, f2, f3, -, -, f5, f6, -⟩ := lc_mfacts ha
                have hM1 : lc_Con l B D cI cZ ad d' a as Sh M (o, Sh', M') := lc_con hI ha (Nat.ble_eq.mp hfl) h1
                have hcb : CallB (lc_rm (d' + 1) Sh0 res.2.1) s args (lc_mY k).cls x (lc_mY a) (lc_mC a) (lc_mL a) (lc_mR a) (lc_w a) (lc_rm d' Sh Sh') (Sh'.length - Sh.length) (lc_sz Sh' - lc_sz Sh) (lc_mN a) :=
                  callB_of (Ts := lc_tt) (lc_mN a) hts (lc_good ha) rfl rfl rfl (hts _ (lc_tt_in f2 rfl)) (hts _ (lc_isW_tt hlk rfl)) f5 ⟨by rw [hrmf]; exact Nat.le_refl _, by rw [hrml]; show 8 + (lc_mL a + 11) + 27 * d' ≤ _; omega⟩
                have hrun := va_runS (e := e) (below := below) (meth := meth) (locs := locs) (cells := cells) (slots := slots) (g := F0 m pc ls (st.map (lc_em ad))) (As := as.map (lc_em ad)) (rest := st0.map (lc_em ad)) hfix hM1 ⟨hcb, hts _ (lc_tt_in (f3 hst) rfl)⟩ ⟨lc_blind, fun U hU hW => ⟨rfl, lc_preat hC hR hU hW⟩⟩ rfl (by rw [List.length_map]; exact hpl) hsz hps (lv_room (lc_few_sum hfw)) (lc_dec_ok hd) hroom
                exact lc_after hI hC (r1 := (o, Sh', M')) hrun h ho (Or.inl hlen1) hm1.1 hm1.2 hL hlen hR e1 e2
            · cases h
      -- ireturn
      · split at h
        · split at h
          · rename_i hq
            cases h
            subst e1
            subst e2
            exact W.iret hx hb (hr.trans hq) (fun t ht hW => ⟨ad, had, rfl, by rw [ht]; exact hP, hD, va_K.moved hW.alike hK, hS.F ht⟩) hS.2.2 (lc_dec_ok hrow)
          · rename_i hq
            split at h
            · rename_i hz
              cases h
              subst e1
              subst e2
              exact W.zret hx hb (hr.trans hq) (by rcases hz with rfl | rfl <;> rfl) (fun t ht hW => ⟨ad, had, rfl, by rw [ht]; exact hP, hD, va_K.moved hW.alike hK, hS.F ht⟩) hS.2.2 (lc_dec_ok hrow)
            · cases h
          · cases h
        · cases h
      -- return
      · split at h
        · split at h
          · rename_i hq
            cases h
            subst e1
            subst e2
            exact W.vret hx hb (hr.trans hq) (fun t ht hW => ⟨ad, had, rfl, by rw [ht]; exact hP, hD, va_K.moved hW.alike hK, hS.F ht⟩) hS.2.2 (lc_dec_ok hrow)
          · cases h
        · cases h
      · cases h
theorem lc_mono : ∀ n, lc_Mo (lc_run n)
  | 0 => fun _ _ _ _ _ _ _ _ h => by cases h
  | n + 1 => lc_mo_body (lc_mono n)
/-- THE SMALL MACHINE IS SOUND -/
theorem lc_sound : ∀ n, lc_In (lc_run n)
  | 0 => fun _ _ _ _ _ _ _ _ _ _ _ _ _ _ _ _ _ _ _ _ _ _ _ _ _ _ _ _ _ _ h => by cases h
  | n + 1 => lc_in_body (lc_sound n) (lc_mono n)
