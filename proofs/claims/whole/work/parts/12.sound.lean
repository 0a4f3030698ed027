/-! every run of the small machine is a run of the machine -/
section LcCall
variable {p : Program} {l : Launch} {e : Env} {R : Room} {s : State} {m : MethodId} {args : Array Value} {below : List Frame} {meth : Method} {c : Code} {H : Heap} {locs : List Loc} {cells slots : Nat} {Q : State → Prop}
theorem lc_call {mc ms pc : Nat} {ls : Array Slot} {st0 rest : List Value} {Qa : State → Outcome → State → Prop} {free : Addr → Prop} (hr : va_Run p l e R s m args below meth c H locs cells slots mc ms (F0 m pc ls st0) rest Qa free)
    (kk : ∀ (v : Option Value) (st₀ t : State) (L : List Loc), st₀.heap = H → (∀ q ∈ L, free q.base) → s.vm.Alike t.vm → Qa st₀ (.returned v) t → W p l e R s m args below meth c t.heap (locs ++ L) (cells + mc) (slots + ms) Q (F0 m (pc + 3) ls (v.toList ++ rest))) : W p l e R s m args below meth c H locs cells slots Q (F0 m pc ls st0) := by
  intro T hT X
  obtain ⟨v, st₀, t, T', L, h0, X', hL, e1, e2, hq, st⟩ := hr T hT X
  obtain ⟨t2, a1, b1⟩ := kk v st₀ t L h0 hL (by rw [← e2]; exact X'.warmed.alike) hq T' e1 X'
  exact ⟨t2, st t2 a1, b1⟩
end LcCall
theorem lc_after {f : lc_F} (hI : lc_In f) {p : Program} {l : Launch} {e : Env} {s : State} {m : MethodId} {args : Array Value} {below : List Frame} {meth : Method} {c : Code} {B : Nat} {D : va_G} {cI cZ : ClassId} {d k : Nat} {ad0 : Nat → Nat} {Sh0 : lc_Sh} {res r1 : lc_Res}
    (hC : lc_Cx p s m args meth c B D cI cZ k) {ad : Nat → Nat} {pc : Nat} {lst rest st0 : List Value} {Sh : lc_Sh} {M : lc_M} {ls : Array Slot} {H : Heap} {locs : List Loc} {cells slots : Nat} {A : Array Value}
    (hrun : va_Run p l e (lc_rm d Sh0 res.2.1) s m args below meth c H locs cells slots (r1.2.1.length - Sh.length) (lc_sz r1.2.1 - lc_sz Sh) (F0 m pc ls st0) (rest.map (lc_em ad)) (lc_Post B D cI cZ ad Sh r1 A) (fun q => B ≤ q))
    (h : f d k (pc + 3) lst (r1.1.toList ++ rest) r1.2.1 r1.2.2 = some res) (ho : r1.1 = none ∨ ∃ x, r1.1 = some (.int x)) (hok : r1.2.1.length = Sh.length ∨ (lc_wf Sh.length lst = true ∧ lc_wf Sh.length rest = true)) (hm1 : Sh.length ≤ r1.2.1.length) (hm2 : lc_sz Sh ≤ lc_sz r1.2.1)
    (hL : lc_LV ad ls lst) (hlen : lst.length = lc_mL k) (hR : lc_HR B D cI cZ s ad0 Sh0 ad Sh M H locs) (e1 : cells = Sh.length - Sh0.length) (e2 : slots = lc_sz Sh - lc_sz Sh0) :
    W p l e (lc_rm d Sh0 res.2.1) s m args below meth c H locs cells slots (MQ below (lc_Post B D cI cZ ad0 Sh0 res) args s (res.2.1.length - Sh0.length) (lc_sz res.2.1 - lc_sz Sh0) (fun q => B ≤ q)) (F0 m pc ls st0) := by
  obtain ⟨hP, hD, hS, hL0, hL1, had⟩ := hR
  refine lc_call hrun (fun v st₀ t L h0 hLf hal hq => ?_)
  obtain ⟨ad', ha, hv, hP', hD', hK', hF⟩ := hq
  cases hv
  have hlt : ∀ i, i < Sh.length → ad' i = ad i := fun i hi => ha i (fun q => by omega)
  have hmap : rest.map (lc_em ad') = rest.map (lc_em ad) ∧ lc_LV ad' ls lst := by
    rcases hok with q | q
    · have : ad' = ad := funext fun i => ha i (fun z => by omega)
      subst this
      exact ⟨rfl, hL⟩
    · exact ⟨lc_map_wf hlt q.2, hL.ad hlt q.1⟩
  have hst : (r1.1.map (lc_em ad')).toList ++ rest.map (lc_em ad) = (r1.1.toList ++ rest).map (lc_em ad') := by
    rcases ho with q | ⟨x, q⟩
    · rw [q, ← hmap.1]; rfl
    · rw [q, ← hmap.1]; rfl
  rw [hst]
  refine hI p l e s m args below meth c B D cI cZ d k ad0 Sh0 res hC ad' (pc + 3) lst _ r1.2.1 r1.2.2 ls t.heap (locs ++ L) _ _ h hmap.2 hlen ⟨hP', hD', ?_, by omega, by omega, fun i hi => ?_⟩ (by omega) (by omega)
  · have hF1 := hF.1
    have hF2 := hF.2
    rw [h0] at hF1 hF2
    refine ⟨Nat.le_trans hS.1 hF1, fun q g1 g2 => (hF2 q (Nat.lt_of_lt_of_le g1 hS.1) g2).trans (hS.2.1 q g1 g2), fun q hq => ?_⟩
    rcases List.mem_append.mp hq with z | z
    · exact hS.2.2 q z
    · exact hLf q z
  · rw [ha i (fun q => by omega)]
    exact had i (fun q => by omega)
theorem lc_blind {B : Nat} {D : va_G} {cI cZ : ClassId} {ad : Nat → Nat} {Sh : lc_Sh} {M : lc_M} {av : List Value} : FrameBlind (va_Pc av (lc_Pre B D cI cZ ad Sh M)) := by
  intro a U g mk q
  obtain ⟨q0, q1, q2, q3, q4, q5⟩ := q
  exact ⟨q0, q1, q2, va_K.moved (u := U) (U := U.calling g mk a) (Vm.Alike.refl U.vm) q3, q4, q5.same (U := U.calling g mk a) rfl⟩
theorem lc_preat {p : Program} {s : State} {m : MethodId} {args : Array Value} {meth : Method} {c : Code} {B : Nat} {D : va_G} {cI cZ : ClassId} {k : Nat} (hC : lc_Cx p s m args meth c B D cI cZ k) {ad0 ad : Nat → Nat} {Sh0 Sh : lc_Sh} {M : lc_M} {H : Heap} {locs : List Loc} (hR : lc_HR B D cI cZ s ad0 Sh0 ad Sh M H locs) {U : State} (hU : U.heap = H) (hW : s.WarmedH U.vm) : lc_Pre B D cI cZ ad Sh M U := by
  obtain ⟨-, -, -, -, -, -, -, -, -, hK, hB, hN⟩ := hC
  obtain ⟨hP, hD, hS, -⟩ := hR
  exact ⟨by rw [hU]; exact Nat.le_trans hB hS.1, by rw [hU]; exact hP, va_K.moved hW.alike hK, hD, hN.warm hW⟩
theorem lc_swok_at {pc : Nat} : ∀ (ts : List Nat) (os : List Int), lc_swok pc ts os = true → ∀ (n t : Nat), ts[n]? = some t → ∃ o, os[n]? = some o ∧ (pc : Int) + o = (t : Int)
  | [], _, _, n, t, h => by simp at h
  | t0 :: ts, [], h, _, _, _ => by cases h
  | t0 :: ts, o :: os, h, n, t, hn => by
    simp only [lc_swok, Bool.and_eq_true, decide_eq_true_eq] at h
    cases n with
    | zero => cases hn; exact ⟨o, rfl, h.1⟩
    | succ n => exact lc_swok_at ts os h.2 n t hn
theorem lc_sw_at {α : Type} (x : Int32) (d : Nat) (f : Nat → α) : ∀ (ts : List Nat) (j : Nat), (∃ n t, ts[n]? = some t ∧ x = nI (j + n) ∧ lc_sw x (nI j) d f ts = f t) ∨ ((∀ n, n < ts.length → ¬ x = nI (j + n)) ∧ lc_sw x (nI j) d f ts = f d)
  | [], j => Or.inr ⟨fun n h => by simp at h, rfl⟩
  | t :: ts, j => by
    unfold lc_sw
    by_cases hx : x = nI j
    · rw [if_pos hx]
      exact Or.inl ⟨0, t, rfl, hx, rfl⟩
    · rw [if_neg hx, nI_1]
      rcases lc_sw_at x d f ts (j + 1) with ⟨n, t', h1, h2, h3⟩ | ⟨h1, h2⟩
      · exact Or.inl ⟨n + 1, t', h1, by rw [h2]; congr 1; omega, h3⟩
      · refine Or.inr ⟨fun n hn => ?_, h2⟩
        cases n with
        | zero => exact hx
        | succ n => rw [show j + (n + 1) = j + 1 + n by omega]; exact h1 n (by simpa using hn)
theorem lc_dfl_cv {a : Nat} {ad : Nat → Nat} : (lc_dfl a).mapIdx (fun _ v => lc_cv ad 0 v) = lc_dfl a := by
  unfold lc_dfl
  split <;> rfl
set_option maxHeartbeats 8000000 in
theorem lc_in_body {f : lc_F} (hI : lc_In f) (hM : lc_Mo f) : lc_In (lc_body f) := by
  intro p l e s m args below meth c B D cI cZ d k ad0 Sh0 res hC ad pc lst st Sh M ls H locs cells slots h hL hlen hR e1 e2
  obtain ⟨hk, hx, hb, hml, hown, hts, hr, hlocks, hmn, hK, hB, hN⟩ := id hC
  obtain ⟨hP, hD, hS, hL0, hL1, had⟩ := id hR
  have hA : ∀ q : Nat, s.heap.size ≤ q → B ≤ q := fun q h => Nat.le_trans hB h
  have hmls : c.maxLocals = ls.size := by rw [hml, hL.1, hlen]
  have hfix : CallFix p m c (lc_mC k) (lc_mL k) s args lc_tt (lc_mY k).cls := ⟨hx, hb, hml, hown, hts⟩
  have hsz : ls.size = lc_mL k := by rw [hL.1, hlen]
  -- on, with the cells as they are
  have go : ∀ (pc' : Nat) (st' : List Value), f d k pc' lst st' Sh M = some res → W p l e (lc_rm d Sh0 res.2.1) s m args below meth c H locs cells slots (MQ below (lc_Post B D cI cZ ad0 Sh0 res) args s (res.2.1.length - Sh0.length) (lc_sz res.2.1 - lc_sz Sh0) (fun q => B ≤ q)) (F0 m pc' ls (st'.map (lc_em ad))) :=
    fun pc' st' h' => hI p l e s m args below meth c B D cI cZ d k ad0 Sh0 res hC ad pc' lst st' Sh M ls H locs cells slots h' hL hlen hR e1 e2
  have hrow : lc_rok k pc (lc_fetch k pc) = true := lc_qa k hk pc
  unfold lc_body at h
  split at h
  · cases h
  · rename_i i a b v w pl ts hf
    rw [hf] at hrow
    split at h
    · rename_i cn lst' st' hp
      exact lc_pure_ok hx hb hown hts hrow hp hL (fun ls' hL' hl' => hI p l e s m args below meth c B D cI cZ d k ad0 Sh0 res hC ad _ lst' st' Sh M ls' H locs cells slots h hL' (hl'.trans hlen) hR e1 e2)
    · split at h
      -- idiv
      · split at h
        · split at h
          · cases h
          · rename_i hne
            exact lv_idiv hx hb (lc_dec_ok hrow) hne (go _ _ h)
        · cases h
      -- irem
      · split at h
        · split at h
          · cases h
          · rename_i hne
            exact lv_irem hx hb (lc_dec_ok hrow) hne (go _ _ h)
        · cases h
      -- ldiv
      · split at h
        · split at h
          · cases h
          · rename_i hne
            exact lv_ldiv hx hb (lc_dec_ok hrow) hne (go _ _ h)
        · cases h
      -- lrem
      · split at h
        · split at h
          · cases h
          · rename_i hne
            exact lv_lrem hx hb (lc_dec_ok hrow) hne (go _ _ h)
        · cases h
      -- if_icmp
      · rename_i cd o _
        simp only [lc_rok, Bool.and_eq_true, decide_eq_true_eq] at hrow
        split at h
        · cases cd <;> simp only [lc_if] at h
          · exact lv_icmp_eq hx hb (lc_dec_ok hrow.1) hrow.2 (fun q => by rw [if_pos q] at h; exact go _ _ h) (fun q => by rw [if_neg q] at h; exact go _ _ h)
          · exact lv_icmp_ne hx hb (lc_dec_ok hrow.1) hrow.2 (fun q => by rw [if_pos q] at h; exact go _ _ h) (fun q => by rw [if_neg q] at h; exact go _ _ h)
          · exact lv_icmp_lt hx hb (lc_dec_ok hrow.1) hrow.2 (fun q => by rw [if_pos q] at h; exact go _ _ h) (fun q => by rw [if_neg q] at h; exact go _ _ h)
          · exact lv_icmp_ge hx hb (lc_dec_ok hrow.1) hrow.2 (fun q => by rw [if_pos q] at h; exact go _ _ h) (fun q => by rw [if_neg q] at h; exact go _ _ h)
          · exact lv_icmp_gt hx hb (lc_dec_ok hrow.1) hrow.2 (fun q => by rw [if_pos q] at h; exact go _ _ h) (fun q => by rw [if_neg q] at h; exact go _ _ h)
          · exact lv_icmp_le hx hb (lc_dec_ok hrow.1) hrow.2 (fun q => by rw [if_pos q] at h; exact go _ _ h) (fun q => by rw [if_neg q] at h; exact go _ _ h)
        · cases h
      -- ifCond
      · rename_i cd o _
        simp only [lc_rok, Bool.and_eq_true, decide_eq_true_eq] at hrow
        split at h
        · cases cd <;> simp only [lc_if] at h
          · exact lv_if_eq hx hb (lc_dec_ok hrow.1) hrow.2 (fun q => by rw [if_pos q] at h; exact go _ _ h) (fun q => by rw [if_neg q] at h; exact go _ _ h)
          · exact lv_if_ne hx hb (lc_dec_ok hrow.1) hrow.2 (fun q => by rw [if_pos q] at h; exact go _ _ h) (fun q => by rw [if_neg q] at h; exact go _ _ h)
          · exact lv_if_lt hx hb (lc_dec_ok hrow.1) hrow.2 (fun q => by rw [if_pos q] at h; exact go _ _ h) (fun q => by rw [if_neg q] at h; exact go _ _ h)
          · exact lv_if_ge hx hb (lc_dec_ok hrow.1) hrow.2 (fun q => by rw [if_pos q] at h; exact go _ _ h) (fun q => by rw [if_neg q] at h; exact go _ _ h)
          · exact lv_if_gt hx hb (lc_dec_ok hrow.1) hrow.2 (fun q => by rw [if_pos q] at h; exact go _ _ h) (fun q => by rw [if_neg q] at h; exact go _ _ h)
          · exact lv_if_le hx hb (lc_dec_ok hrow.1) hrow.2 (fun q => by rw [if_pos q] at h; exact go _ _ h) (fun q => by rw [if_neg q] at h; exact go _ _ h)
        · cases h
      -- goto
      · simp only [lc_rok, Bool.and_eq_true, decide_eq_true_eq] at hrow
        exact lv_goto hx hb (lc_dec_ok hrow.1) hrow.2 (go _ _ h)
      -- tableswitch
      · rename_i df lo hi os _
        simp only [lc_rok, Bool.and_eq_true, decide_eq_true_eq] at hrow
        obtain ⟨⟨⟨⟨⟨hd, hlo⟩, hhi⟩, hdf⟩, hsw⟩, h100⟩ := hrow
        split at h
        · rename_i x st0 _
          subst hlo
          rcases lc_sw_at x b (fun t => f d k t lst st0 Sh M) ts 0 with ⟨n, t, g1, g2, g3⟩ | ⟨g1, g2⟩
          · rw [nI_0] at g3
            rw [g3] at h
            obtain ⟨off, o1, o2⟩ := lc_swok_at ts os.toList hsw n t g1
            have hn : n < ts.length := (List.getElem?_eq_some_iff.mp g1).1
            have hxi : x.toInt = (n : Int) := by rw [g2, Nat.zero_add, nI_toInt (by omega)]
            exact lv_tableIn hx hb (lc_dec_ok hd) (by omega) (by omega) (off := off) (by rw [show (x.toInt - 0).toNat = n by omega]; rw [← Array.getElem?_toList]; exact o1) o2 (go _ _ h)
          · rw [nI_0] at g2
            rw [g2] at h
            refine lv_tableOut hx hb (lc_dec_ok hd) ?_ hdf (go _ _ h)
            rcases Int.lt_or_ge x.toInt 0 with q | q
            · exact Or.inl q
            · refine Or.inr (Int.not_le.mp (fun z => ?_))
              have hlt : x.toInt.toNat < ts.length := by omega
              refine g1 x.toInt.toNat hlt ?_
              rw [Nat.zero_add]
              apply Int32.toInt_inj.mp
              rw [nI_toInt (by omega)]
              omega
        · cases h
      -- getfield
      · exact lc_getf_ok hx hb hown hts hK hrow h hP (fun st' h' => go _ _ h')
      -- putfield
      · exact lc_putf_ok hx hb hown hts hK hmn hrow h hP hD hS (fun st' Sh' M' H1 locs1 h' q1 q2 hP' hD' hS' => hI p l e s m args below meth c B D cI cZ d k ad0 Sh0 res hC ad _ lst st' Sh' M' ls H1 locs1 cells slots h' hL hlen ⟨hP', hD', hS', by omega, by omega, fun i hi => had i (by rw [← q1]; exact hi)⟩ (by omega) (by omega))
      -- iaload, baload
      · exact lc_ald_ok (z := false) hx hb hK (lc_dec_ok hrow) h hP (fun st' h' => go _ _ h')
      · exact lc_ald_ok (z := true) hx hb hK (lc_dec_ok hrow) h hP (fun st' h' => go _ _ h')
      -- iastore, bastore
      · exact lc_ast_ok (z := false) hx hb hK (lc_dec_ok hrow) h hP hD hS (fun st' M' H1 locs1 h' hP' hD' hS' => hI p l e s m args below meth c B D cI cZ d k ad0 Sh0 res hC ad _ lst st' Sh M' ls H1 locs1 cells slots h' hL hlen ⟨hP', hD', hS', hL0, hL1, had⟩ e1 e2)
      · exact lc_ast_ok (z := true) hx hb hK (lc_dec_ok hrow) h hP hD hS (fun st' M' H1 locs1 h' hP' hD' hS' => hI p l e s m args below meth c B D cI cZ d k ad0 Sh0 res hC ad _ lst st' Sh M' ls H1 locs1 cells slots h' hL hlen ⟨hP', hD', hS', hL0, hL1, had⟩ e1 e2)
      -- new
      · sorry
      -- newarray
      · sorry
      -- invokespecial
      · sorry
      -- invokevirtual
      · sorry
      -- invokestatic
      · sorry
      -- ireturn
      · split at h
        · split at h
          · rename_i hq
            cases h
            subst e1
            subst e2
            exact W.iret hx hb (hr.trans hq) (fun t ht hW => ⟨ad, had, rfl, by rw [ht]; exact hP, hD, va_K.moved hW.alike hK, hS.F ht⟩) hS.2.2 (lc_dec_ok hrow)
          · rename_i hq
            split at h
            · rename_i hz
              cases h
              subst e1
              subst e2
              exact W.zret hx hb (hr.trans hq) (by rcases hz with rfl | rfl <;> rfl) (fun t ht hW => ⟨ad, had, rfl, by rw [ht]; exact hP, hD, va_K.moved hW.alike hK, hS.F ht⟩) hS.2.2 (lc_dec_ok hrow)
            · cases h
          · cases h
        · cases h
      -- return
      · split at h
        · split at h
          · rename_i hq
            cases h
            subst e1
            subst e2
            exact W.vret hx hb (hr.trans hq) (fun t ht hW => ⟨ad, had, rfl, by rw [ht]; exact hP, hD, va_K.moved hW.alike hK, hS.F ht⟩) hS.2.2 (lc_dec_ok hrow)
          · cases h
        · cases h
      · cases h
