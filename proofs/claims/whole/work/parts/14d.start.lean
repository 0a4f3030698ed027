/-! from the law's entry to its loop -/
theorem lc_wl0 : lc_isW 272 (.classLink R_law 7 "LaceLines") = true := by decide +kernel
theorem lc_wl1 : lc_isW 1118 (.classLink R_law 10 "LaceLinesModel") = true := by decide +kernel
theorem lc_wl2 : lc_isW 274 (.methodLink R_law 9 (lc_mY 73)) = true := by decide +kernel
theorem lc_wl3 : lc_isW 1120 (.methodLink R_law 12 (lc_mY 115)) = true := by decide +kernel
section LcStart
variable {p : Program} {l : Launch} {e : Env} {s : State} {m : MethodId} {below : List Frame} {meth : Method} {c : Code} {b L : Nat} {xs : Nat → Int32} {D : va_G} {cI cZ : ClassId} {ad : Nat → Nat} {M : lc_M} {H : Heap} {locs : List Loc} {Q : State → Prop}
theorem lc_lawinit (C0 : lw_At p s m meth c b L xs) (hK : va_K D lc_cl (lc_tys cI cZ) s) {pc x pl k rc n cells slots : Nat} {ls : Array Slot} {rest : List Value} {Sh Sf : lc_Sh} {M' : lc_M} (hsz : ls.size = 4) (ha : k < lc_NM) (hini : (lc_mY k).name = "<init>") (hmn : lc_mN k = 0) (hmL : 1 ≤ lc_mL k) (hlk : lc_isW pl (.methodLink R_law x (lc_mY k)) = true) (hd : decode code pc = .ok (.invokespecial x, 3))
    (hrest : (rest.map fun v => v.category).sum ≤ 8) (hn : lc_run n 8 k 0 (lc_ent k [.ref rc]) [] Sh M = some (none, Sf, M')) (hce : cells + (Sf.length - Sh.length) ≤ 59) (hsl : slots + (lc_sz Sf - lc_sz Sh) ≤ 2926)
    (hP : va_P D lc_cl (lc_ws ad cI cZ Sh M) H) (hD : va_D (fun q => s.heap.size ≤ q) (lc_ws ad cI cZ Sh M)) (hS : va_S (fun q => s.heap.size ≤ q) s.heap H locs)
    (kk : ∀ (ad' : Nat → Nat) (H1 : Heap) (locs1 : List Loc), (∀ i, i < Sh.length → ad' i = ad i) → va_P D lc_cl (lc_ws ad' cI cZ Sf M') H1 → va_D (fun q => s.heap.size ≤ q) (lc_ws ad' cI cZ Sf M') → va_S (fun q => s.heap.size ≤ q) s.heap H1 locs1 → W p l e room_1 s m #[Value.ref b] below meth c H1 locs1 (cells + (Sf.length - Sh.length)) (slots + (lc_sz Sf - lc_sz Sh)) Q (F0 m (pc + 3) ls rest)) :
    W p l e room_1 s m #[Value.ref b] below meth c H locs cells slots Q (F0 m pc ls (.ref (ad rc) :: rest)) := by
  obtain ⟨hx, hb, hr, hml, hown, hts0, hX, hbl, hlocks, hgv⟩ := C0
  have hts := lc_tt_law hts0
  have hN := lc_Nz_law hts0
  obtain ⟨f1, f2, -, f3, -, f5, f6, f7⟩ := lc_mfacts ha
  obtain ⟨g1, -⟩ := f3 (lc_ini_ns k ha hini)
  have f4 := f7 hini
  have hM1 : lc_Con l s.heap.size D cI cZ ad 8 k [.ref rc] Sh M (none, Sf, M') := lc_con (lc_sound n) ha hmL hn
  have hcb : CallB room_1 s #[Value.ref b] R_law x (lc_mY k) (lc_mC k) (lc_mL k) none (lc_w k) (lc_rm 8 Sh Sf) (Sf.length - Sh.length) (lc_sz Sf - lc_sz Sh) (lc_mN k) :=
    callB_of (Ts := lc_tt) (lc_mN k) hts (lc_good ha) (by rw [← f4]; rfl) rfl rfl (hts _ (lc_tt_in f2 rfl)) (hts _ (lc_isW_tt hlk rfl)) f5 ⟨Nat.le_of_ble_eq_true rfl, by show 8 + (lc_mL k + 11) + 27 * 8 ≤ 322; omega⟩
  have hrun := va_runI (e := e) (below := below) (meth := meth) (locs := locs) (cells := cells) (slots := slots) (g := F0 m pc ls (.ref (ad rc) :: rest)) (As := []) (rest := rest) (b := ad rc) (p := p) (c := c) (cc := code) (nL := 4) (Ts := lc_tt) ⟨hx, hb, hml, hown, hts⟩ hM1 ⟨hcb, hini, hts _ (lc_tt_in g1 rfl)⟩ ⟨lc_blind, fun U hU hW => ⟨rfl, by rw [hU]; exact hS.1, by rw [hU]; exact hP, va_K.moved hW.alike hK, hD, hN.warm hW⟩⟩ rfl hmn.symm hsz rfl (lv_room hrest) hd ⟨hce, hsl⟩
  refine lc_call hrun (fun v st₀ t Lc h0 hLf hal hq => ?_)
  obtain ⟨ad', ha', hv', hP', hD', hK', hF⟩ := hq
  cases hv'
  have hF1 := hF.1
  have hF2 := hF.2
  rw [h0] at hF1 hF2
  refine kk ad' t.heap (locs ++ Lc) (fun i hi => ha' i (fun z => by have := z.1; omega)) hP' hD' ⟨Nat.le_trans hS.1 hF1, fun q z1 z2 => (hF2 q (Nat.lt_of_lt_of_le z1 hS.1) z2).trans (hS.2.1 q z1 z2), fun q hq => ?_⟩
  rcases List.mem_append.mp hq with z | z
  · exact hS.2.2 q z
  · exact hLf q z
theorem lc_S1_wf : lc_wfS lc_S1.length lc_S1 = true := by decide +kernel
theorem lc_S1_n : lc_S1.length = 43 ∧ lc_sz lc_S1 + 33 ≤ 2926 ∧ 12 ≤ lc_sz lc_S1 ∧ lc_SH.length = 59 ∧ lc_sz lc_SH = 2926 ∧ (lc_dfl 10).length = 12 ∧ (lc_dfl 11).length = 33 := by decide +kernel
theorem lc_k73 : 73 < lc_NM ∧ (lc_mY 73).name = "<init>" ∧ lc_mN 73 = 0 ∧ 1 ≤ lc_mL 73 ∧ 115 < lc_NM ∧ (lc_mY 115).name = "<init>" ∧ lc_mN 115 = 0 ∧ 1 ≤ lc_mL 115 := by decide +kernel
/-- one new object of the law's -/
theorem lc_lawnew (C0 : lw_At p s m meth c b L xs) (hK : va_K D lc_cl (lc_tys cI cZ) s) {pc x pl a N cells slots : Nat} {C : String} {T : u_T} {ls : Array Slot} {rest : List Value} {Sh : lc_Sh} (hc : lc_cl[a]? = some (C, T, N)) (hlk : lc_isW pl (.classLink R_law x C) = true) (hd : decode code pc = .ok (.new x, 3)) (hw1 : lc_wfS Sh.length Sh = true) (hce : cells + 1 ≤ 59) (hsl : slots + N ≤ 2926)
    (hP : va_P D lc_cl (lc_ws ad cI cZ Sh M) H) (hD : va_D (fun q => s.heap.size ≤ q) (lc_ws ad cI cZ Sh M)) (hS : va_S (fun q => s.heap.size ≤ q) s.heap H locs)
    (kk : ∀ (q : Nat) (H1 : Heap), va_P D lc_cl (lc_ws (lc_ext ad Sh.length q) cI cZ (Sh ++ [.inr (a, lc_dfl a)]) (lc_set M Sh.length (fun _ => 0))) H1 → va_D (fun q => s.heap.size ≤ q) (lc_ws (lc_ext ad Sh.length q) cI cZ (Sh ++ [.inr (a, lc_dfl a)]) (lc_set M Sh.length (fun _ => 0))) → va_S (fun q => s.heap.size ≤ q) s.heap H1 locs → W p l e room_1 s m #[Value.ref b] below meth c H1 locs (cells + 1) (slots + N) Q (F0 m (pc + 3) ls (.ref q :: rest))) :
    W p l e room_1 s m #[Value.ref b] below meth c H locs cells slots Q (F0 m pc ls rest) := by
  obtain ⟨hx, hb, hr, hml, hown, hts0, hX, hbl, hlocks, hgv⟩ := C0
  have hts := lc_tt_law hts0
  obtain ⟨hin, hins, hini, -, hty, hdl, hdv⟩ := lc_cls hc
  refine va_new (ci := a) (C := C) (T := T) (N := N) (fs := lc_dfl a) hx hb hts (lc_u_tt hin) (lc_ty a) hty hown (hts _ (lc_isW_tt hlk rfl)) (hts _ (lc_tt_in hins rfl)) (hts _ (lc_tt_in hini rfl)) hK hP hD hS (fun q h => h) hc hdv hce hsl hd (fun q H1 hP1 hD1 hS1 => ?_)
  have hce : lc_ce (lc_ext ad Sh.length q) cI cZ (fun _ => 0) (.inr (a, lc_dfl a)) = .inr (a, lc_dfl a) := by
    show (Sum.inr (a, _) : va_E) = _
    rw [lc_dfl_cv]
  have hpu := lc_ws_push (ad := ad) (cI := cI) (cZ := cZ) (M := M) (q := q) (c := .inr (a, lc_dfl a)) hw1
  rw [hce] at hpu
  rw [hpu] at hP1 hD1
  exact kk q H1 hP1 hD1 hS1
set_option maxHeartbeats 4000000 in
set_option maxRecDepth 100000 in
/-- THE LAW, from its entry, out of the pure part -/
theorem lc_start {Inv : Nat → lc_M → Prop} (h0 : ∀ M : lc_M, (∀ c cl, lc_SH[c]? = some cl → ∀ j, j < lc_size cl → M c j = lc_mem0 c j) → Inv 0 M) (hst : lc_Steps Inv) (hL : L ≤ 192) (C0 : lw_At p s m meth c b L xs) : W p l e room_1 s m #[Value.ref b] below meth c s.heap [] 0 0 (lw_Z below #[Value.ref b] s) (entryFrame m ([Value.ref b] : List Value).toArray 4) := by
  obtain ⟨hx, hb, hr, hml, hown, hts0, hX, hbl, hlocks, hgv⟩ := id C0
  obtain ⟨D, cI, cZ, hK⟩ := lc_classes (lc_tt_law hts0)
  obtain ⟨M1, M2, ⟨nf1, hr1⟩, ⟨nf2, hr2⟩, hm2⟩ := lc_init_ex
  obtain ⟨n1, n2, n3, n4, n5, n6, n7⟩ := lc_S1_n
  obtain ⟨k1, k2, k3, k4, k5, k6, k7, k8⟩ := lc_k73
  have hwf := lc_S1_wf
  obtain ⟨S1, hS1⟩ : ∃ S, S = lc_S1 := ⟨_, rfl⟩
  obtain ⟨SF, hSF⟩ : ∃ S, S = lc_SH := ⟨_, rfl⟩
  rw [← hS1] at hr1 hr2 n1 n2 n3 hwf
  rw [← hSF] at hr2 n4 n5
  have hl := lv_entry ([Value.ref b]) (n := 4) (Nat.le_of_ble_eq_true rfl)
  rw [lg_entry_eq]
  generalize (lg_sl ([Value.ref b]) ++ List.replicate (4 - (lg_sl ([Value.ref b])).length) Slot.unset).toArray = ls at hl ⊢
  have hl : lv_has ls 4 [(0, .ref b)] := hl
  have hP : va_P D lc_cl (lc_ws (fun _ => 0) cI cZ [] (fun _ _ => 0)) s.heap := fun k q h => by simp [lc_ws] at h
  have hD : va_D (fun q => s.heap.size ≤ q) (lc_ws (fun _ => 0) cI cZ [] (fun _ _ => 0)) := ⟨fun i j x y h => by simp [lc_ws] at h, fun k q h => by simp [lc_ws] at h⟩
  refine lc_lawnew C0 hK (a := 10) (N := 12) rfl lc_wl0 dl_0 rfl (Nat.le_of_ble_eq_true rfl) (Nat.le_of_ble_eq_true rfl) hP hD va_S.rf (fun q0 H1 hP hD hS => ?_)
  have hP : va_P D lc_cl (lc_ws (lc_ext (fun _ => 0) 0 q0) cI cZ [.inr (10, lc_dfl 10)] (lc_set (fun _ _ => 0) 0 (fun _ => 0))) H1 := hP
  have hD : va_D (fun q => s.heap.size ≤ q) (lc_ws (lc_ext (fun _ => 0) 0 q0) cI cZ [.inr (10, lc_dfl 10)] (lc_set (fun _ _ => 0) 0 (fun _ => 0))) := hD
  refine lv_dup hx hb dl_3 rfl ?_
  have ea : (Value.ref q0) = .ref (lc_ext (fun _ => 0) 0 q0 0) := by rw [lc_ext_at]
  have hs1 : lc_sz ([.inr (10, lc_dfl 10)] : lc_Sh) = 12 := by decide +kernel
  have key : W p l e room_1 s m #[Value.ref b] below meth c H1 [] (0 + 1) (0 + 12) (lw_Z below #[Value.ref b] s) (F0 m 4 ls (.ref (lc_ext (fun _ => 0) 0 q0 0) :: [.ref q0])) := by
    refine lc_lawinit C0 hK (Sh := [.inr (10, lc_dfl 10)]) (Sf := S1) (M := lc_set (fun _ _ => 0) 0 (fun _ => 0)) (ad := lc_ext (fun _ => 0) 0 q0) (rc := 0) (M' := M1) (n := nf1) hl.1 k1 k2 k3 k4 lc_wl2 dl_4 (Nat.le_of_ble_eq_true rfl) hr1 (by rw [n1]; exact Nat.le_of_ble_eq_true rfl) (by rw [hs1]; omega) hP hD hS (fun ad2 H2 locs2 ha2 hP hD hS => ?_)
    have e20 : ad2 0 = q0 := by rw [ha2 0 (by decide)]; exact lc_ext_at
    refine lv_astore_n (lv' := [(1, .ref q0), (0, .ref b)]) hx hb dl_7 rfl hl (by decide) rfl (fun ls hl => ?_)
    refine lc_lawnew C0 hK (a := 11) (N := 33) rfl lc_wl1 dl_8 hwf (by rw [n1]; exact Nat.le_of_ble_eq_true rfl) (by rw [hs1]; omega) hP hD hS (fun q1 H3 hP hD hS => ?_)
    refine lv_dup hx hb dl_11 rfl ?_
    rw [n1] at hP hD
    have key2 : W p l e room_1 s m #[Value.ref b] below meth c H3 locs2 (0 + 1 + (S1.length - 1) + 1) (0 + 12 + (lc_sz S1 - lc_sz ([.inr (10, lc_dfl 10)] : lc_Sh)) + 33) (lw_Z below #[Value.ref b] s) (F0 m 12 ls (.ref (lc_ext ad2 43 q1 43) :: [.ref q1])) := by
      have hsz2 : lc_sz (S1 ++ [.inr (11, lc_dfl 11)]) = lc_sz S1 + 33 := by rw [lc_sz_app]; show lc_sz S1 + (lc_dfl 11).length = _; rw [n7]
      refine lc_lawinit C0 hK (Sh := S1 ++ [.inr (11, lc_dfl 11)]) (Sf := SF) (M := lc_set M1 43 (fun _ => 0)) (ad := lc_ext ad2 43 q1) (rc := 43) (M' := M2) (n := nf2) hl.1 k5 k6 k7 k8 lc_wl3 dl_12 (Nat.le_of_ble_eq_true rfl) hr2 (by rw [List.length_append, n1, n4]; exact Nat.le_of_ble_eq_true rfl) (by rw [hsz2, hs1, n5]; omega) hP hD hS (fun ad4 H4 locs4 ha4 hP hD hS => ?_)
      have e40 : ad4 0 = q0 := by
        rw [ha4 0 (by rw [List.length_append, n1]; decide), show lc_ext ad2 43 q1 0 = ad2 0 from if_neg (by decide)]
        exact e20
      have e43 : ad4 43 = q1 := by rw [ha4 43 (by rw [List.length_append, n1]; decide)]; exact lc_ext_at
      refine lv_astore_n (lv' := [(2, .ref q1), (1, .ref q0), (0, .ref b)]) hx hb dl_15 rfl hl (by decide) rfl (fun ls hl => ?_)
      refine lv_iconst (v := nI 0) hx hb dl_16 (by decide) ?_
      refine lv_istore_n (lv' := [(3, .int (nI 0)), (2, .ref q1), (1, .ref q0), (0, .ref b)]) hx hb dl_17 rfl hl (by decide) rfl (fun ls hl => ?_)
      rw [show 0 + 1 + (S1.length - 1) + 1 + (SF.length - (S1 ++ [.inr (11, lc_dfl 11)] : lc_Sh).length) = 59 by rw [List.length_append, n1, n4]; rfl]
      rw [show 0 + 12 + (lc_sz S1 - lc_sz ([.inr (10, lc_dfl 10)] : lc_Sh)) + 33 + (lc_sz SF - lc_sz (S1 ++ [.inr (11, lc_dfl 11)] : lc_Sh)) = 2926 by rw [hsz2, hs1, n5]; omega]
      subst hSF
      refine lc_law_loop (ad := ad4) hst hL C0 hK (L + 3) 0 0 M2 H4 locs4 rfl (by omega) (by omega) (h0 M2 hm2) hP hD hS ls ?_
      rw [e40, e43]
      exact lv_sub hl [3, 2, 1, 0] rfl
    rw [lc_ext_at] at key2
    exact key2
  rw [lc_ext_at] at key
  exact key
end LcStart
