/-! gossip -/
theorem and_pair {p : aPat} {x K : Nat} (ha : pA p x < 6) (hb : pB p x < 6) : (nI K &&& nI (pairN p x)) = 0 ↔ ¬ (K.testBit (pA p x) = true ∨ K.testBit (pB p x) = true) := by
  have hp := pair_lt ha hb
  rw [nI_and, nI_zero_iff (Nat.lt_of_le_of_lt Nat.and_le_right (by omega))]
  constructor
  · intro h z
    rcases z with z | z
    · have := congrArg (fun z => Nat.testBit z (pA p x)) h
      simp only [Nat.testBit_and, pair_bit, Nat.zero_testBit, z] at this
      simp at this
    · have := congrArg (fun z => Nat.testBit z (pB p x)) h
      simp only [Nat.testBit_and, pair_bit, Nat.zero_testBit, z] at this
      simp at this
  · intro h
    apply Nat.eq_of_testBit_eq
    intro i
    rw [Nat.testBit_and, pair_bit, Nat.zero_testBit]
    by_cases e1 : pA p x = i
    · have : ¬ K.testBit i = true := fun z => h (Or.inl (by rw [e1]; exact z))
      simp [this]
    · by_cases e2 : pB p x = i
      · have : ¬ K.testBit i = true := fun z => h (Or.inr (by rw [e2]; exact z))
        simp [this]
      · simp [e1, e2]
theorem v_toldC {d : Nat} {p : aPat} {f : Nat → Bool} {x1 : Int32} {M : lc_M} (hv : vPat p) (hp : patC p M) : ∀ (k i K : Nat), i + k = pNx p → K < 64 → lc_val (d + 1) 46 5 [.ref 25, .int x1, .int (nI (bs f (pNx p))), .int (nI K), .int (nI i)] [] lc_SH M = some (some (.int (nI (knowL p f k i K))), lc_SH, M)
  | 0, i, K, h, hK => by
    have h8 := hv.2.2.2.1
    rw [sg_46_0_5, show M 9 3 = nI (pNx p) from hp.2.2.2.1, if_pos (nI_le (by omega) (by omega))]
    rfl
  | k + 1, i, K, h, hK => by
    have h8 := hv.2.2.2.1
    have hm := hv.2.2.1
    have hab := hv.2.2.2.2.2.2.1 i (by omega)
    have hs := bs_256 (f := f) h8
    rw [sg_46_0_5, show M 9 3 = nI (pNx p) from hp.2.2.2.1, if_neg (nI_ge (by omega) (by omega)), knowL]
    by_cases q : f i = true
    · have hand := and_pair (p := p) (x := i) (K := K) (by omega) (by omega)
      rw [v_has1 hs (by omega) (by rw [bs_bit]; simp [q]; omega), lc_bk1, sg_46_0_23, if_neg (by decide), v_pair hp hv (by omega)]
      show lc_val (d + 1) 46 36 [.ref 25, .int x1, .int (nI (bs f (pNx p))), .int (nI K), .int (nI i)] [.int (nI (pairN p i)), .int (nI K)] lc_SH M = _
      rw [sg_46_0_36, if_pos q]
      unfold stepK
      by_cases g : K.testBit (pA p i) = true ∨ K.testBit (pB p i) = true
      · have ih := v_toldC (d := d) (x1 := x1) (f := f) hv hp k (i + 1) (K ||| pairN p i) (by omega) (Nat.or_lt_two_pow (n := 6) hK (pair_lt (by omega) (by omega)))
        rw [if_neg (fun z => hand.mp z g), v_pair hp hv (by omega)]
        show lc_val (d + 1) 46 50 [.ref 25, .int x1, .int (nI (bs f (pNx p))), .int (nI K), .int (nI i)] [.int (nI (pairN p i)), .int (nI K)] lc_SH M = _
        rw [sg_46_0_50, nI_or, nI_1, if_pos g]
        exact ih
      · have ih := v_toldC (d := d) (x1 := x1) (f := f) hv hp k (i + 1) K (by omega) hK
        rw [if_pos (hand.mpr g), lc_it_val, nI_1, if_neg g]
        exact ih
    · have ih := v_toldC (d := d) (x1 := x1) (f := f) hv hp k (i + 1) K (by omega) hK
      rw [v_has0 hs (by omega) (by rw [bs_bit]; simp [q]), lc_bk1, sg_46_0_23, if_pos rfl, lc_it_val, nI_1, if_neg q]
      exact ih
theorem v_spL {d ln n T0 N : Nat} {p : aPat} {a : Nat → Nat} {x1 : Int32} {pi pa : Nat → Int32} (hv : vPat p) (hl : ln ≤ 3) (hn : n ≤ 6) (ha : ∀ j, j < n → a j < pNx p) (hN : N ≤ 99) : ∀ (k i tb pb K : Nat) (r : aRow) (M : lc_M) (v5 : Value), i + k = 9 → vRowG tb pb p r → tb + 20 * k ≤ 6000 → T0 ≤ rT r → K < 64 → M 9 0 = nI ln → M 16 1 = nI T0 → M 25 5 = nI n → (∀ j, j < n → M 29 j = nI (a j)) → patC p M → triC p r M pi pa → ∃ M', lc_val (d + 4) 45 16 [.ref 25, .int x1, .int (nI N), .int (nI K), .int (nI i), v5] [] lc_SH M = some (some (.int (nI (goE p ln n a (T0 + N) k r K))), lc_SH, M') ∧ (∀ c, c ≠ 26 → c ≠ 27 → M' c = M c)
  | 0, i, tb, pb, K, r, M, v5, h, hr, hb, h0, hK, h90, h16, hc, ho, hp, ht => by
    refine ⟨M, ?_, fun _ _ _ => rfl⟩
    obtain rfl : i = 9 := by omega
    rw [sg_45_0_16, if_pos (by decide)]
    rfl
  | k + 1, i, tb, pb, K, r, M, v5, h, hr, hb, h0, hK, h90, h16, hc, ho, hp, ht => by
    have hB := begK_v (ln := ln) hv ha n 0 r (by omega) hr
    obtain ⟨M1, f1, f2, f3⟩ := v_begC1 (d := d) (pi := pi) (pa := pa) hv hl hn ha n 0 tb pb r M (by omega) hr hc ho hp ht
    have hT0 := hB.1
    have hmi : ∀ x, x < pNx p → pMi p x ≤ 20 := fun x hx => (hv.2.2.2.2.2.2.1 x hx).2.2.2.2
    have hTl : ∀ x, x < pNx p → rHow (begK p ln a n 0 r) x = 1 → rTill (begK p ln a n 0 r) x < 2 ^ 30 := fun x hx h1 => by
      have := hB.2.2.1 x hx h1
      have := hmi x hx
      omega
    have hp1 : patC p M1 := patC_fr hp (fun c c1 c2 => f2 c (by omega) (by omega))
    have h161 : M1 16 1 = nI T0 := by rw [f2 16 (by decide) (by decide)]; exact h16
    have pre : lc_val (d + 4) 45 16 [.ref 25, .int x1, .int (nI N), .int (nI K), .int (nI i), v5] [] lc_SH M = lc_val (d + 4) 45 45 [.ref 25, .int x1, .int (nI N), .int (nI K), .int (nI i), v5] [.int (beI (neF (begK p ln a n 0 r) (pNx p)))] lc_SH M1 := by
      rw [sg_45_0_16, if_neg (show ¬ (8 : Int32) < nI i from nI_nlt (a := 8) (by omega) (by omega)), h90, sg_43_1_0, show (.int 0 : Value) = .int (nI 0) from rfl, f1, lc_bk0, sg_45_0_38, v_neC hv hTl hp1 f3, lc_bk1]
    rw [pre, sg_45_0_45, goE]
    cases e : neF (begK p ln a n 0 r) (pNx p) with
    | none =>
      refine ⟨M1, ?_, f2⟩
      rw [if_pos (show beI none = -1 from rfl)]
    | some t =>
      obtain ⟨j1, j2, j3⟩ := vRowG_jump hv hB e
      rw [begK_T] at j2 j3
      have hrt := hr.1
      rw [if_neg (be_none (by omega)), lc_it_val, sg_45_0_53, show beI (some t) = nI t from rfl, h161, subI (show T0 ≤ t by omega)]
      have upc : ∀ c, c ≠ 26 → lc_up M1 26 1 (nI t) c = M1 c := fun c hc => up_ne hc
      have ht1 : triC p (setT (begK p ln a n 0 r) t) (lc_up M1 26 1 (nI t)) pi pa := by
        obtain ⟨r1, r2, r3, r4, r5, r6, r7⟩ := f3
        exact ⟨rfl, r2, r3, r4, r5, r6, r7⟩
      by_cases q : t ≤ T0 + N
      · obtain ⟨M2, g1, g2, g3⟩ := v_finish1 (d := d + 1) (p := p) (r := setT (begK p ln a n 0 r) t) (pi := pi) (pa := pa) (M := lc_up M1 26 1 (nI t)) hv hB.2.2.2.2.2.2 (by show t < 2 ^ 30; omega) hTl (patC_fr hp1 (fun c c1 c2 => upc c (by omega))) ht1
        have fr : ∀ c, c ≠ 26 → c ≠ 27 → M2 c = M c := fun c a1 a2 => by rw [g2 c a1, upc c a1, f2 c a1 a2]
        have hp2 : patC p M2 := patC_fr hp (fun c c1 c2 => fr c (by omega) (by omega))
        have htold := v_toldC (d := d + 2) (f := finB (setT (begK p ln a n 0 r) t)) (x1 := nI K) hv hp2 (pNx p) 0 K (by omega) hK
        obtain ⟨M', e1, e2⟩ := v_spL (d := d) (T0 := T0) (N := N) (x1 := x1) (pi := pi) (pa := pa) hv hl hn ha hN k (i + 1) (tb + 20) pb (knowL p (finB (setT (begK p ln a n 0 r) t)) (pNx p) 0 K) (jumpR (begK p ln a n 0 r) t) M2 (.int (nI t)) (by omega) j1 (by omega) (by show T0 ≤ t; omega) (knowL_lt hv (pNx p) 0 K (by omega) hK) (by rw [fr 9 (by decide) (by decide)]; exact h90) (by rw [fr 16 (by decide) (by decide)]; exact h16) (by rw [fr 25 (by decide) (by decide)]; exact hc) (fun j hj => by rw [fr 29 (by decide) (by decide)]; exact ho j hj) hp2 g3
        refine ⟨M', ?_, fun c a1 a2 => by rw [e2 c a1 a2, fr c a1 a2]⟩
        rw [if_pos (nI_le (by omega) (by omega)), lc_it_val, sg_45_0_69, g1]
        show lc_val (d + 4) 45 87 [.ref 25, .int x1, .int (nI N), .int (nI K), .int (nI i), .int (nI t)] [.int (nI (bs (finB (setT (begK p ln a n 0 r) t)) (pNx p))), .int (nI K), .ref 25] lc_SH M2 = _
        rw [sg_45_0_87, sg_46_0_0, show (.int 0 : Value) = .int (nI 0) from rfl, htold, lc_bk1, sg_45_0_90, nI_1, e1]
        show some (some (Value.int (nI _)), lc_SH, M') = some (some (Value.int (nI (if t ≤ T0 + N then _ else K))), lc_SH, M')
        rw [if_pos q]
      · refine ⟨M1, ?_, f2⟩
        rw [if_neg (nI_ge (by omega) (by omega))]
        show _ = some (some (Value.int (nI (if t ≤ T0 + N then _ else K))), lc_SH, M1)
        rw [if_neg q]
theorem v_goKM {d ln n N : Nat} {p : aPat} {a : Nat → Nat} {x1 x3 : Int32} (hv : vPat p) (hl : ln ≤ 3) (hn : n ≤ 6) (ha : ∀ j, j < n → a j < pNx p) (hN : N ≤ 99) : ∀ (m j tb pb K : Nat) (r : aRow) (M : lc_M), j + m = N → vRowG tb pb p r → tb + m ≤ 5000 → K < 64 → M 43 21 = nI K → M 43 25 = nI n → (∀ j, j < n → M 52 j = nI (a j)) → M 43 2 = nI ln → patM p M → mRowAt p r (M 44) 30 → ∃ M', lc_val (d + 4) 172 94 [.ref 43, .int x1, .int (nI N), .int x3, .int (nI j)] [] lc_SH M = some (some (.int (nI (goM p ln n a m r K))), lc_SH, M') ∧ frM M' M
  | 0, j, tb, pb, K, r, M, h, hr, htb, hK, hk, hc, ho, h2, hp, ht => by
    refine ⟨M, ?_, fun _ _ _ _ _ => rfl, fun _ _ _ => rfl, fun _ _ => rfl⟩
    rw [sg_172_0_94, if_pos (nI_le (by omega) (by omega)), hk]
    rfl
  | m + 1, j, tb, pb, K, r, M, h, hr, htb, hK, hk, hc, ho, h2, hp, ht => by
    obtain ⟨M1, M2, g1, g2, g3, g4, g5, g6, g7⟩ := v_minM1 (d := d) (M := M) hv hl hn ha hr (by omega) hc ho hp ht
    have hb := begK_v (ln := ln) hv ha n 0 r (by omega) hr
    have fr2 : frM M2 M := ⟨fun c a1 a2 _ _ => g3 c a1 a2, fun j h1 _ => g4 j h1, fun j hj => g5 j (by omega)⟩
    obtain ⟨M', e1, e2⟩ := v_goKM (d := d) (x1 := x1) (x3 := x3) hv hl hn ha hN m (j + 1) (tb + 1) (pb + 15840) (knowL p (finB (tickR (begK p ln a n 0 r))) (pNx p) 0 K) (mst p ln n a r) M2 (by omega) (vRowG_pass hv hb) (by omega) (knowL_lt hv (pNx p) 0 K (by omega) hK) (g7 K hK hk) (by rw [g4 25 (by decide)]; exact hc) (fun j hj => by rw [g3 52 (by decide) (by decide)]; exact ho j hj) (by rw [g4 2 (by decide)]; exact h2) (frM_pat fr2 hp) g6
    refine ⟨M', ?_, frM_trans e2 fr2⟩
    rw [sg_172_0_94, if_neg (nI_ge (by omega) (by omega)), h2, g1, lc_bk0, sg_172_0_108, g2, lc_bk0, sg_172_0_114, nI_1]
    exact e1
theorem v_takeB {d n : Nat} {x1 x2 x3 : Int32} (hn : n ≤ 6) : ∀ (k i : Nat) (M : lc_M), i + k = n → M 43 25 = nI n → ∃ M', lc_val (d + 1) 172 48 [.ref 43, .int x1, .int x2, .int x3, .int (nI i)] [] lc_SH M = lc_val (d + 1) 172 77 [.ref 43, .int x1, .int x2, .int x3, .int (nI n)] [] lc_SH M' ∧ (∀ c, c ≠ 52 → M' c = M c) ∧ ∀ j, M' 52 j = if i ≤ j ∧ j < n then M 53 j else M 52 j
  | 0, i, M, h, hc => by
    obtain rfl : i = n := by omega
    refine ⟨M, ?_, fun _ _ => rfl, fun j => by rw [if_neg (by omega)]⟩
    rw [sg_172_0_48, hc, if_pos (nI_le (by omega) (by omega))]
  | k + 1, i, M, h, hc => by
    obtain ⟨M', e1, e2, e3⟩ := v_takeB (d := d) (x1 := x1) (x2 := x2) (x3 := x3) hn k (i + 1) (lc_up M 52 i (M 53 i)) (by omega) (by rw [up_ne (by decide)]; exact hc)
    refine ⟨M', ?_, fun c hc => by rw [e2 c hc, up_ne hc], fun j => ?_⟩
    · rw [sg_172_0_48, hc, if_neg (nI_ge (by omega) (by omega)), sg_172_0_57, if_pos (nI_in (by omega) (by decide)), if_pos (nI_in (by omega) (by decide)), nI_clamp (by omega), nI_1]
      exact e1
    · rw [e3, up_ne (c := 53) (by decide), up_at, if_pos rfl]
      by_cases e : j = i
      · rw [if_neg (by omega), if_pos e, if_pos (by omega), e]
      · rw [if_neg e]
        by_cases q : i + 1 ≤ j ∧ j < n
        · rw [if_pos q, if_pos (by omega)]
        · rw [if_neg q, if_neg (by omega)]
/-- the best order is an order of all that is open -/
theorem seekL_ord {p : aPat} {ln n : Nat} {r : aRow} {l : Nat → Nat} : ∀ (t : List (List Nat)) (F : Nat) (x0 : List Nat), (∀ x ∈ x0 :: t, surP n x = true ∧ ∀ i, i < n → atL x i < n) → ∃ x, (surP n x = true ∧ ∀ i, i < n → atL x i < n) ∧ (seekL p ln n r l t F (ordL l x0)).2 = ordL l x
  | [], F, x0, h => ⟨x0, h x0 List.mem_cons_self, rfl⟩
  | y :: t, F, x0, h => by
    rw [seekL]
    by_cases q : totE p ln n (ordL l y) 9 r < F
    · rw [if_pos q]
      exact seekL_ord t _ y (fun x hx => h x (List.mem_cons_of_mem _ hx))
    · rw [if_neg q]
      exact seekL_ord t F x0 (fun x hx => h x (by
        rcases List.mem_cons.mp hx with z | z
        · rw [z]; exact List.mem_cons_self
        · exact List.mem_cons_of_mem _ (List.mem_cons_of_mem _ z)))
def ltP (n : Nat) (x : List Nat) : Bool := (List.range n).all (fun i => decide (atL x i < n))
theorem ltP_ex {n : Nat} {x : List Nat} (h : ltP n x = true) : ∀ i, i < n → atL x i < n := fun i hi => by
  have h1 := List.all_eq_true.mp h i (List.mem_range.mpr hi)
  simpa using h1
theorem lt0P : (permN 0).all (ltP 0) = true := by decide +kernel
theorem lt1P : (permN 1).all (ltP 1) = true := by decide +kernel
theorem lt2P : (permN 2).all (ltP 2) = true := by decide +kernel
theorem lt3P : (permN 3).all (ltP 3) = true := by decide +kernel
theorem lt4P : (permN 4).all (ltP 4) = true := by decide +kernel
theorem lt5P : (permN 5).all (ltP 5) = true := by decide +kernel
theorem lt6P : (permN 6).all (ltP 6) = true := by decide +kernel
theorem ltN : ∀ n, n ≤ 6 → (permN n).all (ltP n) = true
  | 0, _ => lt0P
  | 1, _ => lt1P
  | 2, _ => lt2P
  | 3, _ => lt3P
  | 4, _ => lt4P
  | 5, _ => lt5P
  | 6, _ => lt6P
  | n + 7, h => by omega
theorem soon_ord {p : aPat} {ln : Nat} {r : aRow} (h6 : opn p r ≤ 6) : (∀ j, j < opn p r → (soonP p ln r).2 j < pNx p) ∧ cov p (opn p r) (soonP p ln r).2 r := by
  obtain ⟨t, ht⟩ := headN (opn p r) h6
  have hs := surN (opn p r) h6
  have hl := ltN (opn p r) h6
  unfold soonP
  rw [ht] at hs hl ⊢
  obtain ⟨x, ⟨x1, x2⟩, x3⟩ := seekL_ord (p := p) (ln := ln) (n := opn p r) (r := r) (l := opl p r) t (totE p ln (opn p r) (ordL (opl p r) (List.range (opn p r))) 9 r) (List.range (opn p r)) (fun y hy => ⟨List.all_eq_true.mp hs y hy, ltP_ex (List.all_eq_true.mp hl y hy)⟩)
  have hrel : relO (opn p r) (opl p r) (ordL (opl p r) x) (atL x) := fun i hi => ⟨rfl, x2 i hi⟩
  rw [show (List.range (opn p r) :: t).tail = t from rfl, x3]
  exact ⟨rel_lt hrel, cov_rel hrel (surP_ex x1)⟩
theorem op_gossip (a b : Int32) : opOK 93 172 [.int a, .int b] := by
  refine opOK_const (fun n S hn hv0 => ?_)
  have hv := vSt_G.mp hv0
  have h8 := hv.1.2.2.2.1
  have hnm := hv.1.2.2.1
  have hl := lnC hv
  have i99 : (99 : Int64).toInt = 99 := by decide
  by_cases hm : vp_in a (pNm (sP S))
  · obtain ⟨m, hmm, rfl⟩ := vp_in_of hm (by omega)
    have h1 : pLn (sP S) ≠ 0 := fun z => by have := (hv.1.2.2.2.2.1 z).1; omega
    by_cases hA : ¬ b < 0 ∧ b ≤ 99
    · obtain ⟨N, hN, rfl⟩ := nI_of2 (M := 99) (n := 99) rfl hA.1 hA.2
      have hin : ∀ M : lc_M, lc_val 7 116 0 [.long (Int32.toInt64 (nI N)), .null, .long 0, .null, .long 99, .null] [] lc_SH M = some (some (.int 1), lc_SH, M) := fun M => v_in1 (by rw [L0, nI_toInt (by omega)]; omega) (by rw [i99, nI_toInt (by omega)]; omega)
      by_cases h6 : opn (sP S) (sR S) ≤ 6
      · obtain ⟨ha, hcov⟩ := soon_ord (ln := pLn (sP S)) (r := sR S) (p := sP S) h6
        have hnd : nd (sP S) (sR S) ≤ 9 := by
          have := opN_le (f := fun x => !decide (rHow (sR S) x = 2)) (pNx (sP S))
          show opN _ _ ≤ 9
          omega
        have hK : 2 ^ m < 64 := pow64 (by omega)
        have hge := goM_E (L := rT (sR S) + N) (K := 2 ^ m) hv.1 ha (show 1 ≤ pLn (sP S) by omega) 9 (60 * n) (1000000 * n) (sR S) hv.2.1 hcov hnd (by omega)
        rw [show rT (sR S) + N - rT (sR S) = N by omega] at hge
        refine ⟨nI (goE (sP S) (pLn (sP S)) (opn (sP S) (sR S)) (soonP (sP S) (pLn (sP S)) (sR S)).2 (rT (sR S) + N) 9 (sR S) (2 ^ m)), fun M hM => ?_, fun M hM => ?_⟩
        · obtain ⟨M1, f1, f2, f3, f4⟩ := v_seekC (d := 2) (M := M) hv.1 hl h6 hv.2.1 (by omega) hM.1 hM.2.1
          have hM1 := repC_plan hM f2
          obtain ⟨M2, g1, g2, g3⟩ := v_copyB (d := 5) h8 hM1.2.1
          have fr2 : ∀ c, c ≠ 25 → c ≠ 26 → c ≠ 27 → c ≠ 28 → c ≠ 29 → M2 c = M c := fun c a0 a1 a2 a3 a4 => by rw [g2 c a1 a2, f2 c a0 a1 a2 a3 a4]
          have hM2 := repC_plan hM fr2
          obtain ⟨M', e1, e2⟩ := v_spL (d := 3) (T0 := rT (sR S)) (N := N) (x1 := nI (2 ^ m)) (pi := M1 18) (pa := M1 19) hv.1 hl h6 ha hN 9 0 (60 * n) (1000000 * n) (2 ^ m) (sR S) M2 .null (by omega) hv.2.1 (by omega) (Nat.le_refl _) hK hM2.1.1 hM2.2.1.1 (by rw [g2 25 (by decide) (by decide)]; exact f3) (fun j hj => by rw [g2 29 (by decide) (by decide)]; exact f4 j hj) hM2.1 g3
          have fr : ∀ c, c ≠ 25 → c ≠ 26 → c ≠ 27 → c ≠ 28 → c ≠ 29 → M' c = M c := fun c a0 a1 a2 a3 a4 => by rw [e2 c a1 a2, fr2 c a0 a1 a2 a3 a4]
          refine ⟨M', ?_, repC_plan hM fr, fun c hc => fr c (by omega) (by omega) (by omega) (by omega) (by omega)⟩
          show lc_val 8 93 0 [.ref 0, .int (nI m), .int (nI N)] [] lc_SH M = _
          rw [sg_93_0_0, v_hasMaker1 hM.1.2.2.1 (by omega) hm, lc_bk1, sg_93_0_8, if_pos (by decide), lc_it_val, sg_93_0_14, if_neg hA.1, if_pos hA.2, v_planC hv hM, lc_bk1, sg_93_0_31, if_pos (show pLn (sP S) ≠ 0 ∧ opn (sP S) (sR S) ≤ 6 from ⟨h1, h6⟩), if_pos (by decide), show M 9 0 = nI (pLn (sP S)) from hM.1.1, f1, lc_bk1, sg_93_0_51, shl_1 m (by omega), sg_45_0_0, g1, lc_bk0, sg_45_0_13, show (.int 0 : Value) = .int (nI 0) from rfl, e1, lc_bk1, sg_93_0_63]
        · obtain ⟨M1, f1, f2, f3, f4⟩ := v_seekM (d := 2) (M := M) hv.1 (by omega) hl h6 hv.2.1 (by omega) hM.1 hM.2.1
          obtain ⟨M2, g1, g2, g3⟩ := v_takeB (d := 7) (x1 := nI m) (x2 := nI N) (x3 := nI (soonP (sP S) (pLn (sP S)) (sR S)).1) h6 (opn (sP S) (sR S)) 0 M1 (by omega) f3
          have fr2 : frM M2 M := frM_trans ⟨fun c _ _ a3 _ => g2 c a3, fun j _ _ => by rw [g2 43 (by decide)], fun j _ => by rw [g2 44 (by decide)]⟩ f2
          obtain ⟨M3, k1, k2, k3, k4⟩ := v_copyM (d := 7) (a := 0) (b := 30) (M := M2) (by decide) (by decide) (Or.inl (by decide))
          have fr3 : frM M3 M := frM_trans ⟨fun c _ a2 _ _ => k2 c a2, fun j _ _ => by rw [k2 43 (by decide)], fun j hj => k3 j (by omega)⟩ fr2
          have up43 : ∀ j, lc_up M3 43 21 (nI (2 ^ m)) 43 j = if j = 21 then nI (2 ^ m) else M3 43 j := fun j => by rw [up_at, if_pos rfl]
          have upc : ∀ c, c ≠ 43 → lc_up M3 43 21 (nI (2 ^ m)) c = M3 c := fun c hc => up_ne hc
          have fr4 : frM (lc_up M3 43 21 (nI (2 ^ m))) M := frM_trans ⟨fun c a1 _ _ _ => upc c a1, fun j h1 _ => by rw [up43, if_neg h1], fun j _ => by rw [upc 44 (by decide)]⟩ fr3
          obtain ⟨M', e1, e2⟩ := v_goKM (d := 4) (N := N) (x1 := nI m) (x3 := nI (soonP (sP S) (pLn (sP S)) (sR S)).1) hv.1 hl h6 ha hN N 0 (60 * n) (1000000 * n) (2 ^ m) (sR S) (lc_up M3 43 21 (nI (2 ^ m))) (by omega) hv.2.1 (by omega) hK (by rw [up43, if_pos rfl]) (by rw [up43, if_neg (by decide), k2 43 (by decide), g2 43 (by decide)]; exact f3) (fun j hj => by rw [upc 52 (by decide), k2 52 (by decide), g3, if_pos (by omega)]; exact f4 j hj) (by rw [up43, if_neg (by decide), fr3.2.1 2 (by decide) (by decide)]; exact hM.1.1) (frM_pat fr4 hM.1) (by rw [upc 44 (by decide)]; exact mRowAt_cp h8 (frM_row h8 fr2 hM.2.1) k4)
          have frE := frM_trans e2 fr4
          refine ⟨M', ?_, frM_rep h8 frE hM, fun c hc => frE.1 c (by omega) (by omega) (by omega) (by omega)⟩
          rw [hge] at e1
          show lc_val 8 172 0 [.ref 43, .int (nI m), .int (nI N), .null, .null] [] lc_SH M = _
          rw [sg_172_0_0, v_isMaker1 hM.1.2.2.1 (by omega) hm, lc_bk1, sg_172_0_5, if_pos (by decide), hin, lc_bk1, sg_172_0_20, if_pos (by decide), v_tooM hv hM, lc_bk1, sg_172_0_30, if_pos h6, if_pos rfl, show M 43 2 = nI (pLn (sP S)) from hM.1.1, f1, lc_bk1, sg_172_0_44, show (.int 0 : Value) = .int (nI 0) from rfl, g1, sg_172_0_77, show (.int 0 : Value) = .int (nI 0) from rfl, show (.int 30 : Value) = .int (nI 30) from rfl, k1, lc_bk0, sg_172_0_84, shl_1 m (by omega)]
          exact e1
      · refine ⟨-1000000003, fun M hM => ⟨M, ?_, hM, fun _ _ => rfl⟩, fun M hM => ⟨M, ?_, hM, fun _ _ => rfl⟩⟩
        · show lc_val 8 93 0 [.ref 0, .int (nI m), .int (nI N)] [] lc_SH M = _
          rw [sg_93_0_0, v_hasMaker1 hM.1.2.2.1 (by omega) hm, lc_bk1, sg_93_0_8, if_pos (by decide), lc_it_val, sg_93_0_14, if_neg hA.1, if_pos hA.2, v_planC hv hM, lc_bk1, sg_93_0_31, if_neg (show ¬ (pLn (sP S) ≠ 0 ∧ opn (sP S) (sR S) ≤ 6) from fun z => h6 z.2), if_neg (fun z => z rfl)]
        · show lc_val 8 172 0 [.ref 43, .int (nI m), .int (nI N), .null, .null] [] lc_SH M = _
          rw [sg_172_0_0, v_isMaker1 hM.1.2.2.1 (by omega) hm, lc_bk1, sg_172_0_5, if_pos (by decide), hin, lc_bk1, sg_172_0_20, if_pos (by decide), v_tooM hv hM, lc_bk1, sg_172_0_30, if_neg h6, if_neg (by decide)]
    · have hout : b.toInt < (0 : Int64).toInt ∨ (99 : Int64).toInt < b.toInt := by
        rw [L0, i99]
        by_cases q : b < 0
        · left; rw [lt0_iff] at q; exact q
        · right
          have q2 : ¬ b ≤ 99 := fun z => hA ⟨q, z⟩
          rw [Int32.le_iff_toInt_le, show (99 : Int32).toInt = 99 by decide] at q2
          omega
      refine ⟨-1000000002, fun M hM => ⟨M, ?_, hM, fun _ _ => rfl⟩, fun M hM => ⟨M, ?_, hM, fun _ _ => rfl⟩⟩
      · show lc_val 8 93 0 [.ref 0, .int (nI m), .int b] [] lc_SH M = _
        rw [sg_93_0_0, v_hasMaker1 hM.1.2.2.1 (by omega) hm, lc_bk1, sg_93_0_8, if_pos (by decide), lc_it_val, sg_93_0_14]
        by_cases q : b < 0
        · rw [if_pos q]
        · rw [if_neg q, if_neg (fun z => hA ⟨q, z⟩)]
      · show lc_val 8 172 0 [.ref 43, .int (nI m), .int b, .null, .null] [] lc_SH M = _
        rw [sg_172_0_0, v_isMaker1 hM.1.2.2.1 (by omega) hm, lc_bk1, sg_172_0_5, if_pos (by decide), v_in0 hout, lc_bk1, sg_172_0_20, if_neg (fun z => z rfl)]
  · refine ⟨-1000000001, fun M hM => ⟨M, ?_, hM, fun _ _ => rfl⟩, fun M hM => ⟨M, ?_, hM, fun _ _ => rfl⟩⟩
    · show lc_val 8 93 0 [.ref 0, .int a, .int b] [] lc_SH M = _
      rw [sg_93_0_0, v_hasMaker0 hM.1.2.2.1 (by omega) hm, lc_bk1, sg_93_0_8, if_neg (fun z => z rfl)]
    · show lc_val 8 172 0 [.ref 43, .int a, .int b, .null, .null] [] lc_SH M = _
      rw [sg_172_0_0, v_isMaker0 hM.1.2.2.1 (by omega) hm, lc_bk1, sg_172_0_5, if_neg (fun z => z rfl)]
