/-! soonest, lines -/
theorem opn_on8 {p : aPat} {r : aRow} (h8 : pNx p ≤ 8) : on8 (bs (wayB r 0) (pNx p)) = opn p r := on8_bs h8
theorem v_planC {tb pb d : Nat} {S : aSt} {M : lc_M} (hv : vStG tb pb S) (hM : repC S M) : lc_val (d + 2) 112 0 [.ref 0] [] lc_SH M = some (some (.int (if pLn (sP S) ≠ 0 ∧ opn (sP S) (sR S) ≤ 6 then 1 else 0)), lc_SH, M) := by
  have h8 := hv.1.2.2.2.1
  have hle := on8_le _ (bs_256 (f := wayB (sR S) 0) h8)
  rw [opn_on8 h8] at hle
  rw [sg_112_0_0, v_exch hM.1.1 (lnC hv), lc_bk1, sg_112_0_7]
  by_cases h3 : pLn (sP S) = 0
  · rw [if_pos h3, if_pos rfl, if_neg (fun z => z.1 h3)]
  · rw [if_neg h3, if_neg (by decide), v_openC hM.1.2.2.2.1 h8 hv.2.1.2.1 hM.2.1, lc_bk1, sg_112_0_20, v_bits (bs_256 h8), lc_bk1, sg_112_0_23, opn_on8 h8]
    by_cases q : opn (sP S) (sR S) ≤ 6
    · rw [if_neg (show ¬ (6 : Int32) < nI (opn (sP S) (sR S)) from nI_nlt (a := 6) q (by decide)), if_pos ⟨h3, q⟩]
    · rw [if_pos (show (6 : Int32) < nI (opn (sP S) (sR S)) from nI_lt (a := 6) (by omega) (by omega)), if_neg (fun z => q z.2)]
theorem v_tooM {tb pb d : Nat} {S : aSt} {M : lc_M} (hv : vStG tb pb S) (hM : repM S M) : lc_val (d + 2) 163 0 [.ref 43] [] lc_SH M = some (some (.int (if opn (sP S) (sR S) ≤ 6 then 0 else 1)), lc_SH, M) := by
  have h8 := hv.1.2.2.2.1
  have hle := on8_le _ (bs_256 (f := wayB (sR S) 0) h8)
  rw [opn_on8 h8] at hle
  rw [sg_163_0_0, v_inWayZ hM.1.2.2.2.1 h8 hv.2.1.2.1 hM.2.1, lc_bk1, sg_163_0_6, v_ones (bs_256 h8), lc_bk1, sg_163_0_9, opn_on8 h8]
  by_cases q : opn (sP S) (sR S) ≤ 6
  · rw [if_pos (show nI (opn (sP S) (sR S)) ≤ (6 : Int32) from nI_le (b := 6) q (by decide)), if_pos q]
  · rw [if_neg (show ¬ nI (opn (sP S) (sR S)) ≤ (6 : Int32) from nI_ge (a := 6) (by omega) (by omega)), if_neg q]
theorem repC_plan {S : aSt} {M M' : lc_M} (h : repC S M) (e : ∀ c, c ≠ 25 → c ≠ 26 → c ≠ 27 → c ≠ 28 → c ≠ 29 → M' c = M c) : repC S M' := repC_fr h (fun c hc => by unfold keepC at hc; exact e c (by omega) (by omega) (by omega) (by omega) (by omega))
def soonI (S : aSt) (a : Int32) : Int32 := if a = -1 then nI (soonP (sP S) (pLn (sP S)) (sR S)).1 else if a < 0 ∨ nI (opn (sP S) (sR S)) ≤ a then -1 else nI ((soonP (sP S) (pLn (sP S)) (sR S)).2 a.toNatClampNeg)
theorem op_soonest (a : Int32) : opOK 86 164 [.int a] := by
  refine opOK_const (fun n S hn hv0 => ?_)
  have hv := vSt_G.mp hv0
  have h8 := hv.1.2.2.2.1
  have hl := lnC hv
  by_cases h : pLn (sP S) ≠ 0 ∧ opn (sP S) (sR S) ≤ 6
  · obtain ⟨h1, h6⟩ := h
    refine ⟨soonI S a, fun M hM => ?_, fun M hM => ?_⟩
    · obtain ⟨M', e1, e2, e3, e4⟩ := v_seekC (d := 2) (M := M) hv.1 hl h6 hv.2.1 (by omega) hM.1 hM.2.1
      refine ⟨M', ?_, repC_plan hM e2, fun c hc => e2 c (by omega) (by omega) (by omega) (by omega) (by omega)⟩
      show lc_val 8 86 0 [.ref 0, .int a, .null] [] lc_SH M = _
      rw [sg_86_0_0, v_planC hv hM, lc_bk1, sg_86_0_4, if_pos (show pLn (sP S) ≠ 0 ∧ opn (sP S) (sR S) ≤ 6 from ⟨h1, h6⟩), if_pos (by decide), show M 9 0 = nI (pLn (sP S)) from hM.1.1, e1, lc_bk1, sg_86_0_24]
      unfold soonI
      by_cases q : a = -1
      · rw [if_neg (fun z => z q), if_pos q]
      · rw [if_pos q, if_neg q, lc_it_val, sg_86_0_32]
        by_cases q1 : a < 0
        · rw [if_pos q1, if_pos (Or.inl q1)]
        · rw [if_neg q1, lc_it_val, sg_86_0_36, e3]
          by_cases q2 : nI (opn (sP S) (sR S)) ≤ a
          · rw [if_pos q2, if_pos (Or.inr q2)]
          · obtain ⟨j, hj, rfl⟩ := nI_of q1
            have hjn : j < opn (sP S) (sR S) := by
              rcases Nat.lt_or_ge j (opn (sP S) (sR S)) with z | z
              · exact z
              · exact absurd (nI_le z hj) q2
            rw [if_neg q2, if_neg (fun z => z.elim q1 q2), lc_it_val, sg_86_0_47, if_pos (nI_in (by omega) (by decide)), nI_clamp hj, e4 j hjn]
    · obtain ⟨M', e1, e2, e3, e4⟩ := v_seekM (d := 2) (M := M) hv.1 (by omega) hl h6 hv.2.1 (by omega) hM.1 hM.2.1
      refine ⟨M', ?_, frM_rep h8 e2 hM, fun c hc => e2.1 c (by omega) (by omega) (by omega) (by omega)⟩
      show lc_val 8 164 0 [.ref 43, .int a, .null] [] lc_SH M = _
      rw [sg_164_0_0, show M 43 2 = nI (pLn (sP S)) from hM.1.1, if_neg (nI_ne0 (by omega) (by omega)), v_tooM hv hM, lc_bk1, sg_164_0_11, if_pos h6, if_pos rfl, show M 43 2 = nI (pLn (sP S)) from hM.1.1, e1, lc_bk1, sg_164_0_25]
      unfold soonI
      by_cases q : a = -1
      · rw [if_neg (fun z => z q), if_pos q]
      · rw [if_pos q, if_neg q, e3]
        by_cases q1 : vp_in a (opn (sP S) (sR S))
        · obtain ⟨j, hjn, rfl⟩ := vp_in_of q1 (by omega)
          have hv1 := vin_yes (by omega) q1
          rw [vp_in_iff] at q1
          rw [v_in1 (by rw [L0]; omega) (by rw [pred_toInt (by omega)]; omega), lc_bk1, sg_164_0_48, if_neg (by decide), if_pos (nI_in (by omega) (by decide)), nI_clamp (by omega), e4 j hjn, if_neg (fun z => z.elim hv1.1 hv1.2)]
        · have hv1 := vin_not (by omega) q1
          rw [vp_in_iff] at q1
          rw [v_in0 (by rw [L0, pred_toInt (by omega)]; omega), lc_bk1, sg_164_0_48, if_pos rfl, if_pos hv1]
  · refine ⟨-1000000003, fun M hM => ⟨M, ?_, hM, fun _ _ => rfl⟩, fun M hM => ⟨M, ?_, hM, fun _ _ => rfl⟩⟩
    · show lc_val 8 86 0 [.ref 0, .int a, .null] [] lc_SH M = _
      rw [sg_86_0_0, v_planC hv hM, lc_bk1, sg_86_0_4, if_neg h, if_neg (fun z => z rfl)]
    · show lc_val 8 164 0 [.ref 43, .int a, .null] [] lc_SH M = _
      rw [sg_164_0_0, show M 43 2 = nI (pLn (sP S)) from hM.1.1]
      by_cases h1 : pLn (sP S) = 0
      · rw [h1, if_pos (show nI 0 = 0 from rfl)]
      · rw [if_neg (nI_ne0 (by omega) (by omega)), v_tooM hv hM, lc_bk1, sg_164_0_11, if_neg (fun z => h ⟨h1, z⟩), if_neg (by decide)]
theorem seekL_le {p : aPat} {ln n : Nat} {r : aRow} {l : Nat → Nat} : ∀ (t : List (List Nat)) (F : Nat) (b : Nat → Nat), (seekL p ln n r l t F b).1 ≤ F
  | [], F, b => Nat.le_refl _
  | x :: t, F, b => by
    rw [seekL]
    by_cases q : totE p ln n (ordL l x) 9 r < F
    · rw [if_pos q]
      have := seekL_le (p := p) (ln := ln) (n := n) (r := r) (l := l) t (totE p ln n (ordL l x) 9 r) (ordL l x)
      omega
    · rw [if_neg q]; exact seekL_le t F b
theorem soonP_le {p : aPat} {ln tb pb : Nat} {r : aRow} (hv : vPat p) (hr : vRowG tb pb p r) : (soonP p ln r).1 ≤ 180 := by
  unfold soonP
  exact Nat.le_trans (seekL_le _ _ _) (tot_small hv (rel_lt (s := atL (List.range (opn p r))) (fun i hi => by rw [range_at hi]; exact ⟨by unfold ordL; rw [range_at hi], hi⟩)) hr)
def linF (p : aPat) (r : aRow) (N : Nat) : Nat → Nat → Int32
  | 0, _ => -1
  | k + 1, l => if (soonP p l r).1 ≤ N then nI l else linF p r N k (l + 1)
theorem v_linC {d tb pb N : Nat} {S : aSt} (hv : vStG tb pb S) (htb : tb ≤ 4000) (h6 : opn (sP S) (sR S) ≤ 6) (hN : N ≤ 200) : ∀ (k l : Nat) (M : lc_M), l + k = 4 → 1 ≤ l → repC S M → ∃ M', lc_val (d + 6) 87 26 [.ref 0, .int (nI N), .int (nI l)] [] lc_SH M = some (some (.int (linF (sP S) (sR S) N k l)), lc_SH, M') ∧ repC S M' ∧ ∀ c, 43 ≤ c → M' c = M c
  | 0, l, M, h, hl, hM => by
    obtain rfl : l = 4 := by omega
    refine ⟨M, ?_, hM, fun _ _ => rfl⟩
    rw [sg_87_0_26, if_pos (by decide)]
    rfl
  | k + 1, l, M, h, hl, hM => by
    obtain ⟨M1, f1, f2, _, _⟩ := v_seekC (d := d) (ln := l) (M := M) hv.1 (by omega) h6 hv.2.1 (by omega) hM.1 hM.2.1
    have hs := soonP_le (ln := l) hv.1 hv.2.1
    have hM1 := repC_plan hM f2
    rw [sg_87_0_26, if_neg (show ¬ (3 : Int32) < nI l from nI_nlt (a := 3) (by omega) (by decide)), f1, lc_bk1, sg_87_0_39, linF]
    by_cases q : (soonP (sP S) l (sR S)).1 ≤ N
    · refine ⟨M1, ?_, hM1, fun c hc => f2 c (by omega) (by omega) (by omega) (by omega) (by omega)⟩
      rw [if_neg (nI_nlt q (by omega)), if_pos q]
    · obtain ⟨M', e1, e2, e3⟩ := v_linC (d := d) hv htb h6 hN k (l + 1) M1 (by omega) (by omega) hM1
      refine ⟨M', ?_, e2, fun c hc => by rw [e3 c hc, f2 c (by omega) (by omega) (by omega) (by omega) (by omega)]⟩
      rw [if_pos (nI_lt (by omega) (by omega)), if_neg q, nI_1]
      exact e1
theorem v_linM {d tb pb N : Nat} {S : aSt} (hv : vStG tb pb S) (htb : tb ≤ 4000) (h6 : opn (sP S) (sR S) ≤ 6) (hN : N ≤ 200) : ∀ (k l : Nat) (M : lc_M), l + k = 4 → 1 ≤ l → repM S M → ∃ M', lc_val (d + 6) 165 34 [.ref 43, .int (nI N), .int (nI l)] [] lc_SH M = some (some (.int (linF (sP S) (sR S) N k l)), lc_SH, M') ∧ repM S M' ∧ ∀ c, c < 43 → M' c = M c
  | 0, l, M, h, hl, hM => by
    obtain rfl : l = 4 := by omega
    refine ⟨M, ?_, hM, fun _ _ => rfl⟩
    rw [sg_165_0_34, if_pos (by decide)]
    rfl
  | k + 1, l, M, h, hl, hM => by
    have h8 := hv.1.2.2.2.1
    obtain ⟨M1, f1, f2, _, _⟩ := v_seekM (d := d) (ln := l) (M := M) hv.1 hl (by omega) h6 hv.2.1 htb hM.1 hM.2.1
    have hs := soonP_le (ln := l) hv.1 hv.2.1
    have hM1 := frM_rep h8 f2 hM
    rw [sg_165_0_34, if_neg (show ¬ (4 : Int32) ≤ nI l from nI_ge (b := 4) (by omega) (by decide)), f1, lc_bk1, sg_165_0_44, linF]
    by_cases q : (soonP (sP S) l (sR S)).1 ≤ N
    · refine ⟨M1, ?_, hM1, fun c hc => f2.1 c (by omega) (by omega) (by omega) (by omega)⟩
      rw [if_neg (nI_nlt q (by omega)), if_pos q]
    · obtain ⟨M', e1, e2, e3⟩ := v_linM (d := d) hv htb h6 hN k (l + 1) M1 (by omega) (by omega) hM1
      refine ⟨M', ?_, e2, fun c hc => by rw [e3 c hc, f2.1 c (by omega) (by omega) (by omega) (by omega)]⟩
      rw [if_pos (nI_lt (by omega) (by omega)), if_neg q, nI_1]
      exact e1
theorem op_lines (a : Int32) : opOK 87 165 [.int a] := by
  refine opOK_const (fun n S hn hv0 => ?_)
  have hv := vSt_G.mp hv0
  have h8 := hv.1.2.2.2.1
  have hl := lnC hv
  have i200 : (200 : Int64).toInt = 200 := by decide
  by_cases hA : ¬ a < 0 ∧ a ≤ 200
  · obtain ⟨N, hN, rfl⟩ := nI_of2 (M := 200) (n := 200) rfl hA.1 hA.2
    have hin : lc_val 7 116 0 [.long (Int32.toInt64 (nI N)), .null, .long 0, .null, .long 200, .null] [] lc_SH = fun M => some (some (.int 1), lc_SH, M) := funext fun M => v_in1 (by rw [L0, nI_toInt (by omega)]; omega) (by rw [i200, nI_toInt (by omega)]; omega)
    by_cases h : pLn (sP S) ≠ 0 ∧ opn (sP S) (sR S) ≤ 6
    · obtain ⟨h1, h6⟩ := h
      refine ⟨linF (sP S) (sR S) N 3 1, fun M hM => ?_, fun M hM => ?_⟩
      · obtain ⟨M', e1, e2, e3⟩ := v_linC (d := 2) hv (by omega) h6 hN 3 1 M (by omega) (by omega) hM
        refine ⟨M', ?_, e2, e3⟩
        show lc_val 8 87 0 [.ref 0, .int (nI N), .null] [] lc_SH M = _
        rw [sg_87_0_0, if_neg hA.1, if_pos hA.2, v_planC hv hM, lc_bk1, sg_87_0_18, if_pos (show pLn (sP S) ≠ 0 ∧ opn (sP S) (sR S) ≤ 6 from ⟨h1, h6⟩), if_pos (by decide)]
        exact e1
      · obtain ⟨M', e1, e2, e3⟩ := v_linM (d := 2) hv (by omega) h6 hN 3 1 M (by omega) (by omega) hM
        refine ⟨M', ?_, e2, e3⟩
        show lc_val 8 165 0 [.ref 43, .int (nI N), .null] [] lc_SH M = _
        rw [sg_165_0_0, hin, lc_bk1, sg_165_0_9, if_pos (by decide), show M 43 2 = nI (pLn (sP S)) from hM.1.1, if_neg (nI_ne0 (by omega) (by omega)), v_tooM hv hM, lc_bk1, sg_165_0_26, if_pos h6, if_pos rfl]
        exact e1
    · refine ⟨-1000000003, fun M hM => ⟨M, ?_, hM, fun _ _ => rfl⟩, fun M hM => ⟨M, ?_, hM, fun _ _ => rfl⟩⟩
      · show lc_val 8 87 0 [.ref 0, .int (nI N), .null] [] lc_SH M = _
        rw [sg_87_0_0, if_neg hA.1, if_pos hA.2, v_planC hv hM, lc_bk1, sg_87_0_18, if_neg h, if_neg (fun z => z rfl)]
      · show lc_val 8 165 0 [.ref 43, .int (nI N), .null] [] lc_SH M = _
        rw [sg_165_0_0, hin, lc_bk1, sg_165_0_9, if_pos (by decide), show M 43 2 = nI (pLn (sP S)) from hM.1.1]
        by_cases h1 : pLn (sP S) = 0
        · rw [h1, if_pos (show nI 0 = 0 from rfl)]
        · rw [if_neg (nI_ne0 (by omega) (by omega)), v_tooM hv hM, lc_bk1, sg_165_0_26, if_neg (fun z => h ⟨h1, z⟩), if_neg (by decide)]
  · refine ⟨-1000000002, fun M hM => ⟨M, ?_, hM, fun _ _ => rfl⟩, fun M hM => ⟨M, ?_, hM, fun _ _ => rfl⟩⟩
    · show lc_val 8 87 0 [.ref 0, .int a, .null] [] lc_SH M = _
      rw [sg_87_0_0]
      by_cases q : a < 0
      · rw [if_pos q]
      · rw [if_neg q, if_neg (fun z => hA ⟨q, z⟩)]
    · show lc_val 8 165 0 [.ref 43, .int a, .null] [] lc_SH M = _
      have hout : a.toInt < (0 : Int64).toInt ∨ (200 : Int64).toInt < a.toInt := by
        rw [L0, i200]
        by_cases q : a < 0
        · left; rw [lt0_iff] at q; exact q
        · right
          have q2 : ¬ a ≤ 200 := fun z => hA ⟨q, z⟩
          rw [Int32.le_iff_toInt_le, show (200 : Int32).toInt = 200 by decide] at q2
          omega
      rw [sg_165_0_0, v_in0 hout, lc_bk1, sg_165_0_9, if_neg (fun z => z rfl)]
