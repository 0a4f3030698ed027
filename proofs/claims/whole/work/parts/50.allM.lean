/-! the whole text, read by the reference -/
theorem patE_up17 {D : aPat} {M : lc_M} {v : Int32} (h : patE D M) : patE D (lc_up M 43 17 v) := patE_N h ⟨fun c hc => up_ne hc, fun k hk => by rw [up_at, if_pos rfl, if_neg (by omega)]⟩
theorem flt_w {M : lc_M} {f w : Nat} : flM (f, w) (lc_up (lc_up M 43 19 (nI f)) 43 20 (nI w)) := ⟨rfl, rfl⟩
theorem frT_w {M : lc_M} {f w : Int32} : frT (lc_up (lc_up M 43 19 f) 43 20 w) M := frT_trans (frT_43 (by decide)) (frT_43 (by decide))
theorem v_clM {d L i : Nat} {t : Nat → Nat} {D : aPat} {M : lc_M} (hL : L ≤ 200) (ht : ∀ j, j < L → t j ≤ 255) (hi : i < L) (h32 : ¬ t i = 32) (hv : vPat D) (hM : RM t L i M) (hD : patE D M) : ∃ M', lc_val (d + 4) 128 0 [.ref 43, .null, .null] [] lc_SH M = some (none, lc_SH, M') ∧ frT M' M ∧ resM t L (clP t L D i) M' := by
  have hti := ht i hi
  have hln := hv.1
  have hnm := hv.2.2.1
  have hnx := hv.2.2.2.1
  obtain ⟨hx, h2, h3, h4⟩ := hM
  obtain ⟨M1, f1, f2, f3, f4⟩ := v_here (d := d + 3) hL ht (show i ≤ L by omega) hx h4
  have hsk : skN t L i = i := skN_id (fun _ => h32)
  rw [hsk] at f1 f4
  have hh : hereI t L i = nI (t i) := by unfold hereI; rw [if_pos hi]
  rw [hh] at f1
  have frN1 : frN M1 M := ⟨f2, fun k hk => f3 k (by omega)⟩
  have hM1 : RM t L i M1 := ⟨frN_tx frN1 hx, by rw [f3 19 (by decide)]; exact h2, by rw [f3 20 (by decide)]; exact h3, f4⟩
  have frU : frT (lc_up M1 43 17 (nI (i + 1))) M := frT_trans (frT_43 (by decide)) (frT_N frN1)
  have hMU : RM t L (i + 1) (lc_up M1 43 17 (nI (i + 1))) := by
    obtain ⟨a1, a2, a3, a4⟩ := hM1
    exact ⟨⟨by rw [up_at, if_pos rfl, if_neg (by decide)]; exact a1.1, fun j hj => by rw [up_ne (by decide)]; exact a1.2 j hj⟩, by rw [up_at, if_pos rfl, if_neg (by decide)]; exact a2, by rw [up_at, if_pos rfl, if_neg (by decide)]; exact a3, by rw [up_at, if_pos rfl, if_pos rfl]⟩
  have hDU : patE D (lc_up M1 43 17 (nI (i + 1))) := patE_up17 (patE_N hD frN1)
  generalize hU : lc_up M1 43 17 (nI (i + 1)) = U at frU hMU hDU
  have pre : lc_val (d + 4) 128 0 [.ref 43, .null, .null] [] lc_SH M = (if nI (t i) = 101 then lc_val (d + 4) 128 34 [.ref 43, .int (nI (t i)), .int (nI i)] [.ref 43] lc_SH U else lc_val (d + 4) 128 27 [.ref 43, .int (nI (t i)), .int (nI i)] [.ref 43] lc_SH U) := by
    rw [sg_128_0_0, f1, lc_bk1, sg_128_0_4, f4, nI_1, hU]
  have h6 : U 43 6 = nI (pLn D) := hDU.1
  have h8 : U 43 8 = nI (pNm D) := hDU.2.2.1
  have h9 : U 43 9 = nI (pNx D) := hDU.2.2.2.1
  have p34 : lc_val (d + 4) 128 34 [.ref 43, .int (nI (t i)), .int (nI i)] [.ref 43] lc_SH U = lc_val (d + 4) 128 48 [.ref 43, .int (nI (t i)), .int (nI i)] [] lc_SH U := by
    rw [sg_128_0_34, v_w1 hMU.2.1, lc_bk1, sg_128_0_44, if_pos (by decide), lc_it_val]
  rw [pre]
  unfold clP wdF
  by_cases q1 : t i = 101
  · have y1 : nI (t i) = 101 := by rw [q1]; rfl
    rw [if_pos y1, p34, sg_128_0_48, if_neg (fun z => z y1), sg_128_0_54, if_pos q1, if_pos q1]
    by_cases q2 : pLn D = 0
    · obtain ⟨M', e1, e2, e3⟩ := v_exM (d := d) (wh := nI i) hL ht (show i + 1 ≤ L by omega) hMU hDU q2
      rw [if_pos q2, if_pos rfl]
      refine ⟨M', ?_, frT_trans e2 frU, e3⟩
      rw [e1, lc_bk0, sg_128_0_59, sg_128_0_101]
    · rw [if_neg q2, if_neg (show ¬ (3 : Nat) = 0 by decide)]
      refine ⟨lc_up (lc_up U 43 19 3) 43 20 (nI i), ?_, frT_trans frT_w frU, flt_w (f := 3)⟩
      rw [sg_125_0_0, h6, if_pos (nI_ne0 (by omega) (by omega)), lc_it_val, v_w0 hMU.2.1 (by decide), lc_bk1, sg_125_0_18, if_pos rfl, lc_bk0, sg_128_0_59, sg_128_0_101]
  · have n1 : ¬ nI (t i) = 101 := ne_I (k := 101) hti (by decide) q1
    rw [if_neg n1, sg_128_0_27, h6, if_neg q1, if_neg q1]
    by_cases q2 : pLn D = 0
    · rw [if_pos q2, if_neg (show ¬ (1 : Nat) = 0 by decide)]
      refine ⟨lc_up (lc_up U 43 19 1) 43 20 (nI i), ?_, frT_trans frT_w frU, flt_w (f := 1)⟩
      rw [q2, if_pos (by decide), v_w0 hMU.2.1 (by decide), lc_bk1, sg_128_0_44, if_neg (fun z => z rfl)]
    · rw [if_neg q2, if_neg (nI_nle (by omega) (by omega)), lc_it_val, p34, sg_128_0_48, if_pos n1, sg_128_0_62]
      by_cases q3 : t i = 109
      · have y9 : nI (t i) = 109 := by rw [q3]; rfl
        rw [if_neg (fun z => z y9), sg_128_0_68, if_pos q3, if_pos q3]
        by_cases q4 : pNm D < 6
        · obtain ⟨M', e1, e2, e3⟩ := v_maM (d := d) (wh := nI i) hL ht (show i + 1 ≤ L by omega) hMU hDU q4
          rw [if_pos q4, if_pos rfl]
          refine ⟨M', ?_, frT_trans e2 frU, e3⟩
          rw [e1, lc_bk0, sg_128_0_73, sg_128_0_101]
        · rw [if_neg q4, if_neg (show ¬ (3 : Nat) = 0 by decide)]
          refine ⟨lc_up (lc_up U 43 19 3) 43 20 (nI i), ?_, frT_trans frT_w frU, flt_w (f := 3)⟩
          rw [sg_126_0_0, h8, if_pos (show (6 : Int32) ≤ nI (pNm D) from nI_le (a := 6) (by omega) (by omega)), lc_it_val, v_w0 hMU.2.1 (by decide), lc_bk1, sg_126_0_20, if_pos rfl, lc_bk0, sg_128_0_73, sg_128_0_101]
      · have n9 : ¬ nI (t i) = 109 := ne_I (k := 109) hti (by decide) q3
        rw [if_pos n9, sg_128_0_76, if_neg q3, if_neg q3]
        by_cases q4 : t i = 120
        · have y20 : nI (t i) = 120 := by rw [q4]; rfl
          rw [if_neg (fun z => z y20), v_w1 hMU.2.1, lc_bk1, sg_128_0_93, if_neg (show ¬ (1 : Int32) = 0 by decide), if_pos q4]
          by_cases q5 : pNx D < 8
          · obtain ⟨M', e1, e2, e3⟩ := v_crM (d := d) (wh := nI i) hL ht (show i + 1 ≤ L by omega) hMU hDU hnm q5
            rw [if_pos q5, if_pos rfl]
            refine ⟨M', ?_, frT_trans e2 frU, e3⟩
            rw [e1, lc_bk0, sg_128_0_101]
          · rw [if_neg q5, if_neg (show ¬ (3 : Nat) = 0 by decide)]
            refine ⟨lc_up (lc_up U 43 19 3) 43 20 (nI i), ?_, frT_trans frT_w frU, flt_w (f := 3)⟩
            rw [sg_127_0_0, h9, if_pos (show (8 : Int32) ≤ nI (pNx D) from nI_le (a := 8) (by omega) (by omega)), lc_it_val, v_w0 hMU.2.1 (by decide), lc_bk1, sg_127_0_20, if_pos rfl, lc_bk0, sg_128_0_101]
        · have n20 : ¬ nI (t i) = 120 := ne_I (k := 120) hti (by decide) q4
          rw [if_neg q4, if_neg (show ¬ (1 : Nat) = 0 by decide)]
          refine ⟨lc_up (lc_up U 43 19 1) 43 20 (nI i), ?_, frT_trans frT_w frU, flt_w (f := 1)⟩
          rw [if_pos n20, lc_it_val, v_w0 hMU.2.1 (by decide), lc_bk1, sg_128_0_93, if_pos rfl, lc_it_val, sg_128_0_101]
def finM (r : aErr ⊕ aPat) (M : lc_M) : Prop := match r with
  | .inl e => flM e M
  | .inr D => M 43 19 = 0 ∧ M 43 20 = -1 ∧ patE D M
theorem patE_T {D : aPat} {M M' : lc_M} (h : patE D M) (e : ∀ c, c ≠ 43 → M' c = M c) (e3 : ∀ j, j ≠ 17 → M' 43 j = M 43 j) : patE D M' := patE_N h ⟨e, fun k hk => e3 k (by omega)⟩
theorem v_loM {d L : Nat} {t : Nat → Nat} (hL : L ≤ 200) (ht : ∀ j, j < L → t j ≤ 255) : ∀ (f i : Nat) (D : aPat) (M : lc_M), L ≤ i + f → i ≤ L → vPat D → RM t L i M → patE D M → ∃ M', lc_val (d + 5) 129 35 [.ref 43] [] lc_SH M = lc_val (d + 5) 129 99 [.ref 43] [] lc_SH M' ∧ frT M' M ∧ finM (paP t L f D i) M'
  | 0, i, D, M, hf, hi, hv, hM, hD => by
    obtain ⟨hx, h2, h3, h4⟩ := hM
    obtain ⟨M1, f1, f2, f3, f4⟩ := v_here (d := d + 4) hL ht hi hx h4
    have hs := skN_in (t := t) hi
    have hh : hereI t L (skN t L i) = -1 := by unfold hereI; rw [if_neg (by omega)]
    rw [hh] at f1
    refine ⟨M1, ?_, frT_N ⟨f2, fun k hk => f3 k (by omega)⟩, by rw [f3 19 (by decide)]; exact h2, by rw [f3 20 (by decide)]; exact h3, patE_T hD f2 f3⟩
    rw [sg_129_0_35, if_neg (fun z => z h2), f1, lc_bk1, sg_129_0_46, if_pos (by decide), lc_it_val]
  | f + 1, i, D, M, hf, hi, hv, hM, hD => by
    obtain ⟨hx, h2, h3, h4⟩ := hM
    obtain ⟨M1, f1, f2, f3, f4⟩ := v_here (d := d + 4) hL ht hi hx h4
    have hs := skN_in (t := t) hi
    have fr1 : frN M1 M := ⟨f2, fun k hk => f3 k (by omega)⟩
    have hD1 : patE D M1 := patE_T hD f2 f3
    have hM1 : RM t L (skN t L i) M1 := ⟨frN_tx fr1 hx, by rw [f3 19 (by decide)]; exact h2, by rw [f3 20 (by decide)]; exact h3, f4⟩
    have pre : lc_val (d + 5) 129 35 [.ref 43] [] lc_SH M = lc_val (d + 5) 129 46 [.ref 43] [.int (hereI t L (skN t L i))] lc_SH M1 := by
      rw [sg_129_0_35, if_neg (fun z => z h2), f1, lc_bk1]
    have over : ∀ (K : lc_M), ftM K → lc_val (d + 5) 129 35 [.ref 43] [] lc_SH K = lc_val (d + 5) 129 99 [.ref 43] [] lc_SH K := fun K hK => by
      rw [sg_129_0_35, if_pos (ftM_ne hK), lc_it_val]
    rw [pre, sg_129_0_46, paP]
    by_cases q : skN t L i < L
    · have hh : hereI t L (skN t L i) = nI (t (skN t L i)) := by unfold hereI; rw [if_pos q]
      have htj := ht _ q
      have hok := clP_ok (t := t) hv q
      obtain ⟨M2, g1, g2, g3⟩ := v_clM (d := d) hL ht q (skN_not hi q) hv hM1 hD1
      have fr2 : frT M2 M := frT_trans g2 (frT_N fr1)
      rw [hh, if_neg (nI_pos (by omega)), g1, lc_bk0, sg_129_0_53, if_pos q]
      unfold ceP
      cases hcl : clP t L D (skN t L i) with
      | inl e =>
        rw [hcl] at g3 hok
        have hft := flM_ft g3 hok
        refine ⟨M2, ?_, fr2, g3⟩
        rw [if_pos (ftM_ne hft), lc_it_val, over M2 hft]
      | inr r =>
        obtain ⟨D', j⟩ := r
        rw [hcl] at g3 hok
        obtain ⟨o1, o2, o3⟩ := hok
        obtain ⟨⟨hx2, h22, h32, h42⟩, hD2⟩ := g3
        obtain ⟨M3, y1, y2, y3, y4⟩ := v_here (d := d + 4) hL ht o3 hx2 h42
        have fr3 : frT M3 M := frT_trans (frT_N ⟨y2, fun k hk => y3 k (by omega)⟩) fr2
        have h19 : M3 43 19 = 0 := by rw [y3 19 (by decide)]; exact h22
        have h20 : M3 43 20 = -1 := by rw [y3 20 (by decide)]; exact h32
        have hD3 : patE D' M3 := patE_T hD2 y2 y3
        have hx3 : txM t L M3 := frN_tx ⟨y2, fun k hk => y3 k (by omega)⟩ hx2
        have hs2 := skN_in (t := t) o3
        have pre2 : lc_back 59 (fun st' Sh' M' => lc_val (d + 5) 129 65 [.ref 43] st' Sh' M') [.ref 43] (lc_val (d + 4) 121 0 [.ref 43] [] lc_SH M2) = lc_val (d + 5) 129 65 [.ref 43] [.int (hereI t L (skN t L j)), .ref 43] lc_SH M3 := by
          rw [y1]
          rfl
        rw [if_neg (fun z => z h22), pre2, sg_129_0_65, y4]
        show ∃ M', _ ∧ frT M' M ∧ finM (match (match enP t L j with
          | .inl e => .inl e
          | .inr k => .inr (D', k) : aErr ⊕ (aPat × Nat)) with
          | .inl e => .inl e
          | .inr (D', k) => paP t L f D' k) M'
        unfold enP
        by_cases q2 : skN t L j < L ∧ t (skN t L j) = 59
        · have h59 : hereI t L (skN t L j) = 59 := by unfold hereI; rw [if_pos q2.1, q2.2]; rfl
          have u : ∀ k, lc_up M3 43 17 (nI (skN t L j + 1)) 43 k = if k = 17 then nI (skN t L j + 1) else M3 43 k := fun k => by rw [up_at, if_pos rfl]
          obtain ⟨M', e1, e2, e3⟩ := v_loM (d := d) hL ht f (skN t L j + 1) D' (lc_up M3 43 17 (nI (skN t L j + 1))) (by omega) (by omega) o1 ⟨⟨by rw [u, if_neg (by decide)]; exact hx3.1, fun k hk => by rw [up_ne (by decide)]; exact hx3.2 k hk⟩, by rw [u, if_neg (by decide)]; exact h19, by rw [u, if_neg (by decide)]; exact h20, by rw [u, if_pos rfl]⟩ (patE_up17 hD3)
          rw [if_pos q2]
          refine ⟨M', ?_, frT_trans e2 (frT_trans (frT_43 (by decide)) fr3), e3⟩
          rw [if_neg (fun z => z h59), v_w1 h19, lc_bk1, sg_129_0_83, if_neg (by decide), y4, nI_1]
          exact e1
        · have h59 : ¬ hereI t L (skN t L j) = 59 := by
            unfold hereI
            by_cases z : skN t L j < L
            · have := ht _ z
              rw [if_pos z]
              exact fun y => q2 ⟨z, (nI_eq (b := 59) (by omega) (by decide)).mp y⟩
            · rw [if_neg z]; decide
          have flq : flM (1, skN t L j) (lc_up (lc_up M3 43 19 1) 43 20 (nI (skN t L j))) := ⟨rfl, rfl⟩
          rw [if_neg q2]
          refine ⟨lc_up (lc_up M3 43 19 1) 43 20 (nI (skN t L j)), ?_, frT_trans frT_w fr3, flq⟩
          rw [if_pos h59, lc_it_val, v_w0 h19 (by decide), lc_bk1, sg_129_0_83, if_pos rfl, lc_it_val, over _ (flM_ft flq (okE_of (by decide) (by decide) hs2.2))]
    · have hh : hereI t L (skN t L i) = -1 := by unfold hereI; rw [if_neg q]
      rw [hh, if_pos (by decide), lc_it_val, if_neg q]
      exact ⟨M1, rfl, frT_N fr1, hM1.2.1, hM1.2.2.1, hD1⟩
