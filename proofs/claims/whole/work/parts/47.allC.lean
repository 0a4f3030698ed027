/-! the whole text, read by the class -/
theorem v_exD {d ln : Nat} {M : lc_M} (h : M 3 0 = nI ln) (hl : ln ≤ 3) : lc_val d 31 0 [.ref 3] [] lc_SH M = some (some (.int (if ln = 0 then 0 else 1)), lc_SH, M) := by
  rw [sg_31_0_0, h]
  by_cases e : ln = 0
  · rw [if_pos e, e, if_pos (by decide)]
  · rw [if_neg e, if_neg (nI_nle (by omega) (by omega))]
theorem ne_I {c k : Nat} (hc : c ≤ 255) (hk : k ≤ 255) (h : ¬ c = k) : ¬ nI c = nI k := fun z => h ((nI_eq (by omega) (by omega)).mp z)
theorem v_wdC {d c : Nat} {D : aPat} {M : lc_M} (hv : vPat D) (hD : patD D M) (hc : c ≤ 255) : lc_val (d + 1) 51 0 [.ref 3, .int (nI c), .null] [] lc_SH M = some (some (.int (nI (wdF D c))), lc_SH, M) := by
  have hl := hv.1
  have hm := hv.2.2.1
  have hx := hv.2.2.2.1
  have e101 : (101 : Int32) = nI 101 := rfl
  have e109 : (109 : Int32) = nI 109 := rfl
  have e120 : (120 : Int32) = nI 120 := rfl
  have h0 := v_exD (d := d) (M := M) hD.1 hl
  have p74 : lc_val (d + 1) 51 74 [.ref 3, .int (nI c), .null] [] lc_SH M = some (some (.int 0), lc_SH, M) := sg_51_0_74 ..
  have p70 : lc_val (d + 1) 51 70 [.ref 3, .int (nI c), .null] [] lc_SH M = some (some (.int 3), lc_SH, M) := sg_51_0_70 ..
  unfold wdF
  by_cases q1 : c = 101
  · have n9 : ¬ nI c = 109 := ne_I (k := 109) hc (by decide) (by omega)
    have n20 : ¬ nI c = 120 := ne_I (k := 120) hc (by decide) (by omega)
    rw [if_pos q1, sg_51_0_0, if_pos (show nI c = 101 by rw [q1]; rfl), lc_it_val, sg_51_0_27, if_neg (fun z => z (show nI c = 101 by rw [q1]; rfl)), h0, lc_bk1, sg_51_0_37]
    by_cases q2 : pLn D = 0
    · rw [if_pos q2, if_pos q2, if_neg (fun z => z rfl), sg_51_0_40, if_pos n9, lc_it_val, sg_51_0_55, if_pos n20, lc_it_val, p74]
      rfl
    · rw [if_neg q2, if_neg q2, if_pos (by decide), p70]
      rfl
  · have n1 : ¬ nI c = 101 := ne_I (k := 101) hc (by decide) q1
    rw [if_neg q1, sg_51_0_0, if_neg n1, h0, lc_bk1, sg_51_0_10]
    by_cases q2 : pLn D = 0
    · rw [if_pos q2, if_pos q2, if_pos rfl]
      rfl
    · rw [if_neg q2, if_neg q2, if_neg (by decide), lc_it_val, sg_51_0_13]
      by_cases q3 : c = 109
      · have y9 : nI c = 109 := by rw [q3]; rfl
        have n20 : ¬ nI c = 120 := ne_I (k := 120) hc (by decide) (by omega)
        rw [if_pos y9, if_pos q3, sg_51_0_27, if_pos n1, lc_it_val, sg_51_0_40, if_neg (fun z => z y9), hD.2.2.1]
        by_cases q4 : pNm D < 6
        · rw [if_pos q4, if_neg (show ¬ (6 : Int32) ≤ nI (pNm D) from nI_ge (b := 6) q4 (by decide)), sg_51_0_55, if_pos n20, lc_it_val, p74]
          rfl
        · rw [if_neg q4, if_pos (show (6 : Int32) ≤ nI (pNm D) from nI_le (a := 6) (by omega) (by omega)), p70]
          rfl
      · have n9 : ¬ nI c = 109 := ne_I (k := 109) hc (by decide) q3
        rw [if_neg n9, if_neg q3, sg_51_0_19]
        by_cases q4 : c = 120
        · have y20 : nI c = 120 := by rw [q4]; rfl
          rw [if_pos y20, if_pos q4, lc_it_val, sg_51_0_27, if_pos n1, lc_it_val, sg_51_0_40, if_pos n9, lc_it_val, sg_51_0_55, if_neg (fun z => z y20), hD.2.2.2.1]
          by_cases q5 : pNx D < 8
          · rw [if_pos q5, if_pos (show nI (pNx D) < (8 : Int32) from nI_lt (b := 8) q5 (by decide)), p74]
            rfl
          · rw [if_neg q5, if_neg (show ¬ nI (pNx D) < (8 : Int32) from nI_nlt (b := 8) (by omega) (by omega)), p70]
            rfl
        · rw [if_neg (show ¬ nI c = 120 from ne_I (k := 120) hc (by decide) q4), if_neg q4]
          rfl
theorem v_clC {d L i : Nat} {t : Nat → Nat} {D : aPat} {M : lc_M} (hL : L ≤ 200) (ht : ∀ j, j < L → t j ≤ 255) (hi : i < L) (hv : vPat D) (hM : RC t L i M) (hD : patD D M) : ∃ M', lc_val (d + 3) 50 0 [.ref 1, .ref 3, .null, .null] [] lc_SH M = some (none, lc_SH, M') ∧ frD M' M ∧ resC t L (ceP t L D i) M' := by
  have hti := ht i hi
  obtain ⟨hx, h2, h3, h4⟩ := hM
  have hle := wdF_le D (t i)
  have pre : lc_val (d + 3) 50 0 [.ref 1, .ref 3, .null, .null] [] lc_SH M = lc_val (d + 3) 50 15 [.ref 1, .ref 3, .int (nI (t i)), .null] [.int (nI (wdF D (t i)))] lc_SH M := by
    rw [sg_50_0_0, h4, if_pos (nI_in (by omega) (by decide)), nI_clamp (by omega), hx.2 i hi, v_wdC hv hD hti, lc_bk1]
  rw [pre, sg_50_0_15]
  show ∃ M', _ ∧ frD M' M ∧ resC t L (thE t L (clP t L D i)) M'
  unfold clP
  by_cases h0 : wdF D (t i) = 0
  · rw [if_pos h0, if_pos (show nI (wdF D (t i)) = 0 by rw [h0]; rfl), sg_50_0_30, h4, nI_1]
    have u1 : ∀ j, lc_up M 1 4 (nI (i + 1)) 1 j = if j = 4 then nI (i + 1) else M 1 j := fun j => by rw [up_at, if_pos rfl]
    have uc : ∀ c, c ≠ 1 → lc_up M 1 4 (nI (i + 1)) c = M c := fun c hc => up_ne hc
    have frU : frD (lc_up M 1 4 (nI (i + 1))) M := ⟨fun c h1 _ => uc c h1, by rw [u1, if_neg (by decide)]⟩
    have hMU : RC t L (i + 1) (lc_up M 1 4 (nI (i + 1))) := ⟨⟨by rw [u1, if_neg (by decide)]; exact hx.1, fun j hj => by rw [uc 2 (by decide)]; exact hx.2 j hj⟩, by rw [u1, if_neg (by decide)]; exact h2, by rw [u1, if_neg (by decide)]; exact h3, by rw [u1, if_pos rfl]⟩
    have hDU : patD D (lc_up M 1 4 (nI (i + 1))) := patD_fr hD (fun c c1 c2 => uc c (by omega))
    rcases wdF_ok h0 with ⟨q, _⟩ | ⟨q, q1, q2⟩ | ⟨q, q1, q2⟩
    · obtain ⟨M', e1, e2, e3⟩ := v_exC (d := d) hL ht (show i + 1 ≤ L by omega) hMU hDU
      rw [if_pos q]
      refine ⟨M', ?_, frD_trans e2 frU, e3⟩
      rw [if_neg (fun z => z (show nI (t i) = 101 by rw [q]; rfl)), sg_50_0_46, e1, lc_bk0, sg_50_0_51, sg_50_0_73]
    · obtain ⟨M', e1, e2, e3⟩ := v_maC (d := d) hL ht (show i + 1 ≤ L by omega) hMU hDU q2
      rw [if_neg (show ¬ t i = 101 by omega), if_pos q]
      refine ⟨M', ?_, frD_trans e2 frU, e3⟩
      rw [if_pos (show ¬ nI (t i) = 101 from ne_I (k := 101) hti (by decide) (by omega)), sg_50_0_54, if_neg (fun z => z (show nI (t i) = 109 by rw [q]; rfl)), e1, lc_bk0, sg_50_0_65, sg_50_0_73]
    · obtain ⟨M', e1, e2, e3⟩ := v_crC (d := d) hL ht (show i + 1 ≤ L by omega) hMU hDU hv.2.2.1 q2
      rw [if_neg (show ¬ t i = 101 by omega), if_neg (show ¬ t i = 109 by omega)]
      refine ⟨M', ?_, frD_trans e2 frU, e3⟩
      rw [if_pos (show ¬ nI (t i) = 101 from ne_I (k := 101) hti (by decide) (by omega)), sg_50_0_54, if_pos (show ¬ nI (t i) = 109 from ne_I (k := 109) hti (by decide) (by omega)), e1, lc_bk0, sg_50_0_73]
  · rw [if_neg h0, if_neg (nI_ne0 (by omega) (by omega)), sg_50_0_20, h4, v_blame h2, lc_bk0, sg_50_0_29]
    refine ⟨_, rfl, ⟨fun c h1 _ => by rw [up_ne h1, up_ne h1], rfl⟩, rfl, rfl, i, by omega, ?_⟩
    rw [up_at, if_pos rfl, if_neg (by decide), up_at, if_pos rfl, if_neg (by decide)]
    exact h4
def finC (r : aErr ⊕ aPat) (M : lc_M) : Prop := match r with
  | .inl e => M 1 2 = nI e.1 ∧ M 1 3 = nI e.2
  | .inr D => M 1 2 = 0 ∧ M 1 3 = -1 ∧ patD D M
def frE (M' M : lc_M) : Prop := ∀ c, c ≠ 1 → (c < 3 ∨ 8 < c) → M' c = M c
theorem v_rdL {d L : Nat} {t : Nat → Nat} (hL : L ≤ 200) (ht : ∀ j, j < L → t j ≤ 255) : ∀ (f c i : Nat) (D : aPat) (M : lc_M), c + f = 200 → L ≤ i + f → i ≤ L → vPat D → RC t L (skN t L i) M → patD D M → ∃ M', lc_val (d + 4) 49 25 [.ref 1, .ref 3, .int (nI c)] [] lc_SH M = some (none, lc_SH, M') ∧ frE M' M ∧ M' 1 1 = 0 ∧ finC (paP t L f D i) M'
  | 0, c, i, D, M, h, hf, hi, hv, hM, hD => by
    obtain rfl : c = 200 := by omega
    refine ⟨lc_up M 1 1 0, ?_, fun c h1 _ => up_ne h1, rfl, ?_⟩
    · rw [sg_49_0_25, if_pos (by decide), sg_49_0_65]
    · exact ⟨hM.2.1, hM.2.2.1, hD⟩
  | f + 1, c, i, D, M, h, hf, hi, hv, hM, hD => by
    have hs := skN_in (t := t) hi
    obtain ⟨hx, h2, h3, h4⟩ := hM
    rw [sg_49_0_25, if_neg (show ¬ (200 : Int32) ≤ nI c from nI_ge (b := 200) (by omega) (by decide)), sg_49_0_32, if_neg (fun z => z h2), hx.1, h4, paP]
    by_cases q : skN t L i < L
    · obtain ⟨M1, f1, f2, f3⟩ := v_clC (d := d) hL ht q hv ⟨hx, h2, h3, h4⟩ hD
      have hok := ceP_ok (t := t) hv q
      have hx1 : txC t L M1 := ⟨f2.2.trans hx.1, fun j hj => by rw [f2.1 2 (by decide) (by decide)]; exact hx.2 j hj⟩
      rw [if_neg (nI_ge q (by omega)), f1, lc_bk0, sg_49_0_55, if_pos q]
      cases hce : ceP t L D (skN t L i) with
      | inl e =>
        rw [hce] at f3 hok
        obtain ⟨g1, g2, k, hk, g3⟩ := f3
        obtain ⟨M2, y1, y2, y3, _⟩ := v_skip (d := d + 3) hL ht hk hx1 g3
        have ne2 : ¬ M2 1 2 = 0 := by
          rw [y3 2 (by decide)]
          exact flC_ne ⟨g1, g2, k, hk, g3⟩ hok
        refine ⟨lc_up M2 1 1 0, ?_, fun c h1 h2 => by rw [up_ne h1, y2 c h1, f2.1 c h1 h2], rfl, ?_, ?_⟩
        · rw [y1, lc_bk0, sg_49_0_59, nI_1, sg_49_0_25]
          by_cases q2 : 200 ≤ c + 1
          · rw [if_pos (show (200 : Int32) ≤ nI (c + 1) from nI_le (a := 200) q2 (by omega)), sg_49_0_65]
          · rw [if_neg (show ¬ (200 : Int32) ≤ nI (c + 1) from nI_ge (b := 200) (by omega) (by decide)), sg_49_0_32, if_pos ne2, lc_it_val, sg_49_0_65]
        · show M2 1 2 = _
          rw [y3 2 (by decide)]; exact g1
        · show M2 1 3 = _
          rw [y3 3 (by decide)]; exact g2
      | inr r =>
        obtain ⟨D', k⟩ := r
        rw [hce] at f3 hok
        obtain ⟨o1, o2, o3⟩ := hok
        obtain ⟨⟨_, g2, g3, g4⟩, g5⟩ := f3
        obtain ⟨M2, y1, y2, y3, y4⟩ := v_skip (d := d + 3) hL ht o3 hx1 g4
        obtain ⟨M', e1, e2, e3, e4⟩ := v_rdL (d := d) hL ht f (c + 1) k D' M2 (by omega) (by omega) o3 o1 ⟨⟨by rw [y3 1 (by decide)]; exact hx1.1, fun j hj => by rw [y2 2 (by decide)]; exact hx1.2 j hj⟩, by rw [y3 2 (by decide)]; exact g2, by rw [y3 3 (by decide)]; exact g3, y4⟩ (patD_fr g5 (fun c c1 c2 => y2 c (by omega)))
        refine ⟨M', ?_, fun c h1 h2 => by rw [e2 c h1 h2, y2 c h1, f2.1 c h1 h2], e3, e4⟩
        rw [y1, lc_bk0, sg_49_0_59, nI_1]
        exact e1
    · refine ⟨lc_up M 1 1 0, ?_, fun c h1 _ => up_ne h1, rfl, ?_⟩
      · rw [if_pos (nI_le (by omega) (by omega)), lc_it_val, sg_49_0_65]
      · rw [if_neg q]; exact ⟨h2, h3, hD⟩
def D0 : aPat := (0, 0, 0, 0, fun _ => 0, fun _ => 0, fun _ => 0, fun _ => 0, fun _ => none)
theorem vPat_D0 : vPat D0 := ⟨Nat.zero_le _, Nat.zero_le _, Nat.zero_le _, Nat.zero_le _, fun _ => ⟨rfl, rfl⟩, fun m hm => absurd hm (Nat.not_lt_zero m), fun x hx => absurd hx (Nat.not_lt_zero x), fun x _ hx => absurd hx (Nat.not_lt_zero x)⟩
theorem v_readC {d L : Nat} {t : Nat → Nat} {M : lc_M} (hL : L ≤ 200) (ht : ∀ j, j < L → t j ≤ 255) (hx : txC t L M) : ∃ M', lc_val (d + 4) 49 0 [.ref 1, .ref 3, .null] [] lc_SH M = some (none, lc_SH, M') ∧ frE M' M ∧ M' 1 1 = 0 ∧ finC (paP t L 200 D0 0) M' := by
  have hpd : ∀ K : lc_M, K 3 = (lc_up (lc_up (lc_up (lc_up M 3 0 0) 3 1 0) 3 2 0) 3 3 0) 3 → patD D0 K := fun K hK => by
    unfold patD
    rw [hK]
    exact ⟨rfl, rfl, rfl, rfl, fun m hm => absurd hm (Nat.not_lt_zero m), fun x hx => absurd hx (Nat.not_lt_zero x)⟩
  have hc : ∀ c, c ≠ 1 → c ≠ 3 → lc_up (lc_up (lc_up (lc_up (lc_up (lc_up (lc_up M 3 0 0) 3 1 0) 3 2 0) 3 3 0) 1 2 0) 1 3 (-1)) 1 4 0 c = M c := fun c h1 h3 => by rw [up_ne h1, up_ne h1, up_ne h1, up_ne h3, up_ne h3, up_ne h3, up_ne h3]
  have hx1 : txC t L (lc_up (lc_up (lc_up (lc_up (lc_up (lc_up (lc_up M 3 0 0) 3 1 0) 3 2 0) 3 3 0) 1 2 0) 1 3 (-1)) 1 4 0) := ⟨hx.1, fun j hj => by rw [hc 2 (by decide) (by decide)]; exact hx.2 j hj⟩
  obtain ⟨M1, f1, f2, f3, f4⟩ := v_skip (d := d + 3) (i := 0) hL ht (Nat.zero_le _) hx1 rfl
  obtain ⟨M', e1, e2, e3, e4⟩ := v_rdL (d := d) hL ht 200 0 0 D0 M1 (by omega) (by omega) (by omega) vPat_D0 ⟨⟨by rw [f3 1 (by decide)]; exact hx1.1, fun j hj => by rw [f2 2 (by decide)]; exact hx1.2 j hj⟩, by rw [f3 2 (by decide)]; rfl, by rw [f3 3 (by decide)]; rfl, f4⟩ (hpd M1 (by rw [f2 3 (by decide), up_ne (by decide), up_ne (by decide), up_ne (by decide)]))
  refine ⟨M', ?_, fun c h1 h2 => by rw [e2 c h1 h2, f2 c h1, hc c h1 (by omega)], e3, e4⟩
  rw [sg_49_0_0, sg_29_0_0, lc_bk0, sg_49_0_4, f1, lc_bk0, sg_49_0_23]
  exact e1
