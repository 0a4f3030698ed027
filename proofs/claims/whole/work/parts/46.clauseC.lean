/-! clauses, read by the class -/
def patD (D : aPat) (M : lc_M) : Prop := cPat D (M 3) (M 4) (M 5) (M 6) (M 7) (M 8)
theorem patD_fr {D : aPat} {M M' : lc_M} (h : patD D M) (e : ∀ c, 3 ≤ c → c ≤ 8 → M' c = M c) : patD D M' := by
  unfold patD at h ⊢
  rw [e 3 (by decide) (by decide), e 4 (by decide) (by decide), e 5 (by decide) (by decide), e 6 (by decide) (by decide), e 7 (by decide) (by decide), e 8 (by decide) (by decide)]
  exact h
def frD (M' M : lc_M) : Prop := (∀ c, c ≠ 1 → (c < 3 ∨ 8 < c) → M' c = M c) ∧ M' 1 1 = M 1 1
theorem frD_R {M' M : lc_M} (h : frR M' M) : frD M' M := ⟨fun c h1 _ => h.1 c h1, h.2⟩
theorem frD_trans {M1 M2 M3 : lc_M} (h : frD M1 M2) (g : frD M2 M3) : frD M1 M3 := ⟨fun c h1 h2 => (h.1 c h1 h2).trans (g.1 c h1 h2), h.2.trans g.2⟩
def thE (t : Nat → Nat) (L : Nat) (r : aErr ⊕ (aPat × Nat)) : aErr ⊕ (aPat × Nat) := match r with
  | .inl e => .inl e
  | .inr (D', j) => match enP t L j with
    | .inl e => .inl e
    | .inr k => .inr (D', k)
def resC (t : Nat → Nat) (L : Nat) (r : aErr ⊕ (aPat × Nat)) (M : lc_M) : Prop := match r with
  | .inl e => flC L e M
  | .inr (D, k) => RC t L k M ∧ patD D M
theorem hi_I {n : Nat} (h : n < 1000) : (nI n - 1).toInt = (n : Int) - 1 := pk_sub_toInt (b := 1) (by omega) (by decide)
theorem enP_err {t : Nat → Nat} {L i : Nat} {e : aErr} (hi : i ≤ L) (h : enP t L i = .inl e) : okE L e := by
  have hs := skN_in (t := t) hi
  unfold enP at h
  by_cases q : skN t L i < L ∧ t (skN t L i) = 59
  · rw [if_pos q] at h; cases h
  · rw [if_neg q] at h
    injection h with h
    subst h
    exact okE_of (by decide) (by decide) hs.2
theorem v_exC {d L i : Nat} {t : Nat → Nat} {D : aPat} {M : lc_M} (hL : L ≤ 200) (ht : ∀ j, j < L → t j ≤ 255) (hi : i ≤ L) (hM : RC t L i M) (hD : patD D M) : ∃ M', lc_val (d + 2) 52 0 [.ref 1, .ref 3, .null, .null] [] lc_SH M = some (none, lc_SH, M') ∧ frD M' M ∧ resC t L (thE t L (exP t L D i)) M' := by
  have bad : ∀ (M1 : lc_M) (x2 x3 : Int32), ¬ M1 1 2 = 0 → lc_val (d + 2) 52 19 [.ref 1, .ref 3, .int x2, .int x3] [] lc_SH M1 = some (none, lc_SH, M1) := fun M1 x2 x3 h => by rw [sg_52_0_19, if_pos h]
  have bad14 : ∀ (M1 : lc_M) (x2 s0 : Int32), ¬ M1 1 2 = 0 → lc_val (d + 2) 52 14 [.ref 1, .ref 3, .int x2, .null] [.int s0] lc_SH M1 = some (none, lc_SH, M1) := fun M1 x2 s0 h => by rw [sg_52_0_14, v_rEnd0 h, lc_bk0, bad M1 _ _ h]
  have bad6 : ∀ (M1 : lc_M) (s0 : Int32), ¬ M1 1 2 = 0 → lc_val (d + 2) 52 6 [.ref 1, .ref 3, .null, .null] [.int s0] lc_SH M1 = some (none, lc_SH, M1) := fun M1 s0 h => by rw [sg_52_0_6, v_num0 h, lc_bk1, bad14 M1 _ _ h]
  obtain ⟨M1, w1, f1, f2, f3⟩ := v_numC (d := d) (lo := 1) (H := 4) (x2 := 3) hL ht hi (by decide) (by decide) (by decide) hM
  rw [sg_52_0_0, show (.int 1 : Value) = .int (nI 1) from rfl, f1, lc_bk1]
  unfold exP
  cases h1 : readN t L 1 4 i with
  | inl e =>
    rw [h1] at f3
    have he := readN_err hi h1
    exact ⟨M1, bad6 M1 _ (flC_ne f3 he), frD_R f2, f3⟩
  | inr r =>
    obtain ⟨l, j, s⟩ := r
    rw [h1] at f3
    obtain ⟨rfl, f4, _⟩ := f3
    have g1 := readN_ok hi h1
    obtain ⟨M2, w2, k1, k2, k3⟩ := v_numC (d := d) (lo := 0) (H := 100) (x2 := 99) hL ht (show j ≤ L by omega) (by decide) (by decide) (by decide) f4
    rw [sg_52_0_6, show (.int 0 : Value) = .int (nI 0) from rfl, k1, lc_bk1]
    show ∃ M', _ ∧ frD M' M ∧ resC t L (thE t L (match readN t L 0 100 j with
      | .inl e => .inl e
      | .inr (c, j2, _) => .inr (setE D l c, j2))) M'
    cases h2 : readN t L 0 100 j with
    | inl e =>
      rw [h2] at k3
      have he := readN_err (by omega) h2
      exact ⟨M2, bad14 M2 _ _ (flC_ne k3 he), frD_R (frR_trans k2 f2), k3⟩
    | inr r =>
      obtain ⟨c, j2, s2⟩ := r
      rw [h2] at k3
      obtain ⟨rfl, k4, _⟩ := k3
      have g2 := readN_ok (by omega) h2
      obtain ⟨M3, p1, p2, p3⟩ := v_rEnd (d := d) hL ht (show j2 ≤ L by omega) k4
      have fr3 := frR_trans p2 (frR_trans k2 f2)
      rw [sg_52_0_14, p1, lc_bk0]
      show ∃ M', _ ∧ frD M' M ∧ resC t L (match enP t L j2 with
        | .inl e => .inl e
        | .inr k => .inr (setE D l c, k)) M'
      cases h3 : enP t L j2 with
      | inl e =>
        rw [h3] at p3
        exact ⟨M3, bad M3 _ _ (flC_ne p3 (enP_err (by omega) h3)), frD_R fr3, p3⟩
      | inr k =>
        rw [h3] at p3
        have hD3 : patD D M3 := patD_fr hD (fun c c1 c2 => fr3.1 c (by omega))
        refine ⟨lc_up (lc_up M3 3 0 (nI l)) 3 1 (nI c), ?_, ⟨fun c h1 h2 => by rw [up_ne (by omega), up_ne (by omega), fr3.1 c h1], fr3.2⟩, ?_, ?_⟩
        · rw [sg_52_0_19, if_neg (fun z => z p3.2.1)]
        · exact p3
        · obtain ⟨q1, q2, q3, q4, q5⟩ := hD3
          exact ⟨rfl, rfl, q3, q4, q5⟩
theorem v_maC {d L i : Nat} {t : Nat → Nat} {D : aPat} {M : lc_M} (hL : L ≤ 200) (ht : ∀ j, j < L → t j ≤ 255) (hi : i ≤ L) (hM : RC t L i M) (hD : patD D M) (hn : pNm D < 6) : ∃ M', lc_val (d + 2) 53 0 [.ref 1, .ref 3, .null] [] lc_SH M = some (none, lc_SH, M') ∧ frD M' M ∧ resC t L (thE t L (maP t L D i)) M' := by
  have bad : ∀ (M1 : lc_M) (x2 : Int32), ¬ M1 1 2 = 0 → lc_val (d + 2) 53 11 [.ref 1, .ref 3, .int x2] [] lc_SH M1 = some (none, lc_SH, M1) := fun M1 x2 h => by rw [sg_53_0_11, if_pos h]
  have bad6 : ∀ (M1 : lc_M) (s0 : Int32), ¬ M1 1 2 = 0 → lc_val (d + 2) 53 6 [.ref 1, .ref 3, .null] [.int s0] lc_SH M1 = some (none, lc_SH, M1) := fun M1 s0 h => by rw [sg_53_0_6, v_rEnd0 h, lc_bk0, bad M1 _ h]
  obtain ⟨M1, w1, f1, f2, f3⟩ := v_numC (d := d) (lo := 0) (H := 3) (x2 := 2) hL ht hi (by decide) (by decide) (by decide) hM
  rw [sg_53_0_0, show (.int 0 : Value) = .int (nI 0) from rfl, f1, lc_bk1]
  unfold maP
  cases h1 : readN t L 0 3 i with
  | inl e =>
    rw [h1] at f3
    have he := readN_err hi h1
    exact ⟨M1, bad6 M1 _ (flC_ne f3 he), frD_R f2, f3⟩
  | inr r =>
    obtain ⟨v, j, s⟩ := r
    rw [h1] at f3
    obtain ⟨rfl, f4, _⟩ := f3
    have g1 := readN_ok hi h1
    obtain ⟨M3, p1, p2, p3⟩ := v_rEnd (d := d) hL ht (show j ≤ L by omega) f4
    have fr3 := frR_trans p2 f2
    rw [sg_53_0_6, p1, lc_bk0]
    show ∃ M', _ ∧ frD M' M ∧ resC t L (match enP t L j with
      | .inl e => .inl e
      | .inr k => .inr (addM D v, k)) M'
    cases h3 : enP t L j with
    | inl e =>
      rw [h3] at p3
      exact ⟨M3, bad M3 _ (flC_ne p3 (enP_err (by omega) h3)), frD_R fr3, p3⟩
    | inr k =>
      rw [h3] at p3
      have hD3 : patD D M3 := patD_fr hD (fun c c1 c2 => fr3.1 c (by omega))
      obtain ⟨q1, q2, q3, q4, q5, q6⟩ := hD3
      refine ⟨lc_up (lc_up M3 4 (pNm D) (nI v)) 3 2 (nI (pNm D + 1)), ?_, ⟨fun c h1 h2 => by rw [up_ne (by omega), up_ne (by omega), fr3.1 c h1], fr3.2⟩, p3, ?_⟩
      · rw [sg_53_0_11, if_neg (fun z => z p3.2.1), lc_it_val, sg_53_0_18, q3, if_pos (nI_in (by omega) (by decide)), nI_clamp (by omega), nI_1]
      · refine ⟨q1, q2, rfl, q4, fun m hm => ?_, q6⟩
        show lc_up (lc_up M3 4 (pNm D) (nI v)) 3 2 (nI (pNm D + 1)) 4 m = nI (if m = pNm D then v else pEar D m)
        have hm' : m < pNm D + 1 := hm
        rw [up_ne (by decide), up_at, if_pos rfl]
        by_cases e : m = pNm D
        · rw [if_pos e, if_pos e]
        · rw [if_neg e, if_neg e]; exact q5 m (by omega)
theorem v_crC {d L i : Nat} {t : Nat → Nat} {D : aPat} {M : lc_M} (hL : L ≤ 200) (ht : ∀ j, j < L → t j ≤ 255) (hi : i ≤ L) (hM : RC t L i M) (hD : patD D M) (hm : pNm D ≤ 6) (hn : pNx D < 8) : ∃ M', lc_val (d + 2) 54 0 [.ref 1, .ref 3, .null, .null, .null, .null, .null] [] lc_SH M = some (none, lc_SH, M') ∧ frD M' M ∧ resC t L (thE t L (crP t L D i)) M' := by
  have b85 : ∀ (M1 : lc_M) (x2 x3 x4 x5 : Int32), ¬ M1 1 2 = 0 → lc_val (d + 2) 54 85 [.ref 1, .ref 3, .int x2, .int x3, .int x4, .int x5, .null] [] lc_SH M1 = some (none, lc_SH, M1) := fun M1 x2 x3 x4 x5 h => by rw [sg_54_0_85, if_pos h]
  have b81 : ∀ (M1 : lc_M) (x2 x3 x4 x5 : Int32), ¬ M1 1 2 = 0 → lc_val (d + 2) 54 81 [.ref 1, .ref 3, .int x2, .int x3, .int x4, .int x5, .null] [] lc_SH M1 = some (none, lc_SH, M1) := fun M1 x2 x3 x4 x5 h => by rw [sg_54_0_81, v_rEnd0 h, lc_bk0, b85 M1 _ _ _ _ h]
  have b54 : ∀ (M1 : lc_M) (x2 x3 x4 s0 : Int32), ¬ M1 1 2 = 0 → lc_val (d + 2) 54 54 [.ref 1, .ref 3, .int x2, .int x3, .int x4, .null, .null] [.int s0] lc_SH M1 = some (none, lc_SH, M1) := fun M1 x2 x3 x4 s0 h => by
    rw [sg_54_0_54]
    by_cases q : s0 < M1 3 3
    · rw [if_pos q, b81 M1 _ _ _ _ h]
    · rw [if_neg q, sg_54_0_65]
      by_cases q2 : s0 = 9
      · rw [if_pos q2, lc_it_val, b81 M1 _ _ _ _ h]
      · rw [if_neg q2, v_blame0 h, lc_bk0, b81 M1 _ _ _ _ h]
  have b45 : ∀ (M1 : lc_M) (x2 x3 s0 : Int32), ¬ M1 1 2 = 0 → lc_val (d + 2) 54 45 [.ref 1, .ref 3, .int x2, .int x3, .null, .null, .null] [.int s0] lc_SH M1 = some (none, lc_SH, M1) := fun M1 x2 x3 s0 h => by rw [sg_54_0_45, v_num0 h, lc_bk1, b54 M1 _ _ _ _ h]
  have b38 : ∀ (M1 : lc_M) (x2 x3 : Int32), ¬ M1 1 2 = 0 → lc_val (d + 2) 54 38 [.ref 1, .ref 3, .int x2, .int x3, .null, .null, .null] [] lc_SH M1 = some (none, lc_SH, M1) := fun M1 x2 x3 h => by rw [sg_54_0_38, v_num0 h, lc_bk1, b45 M1 _ _ _ h]
  have b23 : ∀ (M1 : lc_M) (x2 s0 : Int32), ¬ M1 1 2 = 0 → lc_val (d + 2) 54 23 [.ref 1, .ref 3, .int x2, .null, .null, .null, .null] [.int s0] lc_SH M1 = some (none, lc_SH, M1) := fun M1 x2 s0 h => by
    rw [sg_54_0_23]
    by_cases q : x2 = s0
    · rw [if_neg (fun z => z q), v_blame0 h, lc_bk0, b38 M1 _ _ h]
    · rw [if_pos q, lc_it_val, b38 M1 _ _ h]
  have b11 : ∀ (M1 : lc_M) (s0 : Int32), ¬ M1 1 2 = 0 → lc_val (d + 2) 54 11 [.ref 1, .ref 3, .null, .null, .null, .null, .null] [.int s0] lc_SH M1 = some (none, lc_SH, M1) := fun M1 s0 h => by rw [sg_54_0_11, v_num0 h, lc_bk1, b23 M1 _ _ h]
  have h32 : M 3 2 = nI (pNm D) := hD.2.2.1
  have h33 : M 3 3 = nI (pNx D) := hD.2.2.2.1
  obtain ⟨M1, w1, f1, f2, f3⟩ := v_numC (d := d) (lo := 0) (H := pNm D) (x2 := nI (pNm D) - 1) hL ht hi (by decide) (by omega) (hi_I (by omega)) hM
  rw [sg_54_0_0, h32, show (.int 0 : Value) = .int (nI 0) from rfl, f1, lc_bk1]
  unfold crP
  cases h1 : readN t L 0 (pNm D) i with
  | inl e =>
    rw [h1] at f3
    exact ⟨M1, b11 M1 _ (flC_ne f3 (readN_err hi h1)), frD_R f2, f3⟩
  | inr r =>
    obtain ⟨a, j, s⟩ := r
    rw [h1] at f3
    obtain ⟨rfl, f4, _⟩ := f3
    have g1 := readN_ok hi h1
    obtain ⟨M2, w2, k1, k2, k3⟩ := v_numC (d := d) (lo := 0) (H := pNm D) (x2 := nI (pNm D) - 1) hL ht (show j ≤ L by omega) (by decide) (by omega) (hi_I (by omega)) f4
    rw [sg_54_0_11, f2.1 3 (by decide), h32, show (.int 0 : Value) = .int (nI 0) from rfl, k1, lc_bk1]
    show ∃ M', _ ∧ frD M' M ∧ resC t L (thE t L (match readN t L 0 (pNm D) j with
      | .inl e => .inl e
      | .inr (b, j2, s) => if a = b then .inl (4, s) else crP2 t L D a b j2)) M'
    have fr2 := frR_trans k2 f2
    cases h2 : readN t L 0 (pNm D) j with
    | inl e =>
      rw [h2] at k3
      exact ⟨M2, b23 M2 _ _ (flC_ne k3 (readN_err (by omega) h2)), frD_R fr2, k3⟩
    | inr r =>
      obtain ⟨b, j2, s2⟩ := r
      rw [h2] at k3
      obtain ⟨rfl, k4, k5⟩ := k3
      have g2 := readN_ok (by omega) h2
      show ∃ M', _ ∧ frD M' M ∧ resC t L (thE t L (if a = b then .inl (4, s2) else crP2 t L D a b j2)) M'
      rw [sg_54_0_23]
      by_cases q : a = b
      · rw [if_pos q, if_neg (fun z => z (by rw [q])), k5, v_blame k4.2.1, lc_bk0]
        refine ⟨lc_up (lc_up M2 1 2 4) 1 3 (nI s2), ?_, ⟨fun c h1 h2 => by rw [up_ne h1, up_ne h1, fr2.1 c h1], fr2.2⟩, rfl, rfl, j2, by omega, ?_⟩
        · exact b38 _ _ _ (by show ¬ (4 : Int32) = 0; decide)
        · rw [up_at, if_pos rfl, if_neg (by decide), up_at, if_pos rfl, if_neg (by decide)]; exact k4.2.2.2
      · have qI : ¬ nI a = nI b := fun z => q ((nI_eq (by omega) (by omega)).mp z)
        rw [if_neg q, if_pos qI, lc_it_val]
        unfold crP2
        obtain ⟨M3, w3, p1, p2, p3⟩ := v_numC (d := d) (lo := 1) (H := 21) (x2 := 20) hL ht (show j2 ≤ L by omega) (by decide) (by decide) (by decide) k4
        have fr3 := frR_trans p2 fr2
        rw [sg_54_0_38, show (.int 1 : Value) = .int (nI 1) from rfl, p1, lc_bk1]
        cases h3 : readN t L 1 21 j2 with
        | inl e =>
          rw [h3] at p3
          exact ⟨M3, b45 M3 _ _ _ (flC_ne p3 (readN_err (by omega) h3)), frD_R fr3, p3⟩
        | inr r =>
          obtain ⟨m, j3, s3⟩ := r
          rw [h3] at p3
          obtain ⟨rfl, p4, _⟩ := p3
          have g3 := readN_ok (by omega) h3
          obtain ⟨M4, w4, y1, y2, y3⟩ := v_numC (d := d) (lo := 0) (H := 10) (x2 := 9) hL ht (show j3 ≤ L by omega) (by decide) (by decide) (by decide) p4
          have fr4 := frR_trans y2 fr3
          show ∃ M', _ ∧ frD M' M ∧ resC t L (thE t L (match readP t L (pNx D) j3 with
            | .inl e => .inl e
            | .inr (q, j2, _) => .inr (addX D a b m (if q = 9 then none else some q), j2))) M'
          rw [sg_54_0_45, show (.int 0 : Value) = .int (nI 0) from rfl, y1, lc_bk1, readP_N (by omega)]
          cases h4 : readN t L 0 10 j3 with
          | inl e =>
            rw [h4] at y3
            exact ⟨M4, b54 M4 _ _ _ _ (flC_ne y3 (readN_err (by omega) h4)), frD_R fr4, y3⟩
          | inr r =>
            obtain ⟨z, j4, s4⟩ := r
            rw [h4] at y3
            obtain ⟨rfl, y4, y5⟩ := y3
            have g4 := readN_ok (by omega) h4
            have h334 : M4 3 3 = nI (pNx D) := by rw [fr4.1 3 (by decide)]; exact h33
            show ∃ M', _ ∧ frD M' M ∧ resC t L (thE t L (match (if z < pNx D ∨ z = 9 then (.inr (z, j4, s4) : aErr ⊕ (Nat × Nat × Nat)) else .inl (2, s4)) with
              | .inl e => .inl e
              | .inr (q, j2, _) => .inr (addX D a b m (if q = 9 then none else some q), j2))) M'
            have go : (z < pNx D ∨ z = 9) → lc_val (d + 2) 54 54 [.ref 1, .ref 3, .int (nI a), .int (nI b), .int (nI m), .null, .null] [.int (nI z)] lc_SH M4 = lc_val (d + 2) 54 81 [.ref 1, .ref 3, .int (nI a), .int (nI b), .int (nI m), .int (nI z), .null] [] lc_SH M4 := fun hz => by
              rw [sg_54_0_54, h334]
              by_cases u : z < pNx D
              · rw [if_pos (nI_lt u (by omega))]
              · rw [if_neg (nI_nlt (by omega) (by omega)), sg_54_0_65, if_pos (show nI z = 9 by rw [show z = 9 by omega]; rfl), lc_it_val]
            by_cases hz : z < pNx D ∨ z = 9
            · rw [if_pos hz, go hz]
              obtain ⟨M5, e1, e2, e3⟩ := v_rEnd (d := d) hL ht (show j4 ≤ L by omega) y4
              have fr5 := frR_trans e2 fr4
              rw [sg_54_0_81, e1, lc_bk0]
              show ∃ M', _ ∧ frD M' M ∧ resC t L (match enP t L j4 with
                | .inl e => .inl e
                | .inr k => .inr (addX D a b m (if z = 9 then none else some z), k)) M'
              cases h5 : enP t L j4 with
              | inl e =>
                rw [h5] at e3
                exact ⟨M5, b85 M5 _ _ _ _ (flC_ne e3 (enP_err (by omega) h5)), frD_R fr5, e3⟩
              | inr k =>
                rw [h5] at e3
                have hD5 : patD D M5 := patD_fr hD (fun c c1 c2 => fr5.1 c (by omega))
                obtain ⟨q1, q2, q3, q4, q5, q6⟩ := hD5
                have h335 : M5 3 3 = nI (pNx D) := q4
                refine ⟨lc_up (lc_up (lc_up (lc_up (lc_up M5 5 (pNx D) (nI a)) 6 (pNx D) (nI b)) 7 (pNx D) (nI m)) 8 (pNx D) (beI (if z = 9 then none else some z))) 3 3 (nI (pNx D + 1)), ?_, ⟨fun c h1 h2 => by rw [up_ne (by omega), up_ne (by omega), up_ne (by omega), up_ne (by omega), up_ne (by omega), fr5.1 c h1], fr5.2⟩, ⟨⟨e3.1.1, e3.1.2⟩, e3.2⟩, ?_⟩
                · rw [sg_54_0_85, if_neg (fun z => z e3.2.1), lc_it_val, sg_54_0_92, h335, if_pos (nI_in (by omega) (by decide)), nI_clamp (by omega), sg_54_0_106, if_pos (nI_in (by omega) (by decide)), nI_clamp (by omega), sg_54_0_114, if_pos (nI_in (by omega) (by decide)), nI_clamp (by omega)]
                  have h33u : lc_up (lc_up (lc_up M5 5 (pNx D) (nI a)) 6 (pNx D) (nI b)) 7 (pNx D) (nI m) 3 3 = nI (pNx D) := by rw [up_ne (by decide), up_ne (by decide), up_ne (by decide)]; exact h335
                  by_cases e9 : z = 9
                  · rw [if_neg (fun y => y (by rw [e9]; rfl)), sg_54_0_136, if_pos (nI_in (by omega) (by decide)), nI_clamp (by omega), h33u, nI_1, if_pos e9]
                    rfl
                  · rw [if_pos (show ¬ nI z = 9 from fun y => e9 ((nI_eq (b := 9) (by omega) (by decide)).mp y)), sg_54_0_140, if_pos (nI_in (by omega) (by decide)), nI_clamp (by omega), h33u, nI_1, if_neg e9]
                    rfl
                · refine ⟨?_, ?_, ?_, rfl, fun mm hmm => ?_, fun x hx => ?_⟩
                  · exact q1
                  · exact q2
                  · exact q3
                  · rw [up_ne (by decide), up_ne (by decide), up_ne (by decide), up_ne (by decide), up_ne (by decide)]; exact q5 mm hmm
                  · have hx' : x < pNx D + 1 := hx
                    have c5 : lc_up (lc_up (lc_up (lc_up (lc_up M5 5 (pNx D) (nI a)) 6 (pNx D) (nI b)) 7 (pNx D) (nI m)) 8 (pNx D) (beI (if z = 9 then none else some z))) 3 3 (nI (pNx D + 1)) 5 x = if x = pNx D then nI a else M5 5 x := by rw [up_ne (by decide), up_ne (by decide), up_ne (by decide), up_ne (by decide), up_at, if_pos rfl]
                    have c6 : lc_up (lc_up (lc_up (lc_up (lc_up M5 5 (pNx D) (nI a)) 6 (pNx D) (nI b)) 7 (pNx D) (nI m)) 8 (pNx D) (beI (if z = 9 then none else some z))) 3 3 (nI (pNx D + 1)) 6 x = if x = pNx D then nI b else M5 6 x := by rw [up_ne (by decide), up_ne (by decide), up_ne (by decide), up_at, if_pos rfl, up_ne (by decide)]
                    have c7 : lc_up (lc_up (lc_up (lc_up (lc_up M5 5 (pNx D) (nI a)) 6 (pNx D) (nI b)) 7 (pNx D) (nI m)) 8 (pNx D) (beI (if z = 9 then none else some z))) 3 3 (nI (pNx D + 1)) 7 x = if x = pNx D then nI m else M5 7 x := by rw [up_ne (by decide), up_ne (by decide), up_at, if_pos rfl, up_ne (by decide), up_ne (by decide)]
                    have c8 : lc_up (lc_up (lc_up (lc_up (lc_up M5 5 (pNx D) (nI a)) 6 (pNx D) (nI b)) 7 (pNx D) (nI m)) 8 (pNx D) (beI (if z = 9 then none else some z))) 3 3 (nI (pNx D + 1)) 8 x = if x = pNx D then beI (if z = 9 then none else some z) else M5 8 x := by rw [up_ne (by decide), up_at, if_pos rfl, up_ne (by decide), up_ne (by decide), up_ne (by decide)]
                    rw [c5, c6, c7, c8]
                    show _ = nI (if x = pNx D then a else pA D x) ∧ _ = nI (if x = pNx D then b else pB D x) ∧ _ = nI (if x = pNx D then m else pMi D x) ∧ _ = beI (if x = pNx D then (if z = 9 then none else some z) else pBe D x)
                    by_cases e : x = pNx D
                    · rw [if_pos e, if_pos e, if_pos e, if_pos e, if_pos e, if_pos e, if_pos e, if_pos e]; exact ⟨rfl, rfl, rfl, rfl⟩
                    · rw [if_neg e, if_neg e, if_neg e, if_neg e, if_neg e, if_neg e, if_neg e, if_neg e]; exact q6 x (by omega)
            · rw [if_neg hz]
              refine ⟨lc_up (lc_up M4 1 2 2) 1 3 (nI s4), ?_, ⟨fun c h1 h2 => by rw [up_ne h1, up_ne h1, fr4.1 c h1], fr4.2⟩, rfl, rfl, j4, by omega, ?_⟩
              · rw [sg_54_0_54, h334, if_neg (nI_nlt (by omega) (by omega)), sg_54_0_65, if_neg (show ¬ nI z = 9 from fun y => hz (Or.inr ((nI_eq (b := 9) (by omega) (by decide)).mp y))), y5, v_blame y4.2.1, lc_bk0]
                exact b81 _ _ _ _ _ (by show ¬ (2 : Int32) = 0; decide)
              · rw [up_at, if_pos rfl, if_neg (by decide), up_at, if_pos rfl, if_neg (by decide)]; exact y4.2.2.2
