/-! the calls that need no more than the state's own fields -/
theorem lt0_iff (a : Int32) : a < 0 ↔ a.toInt < 0 := by rw [Int32.lt_iff_toInt_lt, Int32.toInt_zero]
theorem ge0_iff (a : Int32) : 0 ≤ a ↔ 0 ≤ a.toInt := by rw [Int32.le_iff_toInt_le, Int32.toInt_zero]
theorem nle_iff {n : Nat} {a : Int32} (hn : n < 2 ^ 31) : nI n ≤ a ↔ (n : Int) ≤ a.toInt := by rw [Int32.le_iff_toInt_le, nI_toInt hn]
theorem vin_not {a : Int32} {n : Nat} (hn : n < 2 ^ 31) (h : ¬ vp_in a n) : a < 0 ∨ nI n ≤ a := by
  rw [vp_in_iff] at h
  rw [lt0_iff, nle_iff hn]
  omega
theorem vin_yes {a : Int32} {n : Nat} (hn : n < 2 ^ 31) (h : vp_in a n) : ¬ a < 0 ∧ ¬ nI n ≤ a := by
  rw [vp_in_iff] at h
  rw [lt0_iff, nle_iff hn]
  omega
theorem v_hasMaker1 {d n : Nat} {a : Int32} {M : lc_M} (hm : M 9 2 = nI n) (hn : n < 2 ^ 31) (h : vp_in a n) : lc_val d 32 0 [.ref 9, .int a] [] lc_SH M = some (some (.int 1), lc_SH, M) := by
  obtain ⟨h1, h2⟩ := vin_yes hn h
  rw [sg_32_0_0, if_neg h1, lc_it_val, sg_32_0_4, hm, if_neg h2]
theorem v_hasMaker0 {d n : Nat} {a : Int32} {M : lc_M} (hm : M 9 2 = nI n) (hn : n < 2 ^ 31) (h : ¬ vp_in a n) : lc_val d 32 0 [.ref 9, .int a] [] lc_SH M = some (some (.int 0), lc_SH, M) := by
  rw [sg_32_0_0]
  by_cases h1 : a < 0
  · rw [if_pos h1]
  · rw [if_neg h1, lc_it_val, sg_32_0_4, hm, if_pos ((vin_not hn h).resolve_left h1)]
theorem v_hasCrossing1 {d n : Nat} {a : Int32} {M : lc_M} (hm : M 9 3 = nI n) (hn : n < 2 ^ 31) (h : vp_in a n) : lc_val d 33 0 [.ref 9, .int a] [] lc_SH M = some (some (.int 1), lc_SH, M) := by
  obtain ⟨h1, h2⟩ := vin_yes hn h
  rw [sg_33_0_0, if_neg h1, lc_it_val, sg_33_0_4, hm, if_neg h2]
theorem v_hasCrossing0 {d n : Nat} {a : Int32} {M : lc_M} (hm : M 9 3 = nI n) (hn : n < 2 ^ 31) (h : ¬ vp_in a n) : lc_val d 33 0 [.ref 9, .int a] [] lc_SH M = some (some (.int 0), lc_SH, M) := by
  rw [sg_33_0_0]
  by_cases h1 : a < 0
  · rw [if_pos h1]
  · rw [if_neg h1, lc_it_val, sg_33_0_4, hm, if_pos ((vin_not hn h).resolve_left h1)]
/-- the reference's 'in', of ints -/
theorem v_in1 {d : Nat} {a : Int32} {lo hi : Int64} {M : lc_M} (h1 : lo.toInt ≤ a.toInt) (h2 : a.toInt ≤ hi.toInt) : lc_val d 116 0 [.long (Int32.toInt64 a), .null, .long lo, .null, .long hi, .null] [] lc_SH M = some (some (.int 1), lc_SH, M) := by
  have e : (Int32.toInt64 a).toInt = a.toInt := Int32.toInt_toInt64 a
  rw [sg_116_0_0, if_neg (by rw [lg_cmp_lt, Int64.lt_iff_toInt_lt, e]; omega), lc_it_val, sg_116_0_6, if_neg (by rw [lg_cmp_gt, Int64.lt_iff_toInt_lt, e]; omega)]
theorem v_in0 {d : Nat} {a : Int32} {lo hi : Int64} {M : lc_M} (h : a.toInt < lo.toInt ∨ hi.toInt < a.toInt) : lc_val d 116 0 [.long (Int32.toInt64 a), .null, .long lo, .null, .long hi, .null] [] lc_SH M = some (some (.int 0), lc_SH, M) := by
  have e : (Int32.toInt64 a).toInt = a.toInt := Int32.toInt_toInt64 a
  rw [sg_116_0_0]
  by_cases h1 : a.toInt < lo.toInt
  · rw [if_pos (by rw [lg_cmp_lt, Int64.lt_iff_toInt_lt, e]; exact h1)]
  · rw [if_neg (by rw [lg_cmp_lt, Int64.lt_iff_toInt_lt, e]; exact h1), lc_it_val, sg_116_0_6, if_pos (by rw [lg_cmp_gt, Int64.lt_iff_toInt_lt, e]; omega)]
theorem pred_toInt {n : Nat} (hn : n < 2 ^ 30) : (Int32.toInt64 (nI n - 1)).toInt = (n : Int) - 1 := by
  rw [Int32.toInt_toInt64]
  exact pk_sub_toInt (b := 1) hn (by decide)
theorem L0 : (0 : Int64).toInt = 0 := by decide
theorem v_isMaker1 {d n : Nat} {a : Int32} {M : lc_M} (hm : M 43 4 = nI n) (hn : n < 2 ^ 30) (h : vp_in a n) : lc_val (d + 1) 132 0 [.ref 43, .int a] [] lc_SH M = some (some (.int 1), lc_SH, M) := by
  rw [vp_in_iff] at h
  rw [sg_132_0_0, hm, v_in1 (by rw [L0]; omega) (by rw [pred_toInt hn]; omega), lc_bk1, sg_132_0_13]
  rfl
theorem v_isMaker0 {d n : Nat} {a : Int32} {M : lc_M} (hm : M 43 4 = nI n) (hn : n < 2 ^ 30) (h : ¬ vp_in a n) : lc_val (d + 1) 132 0 [.ref 43, .int a] [] lc_SH M = some (some (.int 0), lc_SH, M) := by
  rw [vp_in_iff] at h
  rw [sg_132_0_0, hm, v_in0 (by rw [L0, pred_toInt hn]; omega), lc_bk1, sg_132_0_13]
  rfl
theorem v_isCrossing1 {d n : Nat} {a : Int32} {M : lc_M} (hm : M 43 5 = nI n) (hn : n < 2 ^ 30) (h : vp_in a n) : lc_val (d + 1) 133 0 [.ref 43, .int a] [] lc_SH M = some (some (.int 1), lc_SH, M) := by
  rw [vp_in_iff] at h
  rw [sg_133_0_0, hm, v_in1 (by rw [L0]; omega) (by rw [pred_toInt hn]; omega), lc_bk1, sg_133_0_13]
  rfl
theorem v_isCrossing0 {d n : Nat} {a : Int32} {M : lc_M} (hm : M 43 5 = nI n) (hn : n < 2 ^ 30) (h : ¬ vp_in a n) : lc_val (d + 1) 133 0 [.ref 43, .int a] [] lc_SH M = some (some (.int 0), lc_SH, M) := by
  rw [vp_in_iff] at h
  rw [sg_133_0_0, hm, v_in0 (by rw [L0, pred_toInt hn]; omega), lc_bk1, sg_133_0_13]
  rfl
/-! seed -/
theorem op_seed (a : Int32) : opOK 103 186 [.int a] := by
  intro n S hn hv
  by_cases h0 : 0 ≤ a
  · obtain ⟨j, hj, rfl⟩ : ∃ j : Nat, j < 2 ^ 31 ∧ a = nI j := nI_of (by rw [Int32.not_lt]; exact h0)
    refine ⟨nI (sS S), (sP S, sR S, sU S, sI S, sX S, sF S, sL S, sB S, j), ?_, fun M hM => ⟨lc_up M 0 11 (nI j), ?_, ?_, fun c hc => up_ne (by omega)⟩, fun M hM => ⟨lc_up M 44 29 (nI j), ?_, ?_, fun c hc => up_ne (by omega)⟩⟩
    · obtain ⟨h1, h2, h3, h4, h5, h6, h7, h8⟩ := vSt_up hv
      exact ⟨h1, h2, h3, h4, h5, h6, h7, hj⟩
    · show lc_val 8 103 0 [.ref 0, .int (nI j), .null] [] lc_SH M = _
      rw [sg_103_0_0, if_pos h0, hM.2.2.2.2.2.2.2.2]
    · obtain ⟨h1, h2, h3, h4, h5, h6, h7, h8, h9⟩ := hM
      exact ⟨h1, h2, h3, h4, h5, h6, h7, h8, rfl⟩
    · show lc_val 8 186 0 [.ref 43, .int (nI j), .null] [] lc_SH M = _
      rw [sg_186_0_0, if_pos h0, lc_it_val, sg_186_0_7, hM.2.2.2.2.2.2.2.2]
    · obtain ⟨h1, h2, h3, h4, h5, h6, h7, h8, h9⟩ := hM
      have key : ∀ i, i ≠ 29 → lc_up M 44 29 (nI j) 44 i = M 44 i := fun i hi => by rw [up_at, if_pos rfl, if_neg hi]
      have row : ∀ r b, (b + 29 ≤ 29 ∨ 29 < b) → mRowAt (sP S) r (M 44) b → mRowAt (sP S) r (lc_up M 44 29 (nI j) 44) b := by
        intro r b hb ⟨q1, q2, q3, q4, q5⟩
        have hx := hv.1.2.2.2.1
        exact ⟨fun m hm => by rw [key _ (by omega)]; exact q1 m hm, fun m hm => by rw [key _ (by omega)]; exact q2 m hm, fun x hx => by rw [key _ (by omega)]; exact q3 x hx, fun x hx => by rw [key _ (by omega)]; exact q4 x hx, by rw [key _ (by omega)]; exact q5⟩
      refine ⟨h1, row _ 0 (Or.inl (Nat.le_refl _)) h2, ⟨h3.1, fun k r hk => row r _ (Or.inr (by omega)) (h3.2 k r hk)⟩, ⟨h4.1, fun i r q hi hq => ⟨row r _ (Or.inr (by omega)) (h4.2 i r q hi hq).1, ?_⟩⟩, h5, h6, h7, h8, ?_⟩
      · rw [key _ (by omega)]; exact (h4.2 i r q hi hq).2
      · show lc_up M 44 29 (nI j) 44 29 = _
        rw [up_at, if_pos rfl, if_pos rfl]; rfl
  · refine ⟨-1000000002, S, vSt_up hv, fun M hM => ⟨M, ?_, hM, fun _ _ => rfl⟩, fun M hM => ⟨M, ?_, hM, fun _ _ => rfl⟩⟩
    · show lc_val 8 103 0 [.ref 0, .int a, .null] [] lc_SH M = _
      rw [sg_103_0_0, if_neg h0]
    · show lc_val 8 186 0 [.ref 43, .int a, .null] [] lc_SH M = _
      rw [sg_186_0_0, if_neg h0]
/-! tear -/
theorem op_tear : opOK 102 185 [] := by
  intro n S hn hv
  refine ⟨nI ((sL S).length + (sB S).length), (sP S, sR S, sU S, sI S, sX S, sF S, [], [], sS S), ?_, fun M hM => ⟨lc_up (lc_up M 33 3 0) 36 3 0, ?_, ?_, fun c hc => by rw [up_ne (by omega), up_ne (by omega)]⟩, fun M hM => ⟨lc_up (lc_up M 43 28 0) 43 32 0, ?_, ?_, fun c hc => by rw [up_ne (by omega), up_ne (by omega)]⟩⟩
  · obtain ⟨h1, h2, h3, h4, h5, h6, h7, h8⟩ := vSt_up hv
    exact ⟨h1, h2, h3, h4, h5, ⟨Nat.zero_le _, fun q hq => by cases hq⟩, ⟨Nat.zero_le _, fun q hq => by cases hq⟩, h8⟩
  · obtain ⟨h1, h2, h3, h4, h5, h6, h7, h8, h9⟩ := hM
    show lc_val 8 102 0 [.ref 0, .null] [] lc_SH M = _
    rw [sg_102_0_0, sg_25_0_0, lc_bk0, sg_102_0_23, sg_25_1_0, lc_bk0, sg_102_0_30, h7.2.1, h8.2.1, nI_add]
  · obtain ⟨h1, h2, h3, h4, h5, h6, h7, h8, h9⟩ := hM
    exact ⟨h1, h2, h3, h4, h5, h6, ⟨h7.1, rfl, fun j x y hj => by cases hj⟩, ⟨h8.1, rfl, fun j x y hj => by cases hj⟩, h9⟩
  · obtain ⟨h1, h2, h3, h4, h5, h6, h7, h8, h9⟩ := hM
    show lc_val 8 185 0 [.ref 43, .null] [] lc_SH M = _
    rw [sg_185_0_0, h7.1, h8.1, nI_add]
  · obtain ⟨h1, h2, h3, h4, h5, h6, h7, h8, h9⟩ := hM
    refine ⟨?_, h2, ⟨?_, h3.2⟩, h4, ⟨?_, h5.2⟩, ?_, ⟨?_, fun j x y hj => by cases hj⟩, ⟨?_, fun j x y hj => by cases hj⟩, h9⟩
    · exact h1
    · exact h3.1
    · exact h5.1
    · exact h6
    · rfl
    · rfl
