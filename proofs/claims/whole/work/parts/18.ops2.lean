/-! feed, engaged, notes -/
theorem le_lit {a k : Int32} {z : Int} (hk : k.toInt = z) : a ≤ k ↔ a.toInt ≤ z := by rw [Int32.le_iff_toInt_le, hk]
theorem lt_lit {a k : Int32} {z : Int} (hk : k.toInt = z) : a < k ↔ a.toInt < z := by rw [Int32.lt_iff_toInt_lt, hk]
theorem lit_lt {a k : Int32} {z : Int} (hk : k.toInt = z) : k < a ↔ z < a.toInt := by rw [Int32.lt_iff_toInt_lt, hk]
theorem lit_le {a k : Int32} {z : Int} (hk : k.toInt = z) : k ≤ a ↔ z ≤ a.toInt := by rw [Int32.le_iff_toInt_le, hk]
theorem nin {j N : Nat} (h : j < N) (hN : N < 2 ^ 31) : ¬ (nI j < 0 ∨ N ≤ j) := fun q => q.elim (fun z => nI_pos (by omega) z) (fun z => by omega)
theorem app_at {α : Type} {l : List α} {c x : α} {j : Nat} (h : (l ++ [c])[j]? = some x) : (j < l.length ∧ l[j]? = some x) ∨ (j = l.length ∧ x = c) := by
  by_cases hj : j < l.length
  · rw [List.getElem?_append_left hj] at h
    exact Or.inl ⟨hj, h⟩
  · rw [List.getElem?_append_right (by omega)] at h
    have hz : j - l.length < 1 := (List.getElem?_eq_some_iff.mp h).1
    rw [show j - l.length = 0 by omega] at h
    cases h
    exact Or.inr ⟨by omega, rfl⟩
theorem op_feed (a : Int32) : opOK 74 120 [.int a] := by
  intro n S hn hv
  have hX := hv.2.2.2.2.1
  by_cases h : vp_in a 256
  · obtain ⟨c, hc, rfl⟩ := vp_in_of h (by decide)
    have hci : (nI c).toInt = (c : Int) := nI_toInt (by omega)
    by_cases hl : (sX S).length = 200
    · refine ⟨-1000000004, S, vSt_up hv, fun M hM => ⟨M, ?_, hM, fun _ _ => rfl⟩, fun M hM => ⟨M, ?_, hM, fun _ _ => rfl⟩⟩
      · show lc_val 8 74 0 [.ref 0, .int (nI c)] [] lc_SH M = _
        rw [sg_74_0_0, if_neg (by rw [lt0_iff]; omega), lc_it_val, sg_74_0_4, if_pos ((le_lit (z := 255) (by decide)).mpr (by omega))]
        try rw [lc_it_val]
        rw [sg_74_0_14, hM.2.2.2.2.1.1, hl, if_neg (by decide)]
      · show lc_val 8 120 0 [.ref 43, .int (nI c)] [] lc_SH M = _
        rw [sg_120_0_0, v_in1 (by rw [L0]; omega) (by rw [show (255 : Int64).toInt = 255 by decide]; omega), lc_bk1, sg_120_0_9, if_pos (by decide)]
        try rw [lc_it_val]
        rw [sg_120_0_15, hM.2.2.2.2.1.1, hl, if_neg (by decide)]
    · have hl2 : (sX S).length < 200 := by omega
      refine ⟨nI ((sX S).length + 1), (sP S, sR S, sU S, sI S, sX S ++ [c], sF S, sL S, sB S, sS S), ?_, fun M hM => ⟨lc_up (lc_up M 2 (sX S).length (nI c)) 1 1 (nI ((sX S).length + 1)), ?_, ?_, fun c hc => by rw [up_ne (by omega), up_ne (by omega)]⟩, fun M hM => ⟨lc_up (lc_up M 51 (sX S).length (nI c)) 43 16 (nI ((sX S).length + 1)), ?_, ?_, fun c hc => by rw [up_ne (by omega), up_ne (by omega)]⟩⟩
      · obtain ⟨h1, h2, h3, h4, h5, h6⟩ := vSt_up hv
        refine ⟨h1, h2, h3, h4, ⟨?_, fun x hx => ?_⟩, h6⟩
        · show (sX S ++ [c]).length ≤ 200
          rw [List.length_append]
          show (sX S).length + 1 ≤ 200
          omega
        · rcases List.mem_append.mp (show x ∈ sX S ++ [c] from hx) with q | q
          · exact h5.2 x q
          · rw [List.mem_singleton.mp q]; omega
      · show lc_val 8 74 0 [.ref 0, .int (nI c)] [] lc_SH M = _
        rw [sg_74_0_0, if_neg (by rw [lt0_iff]; omega), lc_it_val, sg_74_0_4, if_pos ((le_lit (z := 255) (by decide)).mpr (by omega))]
        try rw [lc_it_val]
        rw [sg_74_0_14, hM.2.2.2.2.1.1, if_pos (show nI (sX S).length < 200 from nI_lt (b := 200) hl2 (by decide)), sg_48_0_0, hM.2.2.2.2.1.1, if_pos (nI_in (by omega) (by decide)), lc_bk0, sg_74_0_38, nI_clamp (by omega), nI_1]
        rfl
      · obtain ⟨h1, h2, h3, h4, h5, h6, h7, h8, h9⟩ := hM
        refine ⟨h1, h2, h3, h4, ⟨?_, fun j x hj => ?_⟩, h6, h7, h8, h9⟩
        · show nI ((sX S).length + 1) = nI (sX S ++ [c]).length
          rw [List.length_append]; rfl
        · rw [up_ne (by decide), up_at, if_pos rfl]
          rcases app_at (show (sX S ++ [c])[j]? = some x from hj) with ⟨q1, q2⟩ | ⟨q1, q2⟩
          · rw [if_neg (by omega)]; exact h5.2 j x q2
          · rw [if_pos q1, q2]
      · show lc_val 8 120 0 [.ref 43, .int (nI c)] [] lc_SH M = _
        rw [sg_120_0_0, v_in1 (by rw [L0]; omega) (by rw [show (255 : Int64).toInt = 255 by decide]; omega), lc_bk1, sg_120_0_9, if_pos (by decide)]
        try rw [lc_it_val]
        rw [sg_120_0_15, hM.2.2.2.2.1.1, if_pos (show ¬ nI (sX S).length = 200 from fun q => hl ((nI_eq (b := 200) (by omega) (by decide)).mp q))]
        try rw [lc_it_val]
        rw [sg_120_0_28, hM.2.2.2.2.1.1, if_pos (nI_in (by omega) (by decide)), nI_clamp (by omega), nI_1]
      · obtain ⟨h1, h2, h3, h4, h5, h6, h7, h8, h9⟩ := hM
        refine ⟨h1, h2, h3, h4, ⟨?_, fun j x hj => ?_⟩, h6, h7, h8, h9⟩
        · show nI ((sX S).length + 1) = nI (sX S ++ [c]).length
          rw [List.length_append]; rfl
        · rw [up_ne (by decide), up_at, if_pos rfl]
          rcases app_at (show (sX S ++ [c])[j]? = some x from hj) with ⟨q1, q2⟩ | ⟨q1, q2⟩
          · rw [if_neg (by omega)]; exact h5.2 j x q2
          · rw [if_pos q1, q2]
  · refine ⟨-1000000002, S, vSt_up hv, fun M hM => ⟨M, ?_, hM, fun _ _ => rfl⟩, fun M hM => ⟨M, ?_, hM, fun _ _ => rfl⟩⟩
    · show lc_val 8 74 0 [.ref 0, .int a] [] lc_SH M = _
      rw [vp_in_iff] at h
      rw [sg_74_0_0]
      by_cases h0 : a < 0
      · rw [if_pos h0]
      · rw [if_neg h0, lc_it_val, sg_74_0_4, if_neg (by rw [le_lit (z := 255) (by decide)]; rw [lt0_iff] at h0; omega)]
    · show lc_val 8 120 0 [.ref 43, .int a] [] lc_SH M = _
      rw [vp_in_iff] at h
      rw [sg_120_0_0, v_in0 (by rw [L0, show (255 : Int64).toInt = 255 by decide]; omega), lc_bk1, sg_120_0_9, if_neg (by decide)]
/-! engaged -/
def engL (q : Int64) : Nat → Int64 → Int64
  | 0, x => x
  | k + 1, x => engL q k (x * q / 100)
theorem v_engC {d n : Nat} (hn : n < 2 ^ 30) {q : Int32} {M : lc_M} : ∀ (k i : Nat) (x : Int64), i + k = n → lc_val d 92 30 [.ref 0, .int (nI n), .int q, .long x, .null, .int (nI i)] [] lc_SH M = some (some (.int (Int64.toInt32 (1000000000 - engL (Int32.toInt64 q) k x))), lc_SH, M)
  | 0, i, x, h => by
    rw [sg_92_0_30, if_pos (nI_le (by omega) (by omega))]; rfl
  | k + 1, i, x, h => by
    rw [sg_92_0_30, if_neg (nI_ge (by omega) (by omega)), nI_1]
    exact v_engC hn k (i + 1) _ (by omega)
theorem v_engM {d n : Nat} (hn : n < 2 ^ 30) {q : Int32} {M : lc_M} : ∀ (k i : Nat) (x : Int64), i + k = n → lc_val (d + 1) 171 34 [.ref 43, .int (nI n), .int q, .long x, .null, .int (nI i)] [] lc_SH M = some (some (.int (Int64.toInt32 (1000000000 - engL (Int32.toInt64 q) k x))), lc_SH, M)
  | 0, i, x, h => by
    rw [sg_171_0_34, if_pos (nI_le (by omega) (by omega))]; rfl
  | k + 1, i, x, h => by
    rw [sg_171_0_34, if_neg (nI_ge (by omega) (by omega)), nI_1]
    exact v_engM hn k (i + 1) _ (by omega)
theorem op_engaged (a b : Int32) : opOK 92 171 [.int a, .int b] := by
  refine opOK_const (fun n S hn hv => ?_)
  have L30 : (30 : Int64).toInt = 30 := by decide
  have L100 : (100 : Int64).toInt = 100 := by decide
  by_cases h : vp_in a 31
  · obtain ⟨c, hc, rfl⟩ := vp_in_of h (by decide)
    have hci : (nI c).toInt = (c : Int) := nI_toInt (by omega)
    by_cases hb : vp_in b 101
    · have hb' := vp_in_iff.mp hb
      refine ⟨Int64.toInt32 (1000000000 - engL (Int32.toInt64 b) c 1000000000), fun M hM => ⟨M, ?_, hM, fun _ _ => rfl⟩, fun M hM => ⟨M, ?_, hM, fun _ _ => rfl⟩⟩
      · show lc_val 8 92 0 [.ref 0, .int (nI c), .int b, .null, .null, .null] [] lc_SH M = _
        rw [sg_92_0_0, if_neg (by rw [lt0_iff]; omega), lc_it_val, sg_92_0_4, if_neg (by rw [lit_lt (z := 30) (by decide)]; omega), lc_it_val, sg_92_0_10, if_neg (by rw [lt0_iff]; omega), lc_it_val, sg_92_0_14, if_pos ((le_lit (z := 100) (by decide)).mpr (by omega))]
        exact v_engC (by omega) c 0 _ (by omega)
      · show lc_val 8 171 0 [.ref 43, .int (nI c), .int b, .null, .null, .null] [] lc_SH M = _
        rw [sg_171_0_0, v_in1 (by rw [L0]; omega) (by rw [L30]; omega), lc_bk1, sg_171_0_9, if_neg (by decide), v_in1 (by rw [L0]; omega) (by rw [L100]; omega), lc_bk1, sg_171_0_21, if_pos (by decide)]
        exact v_engM (by omega) c 0 _ (by omega)
    · have hb' := hb
      rw [vp_in_iff] at hb'
      refine ⟨-1000000002, fun M hM => ⟨M, ?_, hM, fun _ _ => rfl⟩, fun M hM => ⟨M, ?_, hM, fun _ _ => rfl⟩⟩
      · show lc_val 8 92 0 [.ref 0, .int (nI c), .int b, .null, .null, .null] [] lc_SH M = _
        rw [sg_92_0_0, if_neg (by rw [lt0_iff]; omega), lc_it_val, sg_92_0_4, if_neg (by rw [lit_lt (z := 30) (by decide)]; omega), lc_it_val, sg_92_0_10]
        by_cases h0 : b < 0
        · rw [if_pos h0]
        · rw [if_neg h0, lc_it_val, sg_92_0_14, if_neg (by rw [le_lit (z := 100) (by decide)]; rw [lt0_iff] at h0; omega)]
      · show lc_val 8 171 0 [.ref 43, .int (nI c), .int b, .null, .null, .null] [] lc_SH M = _
        rw [sg_171_0_0, v_in1 (by rw [L0]; omega) (by rw [L30]; omega), lc_bk1, sg_171_0_9, if_neg (by decide), v_in0 (by rw [L0, L100]; omega), lc_bk1, sg_171_0_21, if_neg (by decide)]
  · have h' := h
    rw [vp_in_iff] at h'
    refine ⟨-1000000002, fun M hM => ⟨M, ?_, hM, fun _ _ => rfl⟩, fun M hM => ⟨M, ?_, hM, fun _ _ => rfl⟩⟩
    · show lc_val 8 92 0 [.ref 0, .int a, .int b, .null, .null, .null] [] lc_SH M = _
      rw [sg_92_0_0]
      by_cases h0 : a < 0
      · rw [if_pos h0]
      · rw [if_neg h0, lc_it_val, sg_92_0_4, if_pos (by rw [lit_lt (z := 30) (by decide)]; rw [lt0_iff] at h0; omega)]
    · show lc_val 8 171 0 [.ref 43, .int a, .int b, .null, .null, .null] [] lc_SH M = _
      rw [sg_171_0_0, v_in0 (by rw [L0, L30]; omega), lc_bk1, sg_171_0_9, if_pos (by decide)]
/-! the first of some notes that is otherwise -/
def foI (pin : Nat → Nat) : List (Nat × Nat) → Nat → Int32
  | [], _ => -1
  | (a, b) :: t, j => if pin a = b then foI pin t (j + 1) else nI j
theorem drop_cons {α : Type} {l t : List α} {x : α} {j : Nat} (h : l.drop j = x :: t) : l[j]? = some x ∧ l.drop (j + 1) = t ∧ j < l.length := by
  have h1 : (l.drop j)[0]? = some x := by rw [h]; rfl
  rw [List.getElem?_drop] at h1
  refine ⟨h1, ?_, (List.getElem?_eq_some_iff.mp h1).1⟩
  rw [← List.drop_drop, h]; rfl
theorem v_foBook {d : Nat} {M : lc_M} {l : List (Nat × Nat)} {pin : Nat → Nat} (hc : M 36 3 = nI l.length) (hl : l.length ≤ 20) (ha : ∀ j x y, l[j]? = some (x, y) → M 37 j = nI x ∧ M 38 j = nI y ∧ x < 6 ∧ y < 6) (hp : ∀ m, m < 6 → M 18 m = nI (pin m) ∧ pin m < 6) : ∀ (t : List (Nat × Nat)) (j : Nat), l.drop j = t → j ≤ l.length → lc_val d 27 2 [.ref 36, .ref 18, .int (nI j)] [] lc_SH M = some (some (.int (foI pin t j)), lc_SH, M)
  | [], j, h, hj => by
    have : l.length ≤ j := by
      have := congrArg List.length h
      rw [List.length_drop] at this
      simp at this; omega
    rw [sg_27_1_2, hc, if_pos (nI_le this (by omega))]; rfl
  | (x, y) :: t, j, h, hj => by
    obtain ⟨h1, h2, h3⟩ := drop_cons h
    obtain ⟨q1, q2, q3, q4⟩ := ha j x y h1
    have e := hp x q3
    rw [sg_27_1_2, hc, if_neg (nI_ge h3 (by omega)), lc_it_val, sg_27_1_10, nI_clamp (by omega), q1, q2, nI_clamp (by omega), e.1]
    have ht := v_foBook (d := d) hc hl ha hp t (j + 1) h2 h3
    by_cases q : pin x = y
    · rw [if_pos (nin (j := j) (N := 20) (by omega) (by decide)), if_pos (nin (j := x) (N := 6) (by omega) (by decide)), if_pos (nin (j := j) (N := 20) (by omega) (by decide)), if_pos (by rw [q]), nI_1]
      rw [show foI pin ((x, y) :: t) j = foI pin t (j + 1) from if_pos q]
      exact ht
    · rw [if_pos (nin (j := j) (N := 20) (by omega) (by decide)), if_pos (nin (j := x) (N := 6) (by omega) (by decide)), if_pos (nin (j := j) (N := 20) (by omega) (by decide)), if_neg (fun z => q ((nI_eq (by omega) (by omega)).mp z))]
      rw [show foI pin ((x, y) :: t) j = nI j from if_neg q]
theorem v_jdM {d : Nat} {M : lc_M} {l : List (Nat × Nat)} {pin : Nat → Nat} (hc : M 43 32 = nI l.length) (hl : l.length ≤ 20) (ha : ∀ j x y, l[j]? = some (x, y) → M 57 j = nI x ∧ M 58 j = nI y ∧ x < 6 ∧ y < 6) (hp : ∀ m, m < 6 → M 44 m = nI (pin m) ∧ pin m < 6) : ∀ (t : List (Nat × Nat)) (j : Nat), l.drop j = t → j ≤ l.length → lc_val d 184 2 [.ref 43, .int (nI j)] [] lc_SH M = some (some (.int (foI pin t j)), lc_SH, M)
  | [], j, h, hj => by
    have : l.length ≤ j := by
      have := congrArg List.length h
      rw [List.length_drop] at this
      simp at this; omega
    rw [sg_184_0_2, hc, if_pos (nI_le this (by omega))]; rfl
  | (x, y) :: t, j, h, hj => by
    obtain ⟨h1, h2, h3⟩ := drop_cons h
    obtain ⟨q1, q2, q3, q4⟩ := ha j x y h1
    have e := hp x q3
    rw [sg_184_0_2, hc, if_neg (nI_ge h3 (by omega)), lc_it_val, sg_184_0_10, nI_clamp (by omega), q1, q2, nI_clamp (by omega), e.1]
    have ht := v_jdM (d := d) hc hl ha hp t (j + 1) h2 h3
    by_cases q : pin x = y
    · rw [if_pos (nin (j := j) (N := 20) (by omega) (by decide)), if_pos (nin (j := x) (N := 1020) (by omega) (by decide)), if_pos (nin (j := j) (N := 20) (by omega) (by decide)), if_pos (by rw [q]), nI_1]
      rw [show foI pin ((x, y) :: t) j = foI pin t (j + 1) from if_pos q]
      exact ht
    · rw [if_pos (nin (j := j) (N := 20) (by omega) (by decide)), if_pos (nin (j := x) (N := 1020) (by omega) (by decide)), if_pos (nin (j := j) (N := 20) (by omega) (by decide)), if_neg (fun z => q ((nI_eq (by omega) (by omega)).mp z))]
      rw [show foI pin ((x, y) :: t) j = nI j from if_neg q]
theorem op_judge : opOK 101 184 [] := by
  refine opOK_const (fun n S hn hv => ?_)
  have hB := hv.2.2.2.2.2.2.1
  have hnm := hv.1.2.2.1
  have hpin := hv.2.1.2.2.2.2.1
  refine ⟨foI (rPin (sR S)) (sB S) 0, fun M hM => ⟨M, ?_, hM, fun _ _ => rfl⟩, fun M hM => ⟨M, ?_, hM, fun _ _ => rfl⟩⟩
  · obtain ⟨h1, h2, h3, h4, h5, h6, h7, h8, h9⟩ := hM
    show lc_val 8 101 0 [.ref 0] [] lc_SH M = _
    have := v_foBook (d := 7) (M := M) (l := sB S) (pin := rPin (sR S)) h8.2.1 hB.1 (fun j x y hj => ⟨(h8.2.2 j x y hj).1, (h8.2.2 j x y hj).2, by have := (hB.2 _ (List.mem_of_getElem? hj)).1; dsimp only at this; omega, by have := (hB.2 _ (List.mem_of_getElem? hj)).2; dsimp only at this; omega⟩) (fun m hm => ⟨h2.2.2.2.2.2.1 m hm, hpin m hm⟩) (sB S) 0 rfl (Nat.zero_le _)
    rw [sg_101_0_0, sg_27_1_0, show (0 : Int32) = nI 0 from rfl, this, lc_bk1, sg_101_0_14]
  · obtain ⟨h1, h2, h3, h4, h5, h6, h7, h8, h9⟩ := hM
    show lc_val 8 184 0 [.ref 43, .null] [] lc_SH M = _
    have := v_jdM (d := 8) (M := M) (l := sB S) (pin := rPin (sR S)) h8.1 hB.1 (fun j x y hj => ⟨(h8.2 j x y hj).1, (h8.2 j x y hj).2, by have := (hB.2 _ (List.mem_of_getElem? hj)).1; dsimp only at this; omega, by have := (hB.2 _ (List.mem_of_getElem? hj)).2; dsimp only at this; omega⟩) (fun m hm => ⟨by have := h2.1 m hm; rw [Nat.zero_add] at this; exact this, hpin m hm⟩) (sB S) 0 rfl (Nat.zero_le _)
    rw [sg_184_0_0, show (0 : Int32) = nI 0 from rfl, this]
