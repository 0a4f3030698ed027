/-! what lies, and the book (gen5.py) -/
theorem v_areTwo1 {d n : Nat} {a b : Int32} {M : lc_M} (hm : M 43 4 = nI n) (hn : n < 2 ^ 30) (ha : vp_in a n) (hb : vp_in b n) : lc_val (d + 2) 173 0 [.ref 43, .int a, .int b] [] lc_SH M = some (some (.int 1), lc_SH, M) := by
  rw [sg_173_0_0, v_isMaker1 hm hn ha, lc_bk1, sg_173_0_5, if_neg (by decide), v_isMaker1 hm hn hb, lc_bk1, sg_173_0_13, if_neg (by decide)]
theorem v_areTwo0 {d n : Nat} {a b : Int32} {M : lc_M} (hm : M 43 4 = nI n) (hn : n < 2 ^ 30) (h : ¬ (vp_in a n ∧ vp_in b n)) : lc_val (d + 2) 173 0 [.ref 43, .int a, .int b] [] lc_SH M = some (some (.int 0), lc_SH, M) := by
  rw [sg_173_0_0]
  by_cases ha : vp_in a n
  · rw [v_isMaker1 hm hn ha, lc_bk1, sg_173_0_5, if_neg (by decide), v_isMaker0 hm hn (fun hb => h ⟨ha, hb⟩), lc_bk1, sg_173_0_13, if_pos (by decide)]
  · rw [v_isMaker0 hm hn ha, lc_bk1, sg_173_0_5, if_pos (by decide)]
theorem op_lies (a b : Int32) : opOK 94 174 [.int a, .int b] := by
  intro n S hn hv
  have hnm : pNm (sP S) ≤ 6 := hv.1.2.2.1
  have hL : (sL S).length ≤ 6 ∧ ∀ q ∈ sL S, q.1 < pNm (sP S) ∧ q.2 < pNm (sP S) := hv.2.2.2.2.2.1
  by_cases h : vp_in a (pNm (sP S)) ∧ vp_in b (pNm (sP S))
  · obtain ⟨x, hx, rfl⟩ := vp_in_of h.1 (by omega)
    obtain ⟨y, hy, rfl⟩ := vp_in_of h.2 (by omega)
    by_cases hl : (sL S).length = 6
    · refine ⟨-1000000004, S, vSt_up hv, fun M hM => ⟨M, ?_, hM, fun _ _ => rfl⟩, fun M hM => ⟨M, ?_, hM, fun _ _ => rfl⟩⟩
      · have hp := hM.1.2.2.1
        have hc := hM.2.2.2.2.2.2.1
        show lc_val 8 94 0 [.ref 0, .int (nI x), .int (nI y)] [] lc_SH M = _
        rw [sg_94_0_0, sg_113_0_0, v_hasMaker1 hp (by omega) h.1, lc_bk1, sg_113_0_8, if_neg (by decide), v_hasMaker1 hp (by omega) h.2, lc_bk1, sg_113_0_19, if_pos (by decide)]
        try rw [lc_it_val]
        rw [sg_113_0_25, hc.1, hc.2.1, hl, if_neg (by decide), lc_bk1, sg_94_0_10]
      · have hp : M 43 4 = nI (pNm (sP S)) := hM.1.2.2.1
        have hc := hM.2.2.2.2.2.2.1
        show lc_val 8 174 0 [.ref 43, .int (nI x), .int (nI y)] [] lc_SH M = _
        rw [sg_174_0_0, v_areTwo1 hp (by omega) h.1 h.2, lc_bk1, sg_174_0_6, if_pos (by decide)]
        try rw [lc_it_val]
        rw [sg_174_0_12, hc.1, hl, if_neg (by decide)]
    · have hl2 : (sL S).length < 6 := by omega
      refine ⟨nI ((sL S).length + 1), (sP S, sR S, sU S, sI S, sX S, sF S, sL S ++ [(x, y)], sB S, sS S), ?_, fun M hM => ⟨lc_up (lc_up (lc_up M 34 (sL S).length (nI x)) 35 (sL S).length (nI y)) 33 3 (nI ((sL S).length + 1)), ?_, ?_, fun c hc => by rw [up_ne (by omega), up_ne (by omega), up_ne (by omega)]⟩, fun M hM => ⟨lc_up (lc_up (lc_up M 54 (sL S).length (nI x)) 55 (sL S).length (nI y)) 43 28 (nI ((sL S).length + 1)), ?_, ?_, fun c hc => by rw [up_ne (by omega), up_ne (by omega), up_ne (by omega)]⟩⟩
      · obtain ⟨h1, h2, h3, h4, h5, h6, h7, h8⟩ := vSt_up hv
        refine ⟨h1, h2, h3, h4, h5, ⟨?_, fun q hq => ?_⟩, h7, h8⟩
        · show (sL S ++ [(x, y)]).length ≤ 6
          rw [List.length_append]
          show (sL S).length + 1 ≤ 6
          omega
        · rcases List.mem_append.mp (show q ∈ sL S ++ [(x, y)] from hq) with z | z
          · exact hL.2 q z
          · rw [List.mem_singleton.mp z]; exact ⟨hx, hy⟩
      · have hp := hM.1.2.2.1
        have hc := hM.2.2.2.2.2.2.1
        have u1 : ∀ (f : lc_M) (j : Nat) (z : Int32), lc_up f 34 j z 33 3 = f 33 3 := fun f j z => by rw [up_ne (by decide)]
        have u2 : ∀ (f : lc_M) (j : Nat) (z : Int32), lc_up f 35 j z 33 3 = f 33 3 := fun f j z => by rw [up_ne (by decide)]
        show lc_val 8 94 0 [.ref 0, .int (nI x), .int (nI y)] [] lc_SH M = _
        rw [sg_94_0_0, sg_113_0_0, v_hasMaker1 hp (by omega) h.1, lc_bk1, sg_113_0_8, if_neg (by decide), v_hasMaker1 hp (by omega) h.2, lc_bk1, sg_113_0_19, if_pos (by decide)]
        try rw [lc_it_val]
        rw [sg_113_0_25, hc.1, hc.2.1, if_pos (show nI (sL S).length < 6 from nI_lt (b := 6) hl2 (by decide)), sg_26_0_0, hc.2.1, if_pos (nI_in (by omega) (by decide)), sg_26_0_10, u1, hc.2.1, if_pos (nI_in (by omega) (by decide)), sg_26_0_20, u2, u1, hc.2.1, lc_bk0, sg_113_0_45, nI_clamp (by omega), nI_1, lc_bk1, sg_94_0_10]
        rfl
      · obtain ⟨h1, h2, h3, h4, h5, h6, h7, h8, h9⟩ := hM
        refine ⟨h1, h2, h3, h4, h5, h6, ⟨h7.1, ?_, fun j x' y' hj => ?_⟩, h8, h9⟩
        · show nI ((sL S).length + 1) = nI (sL S ++ [(x, y)]).length
          rw [List.length_append]; rfl
        · rcases app_at (show (sL S ++ [(x, y)])[j]? = some (x', y') from hj) with ⟨q1, q2⟩ | ⟨q1, q2⟩
          · refine ⟨?_, ?_⟩
            · rw [up_ne (by decide), up_ne (by decide), up_at, if_pos rfl, if_neg (by omega)]; exact (h7.2.2 j x' y' q2).1
            · rw [up_ne (by decide), up_at, if_pos rfl, if_neg (by omega), up_ne (by decide)]; exact (h7.2.2 j x' y' q2).2
          · cases q2
            refine ⟨?_, ?_⟩
            · rw [up_ne (by decide), up_ne (by decide), up_at, if_pos rfl, if_pos q1]
            · rw [up_ne (by decide), up_at, if_pos rfl, if_pos q1]
      · have hp : M 43 4 = nI (pNm (sP S)) := hM.1.2.2.1
        have hc := hM.2.2.2.2.2.2.1
        have u1 : ∀ (f : lc_M) (j : Nat) (z : Int32), lc_up f 54 j z 43 28 = f 43 28 := fun f j z => by rw [up_ne (by decide)]
        have u2 : ∀ (f : lc_M) (j : Nat) (z : Int32), lc_up f 55 j z 43 28 = f 43 28 := fun f j z => by rw [up_ne (by decide)]
        show lc_val 8 174 0 [.ref 43, .int (nI x), .int (nI y)] [] lc_SH M = _
        rw [sg_174_0_0, v_areTwo1 hp (by omega) h.1 h.2, lc_bk1, sg_174_0_6, if_pos (by decide)]
        try rw [lc_it_val]
        rw [sg_174_0_12, hc.1, if_pos (show ¬ nI (sL S).length = 6 from fun q => hl ((nI_eq (b := 6) (by omega) (by decide)).mp q))]
        try rw [lc_it_val]
        rw [sg_174_0_24, hc.1, if_pos (nI_in (by omega) (by decide)), if_pos (nI_in (by omega) (by decide)), sg_174_0_44, u2, u1, hc.1, nI_clamp (by omega), nI_1]
      · obtain ⟨h1, h2, h3, h4, h5, h6, h7, h8, h9⟩ := hM
        refine ⟨h1, h2, h3, h4, h5, h6, ⟨?_, fun j x' y' hj => ?_⟩, h8, h9⟩
        · show nI ((sL S).length + 1) = nI (sL S ++ [(x, y)]).length
          rw [List.length_append]; rfl
        · rcases app_at (show (sL S ++ [(x, y)])[j]? = some (x', y') from hj) with ⟨q1, q2⟩ | ⟨q1, q2⟩
          · refine ⟨?_, ?_⟩
            · rw [up_ne (by decide), up_ne (by decide), up_at, if_pos rfl, if_neg (by omega)]; exact (h7.2 j x' y' q2).1
            · rw [up_ne (by decide), up_at, if_pos rfl, if_neg (by omega), up_ne (by decide)]; exact (h7.2 j x' y' q2).2
          · cases q2
            refine ⟨?_, ?_⟩
            · rw [up_ne (by decide), up_ne (by decide), up_at, if_pos rfl, if_pos q1]
            · rw [up_ne (by decide), up_at, if_pos rfl, if_pos q1]
  · refine ⟨-1000000001, S, vSt_up hv, fun M hM => ⟨M, ?_, hM, fun _ _ => rfl⟩, fun M hM => ⟨M, ?_, hM, fun _ _ => rfl⟩⟩
    · have hp := hM.1.2.2.1
      show lc_val 8 94 0 [.ref 0, .int a, .int b] [] lc_SH M = _
      rw [sg_94_0_0, sg_113_0_0]
      by_cases ha : vp_in a (pNm (sP S))
      · rw [v_hasMaker1 hp (by omega) ha, lc_bk1, sg_113_0_8, if_neg (by decide), v_hasMaker0 hp (by omega) (fun hb => h ⟨ha, hb⟩), lc_bk1, sg_113_0_19, if_neg (by decide), lc_bk1, sg_94_0_10]
      · rw [v_hasMaker0 hp (by omega) ha, lc_bk1, sg_113_0_8, if_pos (by decide), lc_bk1, sg_94_0_10]
    · have hp : M 43 4 = nI (pNm (sP S)) := hM.1.2.2.1
      show lc_val 8 174 0 [.ref 43, .int a, .int b] [] lc_SH M = _
      rw [sg_174_0_0, v_areTwo0 hp (by omega) h, lc_bk1, sg_174_0_6, if_neg (by decide)]
theorem op_write (a b : Int32) : opOK 100 183 [.int a, .int b] := by
  intro n S hn hv
  have hnm : pNm (sP S) ≤ 6 := hv.1.2.2.1
  have hL : (sB S).length ≤ 20 ∧ ∀ q ∈ sB S, q.1 < pNm (sP S) ∧ q.2 < pNm (sP S) := hv.2.2.2.2.2.2.1
  by_cases h : vp_in a (pNm (sP S)) ∧ vp_in b (pNm (sP S))
  · obtain ⟨x, hx, rfl⟩ := vp_in_of h.1 (by omega)
    obtain ⟨y, hy, rfl⟩ := vp_in_of h.2 (by omega)
    by_cases hl : (sB S).length = 20
    · refine ⟨-1000000004, S, vSt_up hv, fun M hM => ⟨M, ?_, hM, fun _ _ => rfl⟩, fun M hM => ⟨M, ?_, hM, fun _ _ => rfl⟩⟩
      · have hp := hM.1.2.2.1
        have hc := hM.2.2.2.2.2.2.2.1
        show lc_val 8 100 0 [.ref 0, .int (nI x), .int (nI y)] [] lc_SH M = _
        rw [sg_100_0_0, sg_113_1_0, v_hasMaker1 hp (by omega) h.1, lc_bk1, sg_113_1_8, if_neg (by decide), v_hasMaker1 hp (by omega) h.2, lc_bk1, sg_113_1_19, if_pos (by decide)]
        try rw [lc_it_val]
        rw [sg_113_1_25, hc.1, hc.2.1, hl, if_neg (by decide), lc_bk1, sg_100_0_10]
      · have hp : M 43 4 = nI (pNm (sP S)) := hM.1.2.2.1
        have hc := hM.2.2.2.2.2.2.2.1
        show lc_val 8 183 0 [.ref 43, .int (nI x), .int (nI y)] [] lc_SH M = _
        rw [sg_183_0_0, v_areTwo1 hp (by omega) h.1 h.2, lc_bk1, sg_183_0_6, if_pos (by decide)]
        try rw [lc_it_val]
        rw [sg_183_0_12, hc.1, hl, if_neg (by decide)]
    · have hl2 : (sB S).length < 20 := by omega
      refine ⟨nI ((sB S).length + 1), (sP S, sR S, sU S, sI S, sX S, sF S, sL S, sB S ++ [(x, y)], sS S), ?_, fun M hM => ⟨lc_up (lc_up (lc_up M 37 (sB S).length (nI x)) 38 (sB S).length (nI y)) 36 3 (nI ((sB S).length + 1)), ?_, ?_, fun c hc => by rw [up_ne (by omega), up_ne (by omega), up_ne (by omega)]⟩, fun M hM => ⟨lc_up (lc_up (lc_up M 57 (sB S).length (nI x)) 58 (sB S).length (nI y)) 43 32 (nI ((sB S).length + 1)), ?_, ?_, fun c hc => by rw [up_ne (by omega), up_ne (by omega), up_ne (by omega)]⟩⟩
      · obtain ⟨h1, h2, h3, h4, h5, h6, h7, h8⟩ := vSt_up hv
        refine ⟨h1, h2, h3, h4, h5, h6, ⟨?_, fun q hq => ?_⟩, h8⟩
        · show (sB S ++ [(x, y)]).length ≤ 20
          rw [List.length_append]
          show (sB S).length + 1 ≤ 20
          omega
        · rcases List.mem_append.mp (show q ∈ sB S ++ [(x, y)] from hq) with z | z
          · exact hL.2 q z
          · rw [List.mem_singleton.mp z]; exact ⟨hx, hy⟩
      · have hp := hM.1.2.2.1
        have hc := hM.2.2.2.2.2.2.2.1
        have u1 : ∀ (f : lc_M) (j : Nat) (z : Int32), lc_up f 37 j z 36 3 = f 36 3 := fun f j z => by rw [up_ne (by decide)]
        have u2 : ∀ (f : lc_M) (j : Nat) (z : Int32), lc_up f 38 j z 36 3 = f 36 3 := fun f j z => by rw [up_ne (by decide)]
        show lc_val 8 100 0 [.ref 0, .int (nI x), .int (nI y)] [] lc_SH M = _
        rw [sg_100_0_0, sg_113_1_0, v_hasMaker1 hp (by omega) h.1, lc_bk1, sg_113_1_8, if_neg (by decide), v_hasMaker1 hp (by omega) h.2, lc_bk1, sg_113_1_19, if_pos (by decide)]
        try rw [lc_it_val]
        rw [sg_113_1_25, hc.1, hc.2.1, if_pos (show nI (sB S).length < 20 from nI_lt (b := 20) hl2 (by decide)), sg_26_1_0, hc.2.1, if_pos (nI_in (by omega) (by decide)), sg_26_1_10, u1, hc.2.1, if_pos (nI_in (by omega) (by decide)), sg_26_1_20, u2, u1, hc.2.1, lc_bk0, sg_113_1_45, nI_clamp (by omega), nI_1, lc_bk1, sg_100_0_10]
        rfl
      · obtain ⟨h1, h2, h3, h4, h5, h6, h7, h8, h9⟩ := hM
        refine ⟨h1, h2, h3, h4, h5, h6, h7, ⟨h8.1, ?_, fun j x' y' hj => ?_⟩, h9⟩
        · show nI ((sB S).length + 1) = nI (sB S ++ [(x, y)]).length
          rw [List.length_append]; rfl
        · rcases app_at (show (sB S ++ [(x, y)])[j]? = some (x', y') from hj) with ⟨q1, q2⟩ | ⟨q1, q2⟩
          · refine ⟨?_, ?_⟩
            · rw [up_ne (by decide), up_ne (by decide), up_at, if_pos rfl, if_neg (by omega)]; exact (h8.2.2 j x' y' q2).1
            · rw [up_ne (by decide), up_at, if_pos rfl, if_neg (by omega), up_ne (by decide)]; exact (h8.2.2 j x' y' q2).2
          · cases q2
            refine ⟨?_, ?_⟩
            · rw [up_ne (by decide), up_ne (by decide), up_at, if_pos rfl, if_pos q1]
            · rw [up_ne (by decide), up_at, if_pos rfl, if_pos q1]
      · have hp : M 43 4 = nI (pNm (sP S)) := hM.1.2.2.1
        have hc := hM.2.2.2.2.2.2.2.1
        have u1 : ∀ (f : lc_M) (j : Nat) (z : Int32), lc_up f 57 j z 43 32 = f 43 32 := fun f j z => by rw [up_ne (by decide)]
        have u2 : ∀ (f : lc_M) (j : Nat) (z : Int32), lc_up f 58 j z 43 32 = f 43 32 := fun f j z => by rw [up_ne (by decide)]
        show lc_val 8 183 0 [.ref 43, .int (nI x), .int (nI y)] [] lc_SH M = _
        rw [sg_183_0_0, v_areTwo1 hp (by omega) h.1 h.2, lc_bk1, sg_183_0_6, if_pos (by decide)]
        try rw [lc_it_val]
        rw [sg_183_0_12, hc.1, if_pos (show ¬ nI (sB S).length = 20 from fun q => hl ((nI_eq (b := 20) (by omega) (by decide)).mp q))]
        try rw [lc_it_val]
        rw [sg_183_0_24, hc.1, if_pos (nI_in (by omega) (by decide)), if_pos (nI_in (by omega) (by decide)), sg_183_0_44, u2, u1, hc.1, nI_clamp (by omega), nI_1]
      · obtain ⟨h1, h2, h3, h4, h5, h6, h7, h8, h9⟩ := hM
        refine ⟨h1, h2, h3, h4, h5, h6, h7, ⟨?_, fun j x' y' hj => ?_⟩, h9⟩
        · show nI ((sB S).length + 1) = nI (sB S ++ [(x, y)]).length
          rw [List.length_append]; rfl
        · rcases app_at (show (sB S ++ [(x, y)])[j]? = some (x', y') from hj) with ⟨q1, q2⟩ | ⟨q1, q2⟩
          · refine ⟨?_, ?_⟩
            · rw [up_ne (by decide), up_ne (by decide), up_at, if_pos rfl, if_neg (by omega)]; exact (h8.2 j x' y' q2).1
            · rw [up_ne (by decide), up_at, if_pos rfl, if_neg (by omega), up_ne (by decide)]; exact (h8.2 j x' y' q2).2
          · cases q2
            refine ⟨?_, ?_⟩
            · rw [up_ne (by decide), up_ne (by decide), up_at, if_pos rfl, if_pos q1]
            · rw [up_ne (by decide), up_at, if_pos rfl, if_pos q1]
  · refine ⟨-1000000001, S, vSt_up hv, fun M hM => ⟨M, ?_, hM, fun _ _ => rfl⟩, fun M hM => ⟨M, ?_, hM, fun _ _ => rfl⟩⟩
    · have hp := hM.1.2.2.1
      show lc_val 8 100 0 [.ref 0, .int a, .int b] [] lc_SH M = _
      rw [sg_100_0_0, sg_113_1_0]
      by_cases ha : vp_in a (pNm (sP S))
      · rw [v_hasMaker1 hp (by omega) ha, lc_bk1, sg_113_1_8, if_neg (by decide), v_hasMaker0 hp (by omega) (fun hb => h ⟨ha, hb⟩), lc_bk1, sg_113_1_19, if_neg (by decide), lc_bk1, sg_100_0_10]
      · rw [v_hasMaker0 hp (by omega) ha, lc_bk1, sg_113_1_8, if_pos (by decide), lc_bk1, sg_100_0_10]
    · have hp : M 43 4 = nI (pNm (sP S)) := hM.1.2.2.1
      show lc_val 8 183 0 [.ref 43, .int a, .int b] [] lc_SH M = _
      rw [sg_183_0_0, v_areTwo0 hp (by omega) h, lc_bk1, sg_183_0_6, if_neg (by decide)]
