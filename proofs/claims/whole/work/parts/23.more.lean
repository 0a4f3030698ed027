/-! crossing, share, gone, chain -/
theorem v_stateC {d x : Nat} {p : aPat} {r : aRow} {M : lc_M} {mi bu : Int32} {en pi pa : Nat → Int32} (h8 : pNx p ≤ 8) (hh : ∀ x, x < pNx p → rHow r x ≤ 2) (hr : cRow p r mi (M 16 2) (M 16 3) bu en pi pa) (hx : x < pNx p) : lc_val (d + 1) 4 0 [.ref 16, .int (nI x)] [] lc_SH M = some (some (.int (nI (rHow r x))), lc_SH, M) := by
  have h1 : bs (wayB r 1) (pNx p) < 256 := bs_256 h8
  have h2 : bs (wayB r 2) (pNx p) < 256 := bs_256 h8
  have hw := hh x hx
  rw [sg_4_0_0, dn_bs hr]
  by_cases e2 : rHow r x = 2
  · rw [v_has1 h2 (by omega) (by rw [bs_bit]; simp [wayB, e2, hx]), lc_bk1, sg_4_0_8, if_neg (by decide), e2]; rfl
  · rw [v_has0 h2 (by omega) (by rw [bs_bit]; simp [wayB, e2]), lc_bk1, sg_4_0_8, if_pos (by decide), ru_bs hr]
    by_cases e1 : rHow r x = 1
    · rw [v_has1 h1 (by omega) (by rw [bs_bit]; simp [wayB, e1, hx]), lc_bk1, sg_4_0_21, if_neg (by decide), e1]; rfl
    · rw [v_has0 h1 (by omega) (by rw [bs_bit]; simp [wayB, e1]), lc_bk1, sg_4_0_21, if_pos (by decide), show rHow r x = 0 by omega]; rfl
/-- till when, as it is told -/
def tillI (r : aRow) (x : Nat) : Int32 := if rHow r x = 0 then -1 else nI (rTill r x)
theorem v_endC {d x : Nat} {p : aPat} {r : aRow} {M : lc_M} {mi bu : Int32} {pi pa : Nat → Int32} (h8 : pNx p ≤ 8) (hh : ∀ x, x < pNx p → rHow r x ≤ 2) (hr : cRow p r mi (M 16 2) (M 16 3) bu (M 17) pi pa) (hx : x < pNx p) : lc_val (d + 1) 5 0 [.ref 16, .int (nI x)] [] lc_SH M = some (some (.int (tillI r x)), lc_SH, M) := by
  have h1 : bs (wayB r 1) (pNx p) < 256 := bs_256 h8
  have h2 : bs (wayB r 2) (pNx p) < 256 := bs_256 h8
  have hor : bs (wayB r 1) (pNx p) ||| bs (wayB r 2) (pNx p) < 256 := Nat.or_lt_two_pow (n := 8) h1 h2
  have hw := hh x hx
  rw [sg_5_0_0, ru_bs hr, dn_bs hr, nI_or]
  unfold tillI
  by_cases e : rHow r x = 0
  · rw [v_has0 hor (by omega) (by rw [Nat.testBit_or, bs_bit, bs_bit]; simp [wayB, e]), lc_bk1, sg_5_0_13, if_pos (by decide), if_pos e]
  · have h12 : rHow r x = 1 ∨ rHow r x = 2 := by omega
    rw [v_has1 hor (by omega) (by rw [Nat.testBit_or, bs_bit, bs_bit]; simp [wayB, hx, h12]), lc_bk1, sg_5_0_13, if_neg (by decide), if_pos (nI_in (by omega) (by decide)), nI_clamp (by omega), hr.2.2.2.2.1 x hx e, if_neg e]
theorem op_crossing (a b : Int32) : opOK 79 139 [.int a, .int b] := by
  refine opOK_const (fun n S hn hv => ?_)
  have hnx : pNx (sP S) ≤ 8 := hv.1.2.2.2.1
  have hhow := hv.2.1.2.1
  by_cases h : vp_in a (pNx (sP S))
  · obtain ⟨x, hx, rfl⟩ := vp_in_of h (by omega)
    have startC : ∀ M, repC S M → lc_val 8 79 0 (lc_ent 79 (.ref 0 :: [.int (nI x), .int b])) [] lc_SH M = lc_sw b 0 116 (fun t => lc_val 8 79 t [.ref 0, .int (nI x), .int b] [] lc_SH M) [52, 62, 72, 82, 92, 104] := fun M hM => by
      show lc_val 8 79 0 [.ref 0, .int (nI x), .int b] [] lc_SH M = _
      rw [sg_79_0_0, v_hasCrossing1 hM.1.2.2.2.1 (by omega) h, lc_bk1, sg_79_0_8, if_pos (by decide)]
    have startM : ∀ M, repM S M → lc_val 8 139 0 (lc_ent 139 (.ref 43 :: [.int (nI x), .int b])) [] lc_SH M = lc_sw b 0 100 (fun t => lc_val 8 139 t [.ref 43, .int (nI x), .int b] [] lc_SH M) [52, 59, 66, 73, 80, 90] := fun M hM => by
      show lc_val 8 139 0 [.ref 43, .int (nI x), .int b] [] lc_SH M = _
      rw [sg_139_0_0, v_isCrossing1 hM.1.2.2.2.1 (by omega) h, lc_bk1, sg_139_0_5, if_pos (by decide)]
    by_cases hb : vp_in b 6
    · obtain ⟨j, hj, rfl⟩ := vp_in_of hb (by decide)
      match j, hj with
      | 0, _ =>
        refine ⟨nI (pA (sP S) x), fun M hM => ⟨M, ?_, hM, fun _ _ => rfl⟩, fun M hM => ⟨M, ?_, hM, fun _ _ => rfl⟩⟩
        · rw [startC M hM, sw_hit (j := 0) (t := 52) (by decide) rfl, sg_79_0_52, if_pos (nI_in (by omega) (by decide)), nI_clamp (by omega), (hM.1.2.2.2.2.2 x hx).1]
        · rw [startM M hM, sw_hit (j := 0) (t := 52) (by decide) rfl, sg_139_0_52, if_pos (nI_in (by omega) (by decide)), nI_clamp (by omega), (hM.1.2.2.2.2.2 x hx).1]
      | 1, _ =>
        refine ⟨nI (pB (sP S) x), fun M hM => ⟨M, ?_, hM, fun _ _ => rfl⟩, fun M hM => ⟨M, ?_, hM, fun _ _ => rfl⟩⟩
        · rw [startC M hM, sw_hit (j := 1) (t := 62) (by decide) rfl, sg_79_0_62, if_pos (nI_in (by omega) (by decide)), nI_clamp (by omega), (hM.1.2.2.2.2.2 x hx).2.1]
        · rw [startM M hM, sw_hit (j := 1) (t := 59) (by decide) rfl, sg_139_0_59, if_pos (nI_in (by omega) (by decide)), nI_clamp (by omega), (hM.1.2.2.2.2.2 x hx).2.1]
      | 2, _ =>
        refine ⟨nI (pMi (sP S) x), fun M hM => ⟨M, ?_, hM, fun _ _ => rfl⟩, fun M hM => ⟨M, ?_, hM, fun _ _ => rfl⟩⟩
        · rw [startC M hM, sw_hit (j := 2) (t := 72) (by decide) rfl, sg_79_0_72, if_pos (nI_in (by omega) (by decide)), nI_clamp (by omega), (hM.1.2.2.2.2.2 x hx).2.2.1]
        · rw [startM M hM, sw_hit (j := 2) (t := 66) (by decide) rfl, sg_139_0_66, if_pos (nI_in (by omega) (by decide)), nI_clamp (by omega), (hM.1.2.2.2.2.2 x hx).2.2.1]
      | 3, _ =>
        refine ⟨beI (pBe (sP S) x), fun M hM => ⟨M, ?_, hM, fun _ _ => rfl⟩, fun M hM => ⟨M, ?_, hM, fun _ _ => rfl⟩⟩
        · rw [startC M hM, sw_hit (j := 3) (t := 82) (by decide) rfl, sg_79_0_82, if_pos (nI_in (by omega) (by decide)), nI_clamp (by omega), (hM.1.2.2.2.2.2 x hx).2.2.2]
        · rw [startM M hM, sw_hit (j := 3) (t := 73) (by decide) rfl, sg_139_0_73, if_pos (nI_in (by omega) (by decide)), nI_clamp (by omega), (hM.1.2.2.2.2.2 x hx).2.2.2]
      | 4, _ =>
        refine ⟨nI (rHow (sR S) x), fun M hM => ⟨M, ?_, hM, fun _ _ => rfl⟩, fun M hM => ⟨M, ?_, hM, fun _ _ => rfl⟩⟩
        · rw [startC M hM, sw_hit (j := 4) (t := 92) (by decide) rfl, sg_79_0_92, v_stateC hnx hhow hM.2.1 hx, lc_bk1, sg_79_0_103]
        · have e := hM.2.1.2.2.1 x hx
          rw [Nat.zero_add] at e
          rw [startM M hM, sw_hit (j := 4) (t := 80) (by decide) rfl, sg_139_0_80, show (12 : Int32) = nI 12 from rfl, nI_add, if_pos (nI_in (by omega) (by decide)), nI_clamp (by omega), e]
      | 5, _ =>
        refine ⟨tillI (sR S) x, fun M hM => ⟨M, ?_, hM, fun _ _ => rfl⟩, fun M hM => ⟨M, ?_, hM, fun _ _ => rfl⟩⟩
        · rw [startC M hM, sw_hit (j := 5) (t := 104) (by decide) rfl, sg_79_0_104, v_endC hnx hhow hM.2.1 hx, lc_bk1, sg_79_0_115]
        · have e := hM.2.1.2.2.2.1 x hx
          rw [Nat.zero_add] at e
          rw [startM M hM, sw_hit (j := 5) (t := 90) (by decide) rfl, sg_139_0_90, show (20 : Int32) = nI 20 from rfl, nI_add, if_pos (nI_in (by omega) (by decide)), nI_clamp (by omega), e]
          rfl
      | j + 6, hj => omega
    · refine ⟨-1000000002, fun M hM => ⟨M, ?_, hM, fun _ _ => rfl⟩, fun M hM => ⟨M, ?_, hM, fun _ _ => rfl⟩⟩
      · rw [startC M hM, sw_out (by decide) hb, sg_79_0_116]
      · rw [startM M hM, sw_out (by decide) hb, sg_139_0_100]
  · refine ⟨-1000000001, fun M hM => ⟨M, ?_, hM, fun _ _ => rfl⟩, fun M hM => ⟨M, ?_, hM, fun _ _ => rfl⟩⟩
    · show lc_val 8 79 0 [.ref 0, .int a, .int b] [] lc_SH M = _
      rw [sg_79_0_0, v_hasCrossing0 hM.1.2.2.2.1 (by omega) h, lc_bk1, sg_79_0_8, if_neg (by decide)]
    · show lc_val 8 139 0 [.ref 43, .int a, .int b] [] lc_SH M = _
      rw [sg_139_0_0, v_isCrossing0 hM.1.2.2.2.1 (by omega) h, lc_bk1, sg_139_0_5, if_neg (by decide)]
/-! share -/
theorem op_share (a : Int32) : opOK 91 170 [.int a] := by
  refine opOK_const (fun n S hn hv => ?_)
  have hnm : pNm (sP S) ≤ 6 := hv.1.2.2.1
  have hpd := hv.2.1.2.2.2.2.2.1
  by_cases h : vp_in a (pNm (sP S))
  · obtain ⟨m, hm, rfl⟩ := vp_in_of h (by omega)
    have hsum : sumP (rPaid (sR S)) (pNm (sP S)) ≤ 1000000 * n * pNm (sP S) := sumP_le (fun m hm => hpd m (by omega))
    have hs2 : sumP (rPaid (sR S)) (pNm (sP S)) < 2 ^ 31 := by
      have h1 : 1000000 * n * pNm (sP S) ≤ 1000000 * 64 * 6 := Nat.mul_le_mul (by omega) hnm
      omega
    have startC : ∀ M, repC S M → lc_val 8 91 0 (lc_ent 91 (.ref 0 :: [.int (nI m)])) [] lc_SH M = lc_val 8 91 21 [.ref 0, .int (nI m), .null] [.int (nI (sumP (rPaid (sR S)) (pNm (sP S))))] lc_SH M := fun M hM => by
      show lc_val 8 91 0 [.ref 0, .int (nI m), .null] [] lc_SH M = _
      rw [sg_91_0_0, v_hasMaker1 hM.1.2.2.1 (by omega) h, lc_bk1, sg_91_0_8, if_pos (by decide), v_paidC0 hM.1.2.2.1 hnm hM.2.1.2.2.2.2.2.2, lc_bk1]
    have startM : ∀ M, repM S M → lc_val 8 170 0 (lc_ent 170 (.ref 43 :: [.int (nI m)])) [] lc_SH M = lc_val 8 170 15 [.ref 43, .int (nI m), .null] [.int (nI (sumP (rPaid (sR S)) (pNm (sP S))))] lc_SH M := fun M hM => by
      show lc_val 8 170 0 [.ref 43, .int (nI m), .null] [] lc_SH M = _
      rw [sg_170_0_0, v_isMaker1 hM.1.2.2.1 (by omega) h, lc_bk1, sg_170_0_5, if_pos (by decide), v_paidM0 (f := rPaid (sR S)) hM.1.2.2.1 hnm (fun m hm => by have := hM.2.1.2.1 m hm; rw [Nat.zero_add] at this; exact this), lc_bk1]
    by_cases h0 : sumP (rPaid (sR S)) (pNm (sP S)) = 0
    · refine ⟨0, fun M hM => ⟨M, ?_, hM, fun _ _ => rfl⟩, fun M hM => ⟨M, ?_, hM, fun _ _ => rfl⟩⟩
      · rw [startC M hM, h0, sg_91_0_21, if_neg (by decide)]
      · rw [startM M hM, h0, sg_170_0_15, if_neg (by decide), sg_170_0_20]
    · have hne : nI (sumP (rPaid (sR S)) (pNm (sP S))) ≠ 0 := nI_ne0 (by omega) hs2
      have hl : ¬ Int32.toInt64 (nI (sumP (rPaid (sR S)) (pNm (sP S)))) = 0 := fun q => by
        rw [nI_l hs2] at q
        exact h0 ((lN_eq (b := 0) hs2 (by decide)).mp q)
      refine ⟨Int64.toInt32 (((Int32.toInt64 (nI (rPaid (sR S) m))) * 1000) / (Int32.toInt64 (nI (sumP (rPaid (sR S)) (pNm (sP S)))))), fun M hM => ⟨M, ?_, hM, fun _ _ => rfl⟩, fun M hM => ⟨M, ?_, hM, fun _ _ => rfl⟩⟩
      · rw [startC M hM, sg_91_0_21, if_pos (show 0 < nI (sumP (rPaid (sR S)) (pNm (sP S))) from nI_lt (a := 0) (by omega) hs2), lc_it_val, sg_91_0_28, if_pos (nI_in (by omega) (by decide)), if_neg hl, nI_clamp (by omega), hM.2.1.2.2.2.2.2.2 m (by omega)]
      · have e := hM.2.1.2.1 m (by omega)
        rw [Nat.zero_add] at e
        rw [startM M hM, sg_170_0_15, if_pos hne, sg_170_0_24, show (6 : Int32) = nI 6 from rfl, nI_add, if_pos (nI_in (by omega) (by decide)), if_neg hl, nI_clamp (by omega), e, Int64.mul_comm]
  · refine ⟨-1000000001, fun M hM => ⟨M, ?_, hM, fun _ _ => rfl⟩, fun M hM => ⟨M, ?_, hM, fun _ _ => rfl⟩⟩
    · show lc_val 8 91 0 [.ref 0, .int a, .null] [] lc_SH M = _
      rw [sg_91_0_0, v_hasMaker0 hM.1.2.2.1 (by omega) h, lc_bk1, sg_91_0_8, if_neg (by decide)]
    · show lc_val 8 170 0 [.ref 43, .int a, .null] [] lc_SH M = _
      rw [sg_170_0_0, v_isMaker0 hM.1.2.2.1 (by omega) h, lc_bk1, sg_170_0_5, if_neg (by decide)]
/-! gone -/
def goneB (p : aPat) (m s i : Nat) : Bool := (decide (pA p i = m) || decide (pB p i = m)) || (match pBe p i with
  | none => false
  | some q => s.testBit q)
def goneS (p : aPat) (m : Nat) : Nat → Nat
  | 0 => 0
  | i + 1 => if goneB p m (goneS p m i) i = true then goneS p m i ||| 2 ^ i else goneS p m i
theorem goneS_lt (p : aPat) (m : Nat) : ∀ i, goneS p m i < 2 ^ i
  | 0 => by simp [goneS]
  | i + 1 => by
    have h := goneS_lt p m i
    have h2 : 2 ^ (i + 1) = 2 * 2 ^ i := by rw [Nat.pow_succ]; omega
    have h3 : 0 < 2 ^ i := Nat.pos_of_ne_zero (by simp)
    rw [goneS]
    split
    · exact Nat.or_lt_two_pow (by omega) (by omega)
    · omega
theorem goneS_256 {p : aPat} {m i : Nat} (h : i ≤ 8) : goneS p m i < 256 := Nat.lt_of_lt_of_le (goneS_lt p m i) (Nat.pow_le_pow_right (n := 2) (by decide) h)
theorem v_goneC {d m : Nat} {p : aPat} {M : lc_M} (hp : cPat p (M 9) (M 10) (M 11) (M 12) (M 13) (M 14)) (hv : vPat p) (hm : m < 6) :
    ∀ (k i : Nat), i + k = pNx p → lc_val (d + 1) 90 18 [.ref 0, .int (nI m), .int (nI (goneS p m i)), .int (nI i)] [] lc_SH M = some (some (.int (nI (goneS p m (pNx p)))), lc_SH, M)
  | 0, i, h => by
    have h8 := hv.2.2.2.1
    rw [sg_90_0_18, hp.2.2.2.1, if_pos (nI_le (by omega) (by omega)), show i = pNx p by omega]
  | k + 1, i, h => by
    have h8 := hv.2.2.2.1
    have hm6 := hv.2.2.1
    have hab := hv.2.2.2.2.2.2.1 i (by omega)
    have hbe := hv.2.2.2.2.2.2.2 i
    have hc := (hp.2.2.2.2.2 i (by omega)).2.2.2
    have hs : goneS p m i < 256 := goneS_256 (by omega)
    have hpl : pairN p i < 256 := Nat.lt_of_lt_of_le (pair_lt (by omega) (by omega)) (by decide)
    have ih := v_goneC (d := d) hp hv hm k (i + 1) (by omega)
    have yes : goneB p m (goneS p m i) i = true → lc_val (d + 1) 90 60 [.ref 0, .int (nI m), .int (nI (goneS p m i)), .int (nI i)] [] lc_SH M = some (some (.int (nI (goneS p m (pNx p)))), lc_SH, M) := fun hg => by
      rw [sg_90_0_60, shl_1 i (by omega), nI_or, nI_1]
      rw [goneS, if_pos hg] at ih
      exact ih
    rw [sg_90_0_18, hp.2.2.2.1, if_neg (nI_ge (by omega) (by omega)), v_pair hp hv (by omega), lc_bk1, sg_90_0_37]
    by_cases h2 : pA p i = m ∨ pB p i = m
    · rw [v_has1 hpl (by omega) (by rw [pair_bit]; simp [h2]), lc_bk1, sg_90_0_41, if_pos (by decide), lc_it_val]
      exact yes (by simp [goneB, h2])
    · have h2' := h2
      rw [not_or] at h2'
      rw [v_has0 hpl (by omega) (by rw [pair_bit]; simp [h2'.1, h2'.2]), lc_bk1, sg_90_0_41, if_neg (by decide), if_pos (nI_in (by omega) (by decide)), nI_clamp (by omega), hc]
      cases hb : pBe p i with
      | none =>
        rw [show beI none = -1 from rfl, v_hasN, lc_bk1, sg_90_0_57, if_pos (by decide), nI_1]
        rw [goneS, if_neg (by simp [goneB, h2'.1, h2'.2, hb])] at ih
        exact ih
      | some q =>
        have hq := hbe q (by omega) hb
        rw [show beI (some q) = nI q from rfl]
        by_cases ht : (goneS p m i).testBit q = true
        · rw [v_has1 hs (by omega) ht, lc_bk1, sg_90_0_57, if_neg (by decide), lc_it_val]
          exact yes (by simp [goneB, hb, ht])
        · rw [v_has0 hs (by omega) ht, lc_bk1, sg_90_0_57, if_pos (by decide), nI_1]
          rw [goneS, if_neg (by simp [goneB, h2'.1, h2'.2, hb, ht])] at ih
          exact ih
theorem v_goneM {d m : Nat} {p : aPat} {M : lc_M} (hp : cPat p (fun k => M 43 (k + 2)) (M 46) (M 47) (M 48) (M 49) (M 50)) (hv : vPat p) (hm : m < 6) :
    ∀ (k i : Nat) (v4 : Value), i + k = pNx p → lc_val (d + 1) 169 15 [.ref 43, .int (nI m), .int (nI (goneS p m i)), .int (nI i), v4] [] lc_SH M = some (some (.int (nI (goneS p m (pNx p)))), lc_SH, M)
  | 0, i, v4, h => by
    have h8 := hv.2.2.2.1
    have h5 : M 43 5 = nI (pNx p) := hp.2.2.2.1
    rw [sg_169_0_15, h5, if_pos (nI_le (by omega) (by omega)), show i = pNx p by omega]
  | k + 1, i, v4, h => by
    have h8 := hv.2.2.2.1
    have hm6 := hv.2.2.1
    have h5 : M 43 5 = nI (pNx p) := hp.2.2.2.1
    have hab := hv.2.2.2.2.2.2.1 i (by omega)
    have hbe := hv.2.2.2.2.2.2.2 i
    have hc := hp.2.2.2.2.2 i (by omega)
    have hs : goneS p m i < 256 := goneS_256 (by omega)
    have yes : goneB p m (goneS p m i) i = true → lc_val (d + 1) 169 65 [.ref 43, .int (nI m), .int (nI (goneS p m i)), .int (nI i), v4] [] lc_SH M = some (some (.int (nI (goneS p m (pNx p)))), lc_SH, M) := fun hg => by
      have ih := v_goneM (d := d) hp hv hm k (i + 1) (.int 1) (by omega)
      rw [sg_169_0_65, sg_117_0_0, if_neg (by decide), lc_bk1, sg_169_0_78, shl_1 i (by omega), nI_or, nI_1]
      rw [goneS, if_pos hg] at ih
      exact ih
    have no : ¬ goneB p m (goneS p m i) i = true → lc_val (d + 1) 169 69 [.ref 43, .int (nI m), .int (nI (goneS p m i)), .int (nI i), v4] [] lc_SH M = some (some (.int (nI (goneS p m (pNx p)))), lc_SH, M) := fun hg => by
      have ih := v_goneM (d := d) hp hv hm k (i + 1) (.int 0) (by omega)
      rw [sg_169_0_69, sg_117_0_0, if_pos (by decide), lc_bk1, sg_169_0_78, nI_1]
      rw [goneS, if_neg hg] at ih
      rw [show nI (goneS p m i) ||| (0 : Int32) <<< (nI i &&& 31) = nI (goneS p m i) by simp]
      exact ih
    rw [sg_169_0_15, h5, if_neg (nI_ge (by omega) (by omega)), lc_it_val, sg_169_0_23, if_pos (nI_in (by omega) (by decide)), nI_clamp (by omega), hc.1]
    by_cases h2 : pA p i = m
    · rw [if_pos (by rw [h2])]
      exact yes (by simp [goneB, h2])
    · rw [if_neg (fun z => h2 ((nI_eq (by omega) (by omega)).mp z)), sg_169_0_33, if_pos (nI_in (by omega) (by decide)), nI_clamp (by omega), hc.2.1]
      by_cases h3 : pB p i = m
      · rw [if_pos (by rw [h3])]
        exact yes (by simp [goneB, h3])
      · rw [if_neg (fun z => h3 ((nI_eq (by omega) (by omega)).mp z)), sg_169_0_43, if_pos (nI_in (by omega) (by decide)), nI_clamp (by omega), hc.2.2.2]
        cases hb : pBe p i with
        | none =>
          rw [show beI none = -1 from rfl, if_pos (by decide)]
          exact no (by simp [goneB, h2, h3, hb])
        | some q =>
          have hq := hbe q (by omega) hb
          rw [show beI (some q) = nI q from rfl, if_neg (nI_pos (by omega)), sg_169_0_52, if_pos (nI_in (by omega) (by decide)), nI_clamp (by omega), hc.2.2.2, hb, show beI (some q) = nI q from rfl]
          by_cases ht : (goneS p m i).testBit q = true
          · rw [v_mhas1 hs (by omega) ht, lc_bk1, sg_169_0_62, if_neg (by decide)]
            exact yes (by simp [goneB, hb, ht])
          · rw [v_mhas0 hs (by omega) ht, lc_bk1, sg_169_0_62, if_pos (by decide)]
            exact no (by simp [goneB, h2, h3, hb, ht])
theorem op_gone (a : Int32) : opOK 90 169 [.int a] := by
  refine opOK_const (fun n S hn hv => ?_)
  have hnm : pNm (sP S) ≤ 6 := hv.1.2.2.1
  by_cases h : vp_in a (pNm (sP S))
  · obtain ⟨m, hm, rfl⟩ := vp_in_of h (by omega)
    refine ⟨nI (goneS (sP S) m (pNx (sP S))), fun M hM => ⟨M, ?_, hM, fun _ _ => rfl⟩, fun M hM => ⟨M, ?_, hM, fun _ _ => rfl⟩⟩
    · show lc_val 8 90 0 [.ref 0, .int (nI m), .null, .null] [] lc_SH M = _
      rw [sg_90_0_0, v_hasMaker1 hM.1.2.2.1 (by omega) h, lc_bk1, sg_90_0_8, if_pos (by decide)]
      exact v_goneC hM.1 hv.1 (by omega) (pNx (sP S)) 0 (by omega)
    · show lc_val 8 169 0 [.ref 43, .int (nI m), .null, .null, .null] [] lc_SH M = _
      rw [sg_169_0_0, v_isMaker1 hM.1.2.2.1 (by omega) h, lc_bk1, sg_169_0_5, if_pos (by decide)]
      exact v_goneM hM.1 hv.1 (by omega) (pNx (sP S)) 0 _ (by omega)
  · refine ⟨-1000000001, fun M hM => ⟨M, ?_, hM, fun _ _ => rfl⟩, fun M hM => ⟨M, ?_, hM, fun _ _ => rfl⟩⟩
    · show lc_val 8 90 0 [.ref 0, .int a, .null, .null] [] lc_SH M = _
      rw [sg_90_0_0, v_hasMaker0 hM.1.2.2.1 (by omega) h, lc_bk1, sg_90_0_8, if_neg (by decide)]
    · show lc_val 8 169 0 [.ref 43, .int a, .null, .null, .null] [] lc_SH M = _
      rw [sg_169_0_0, v_isMaker0 hM.1.2.2.1 (by omega) h, lc_bk1, sg_169_0_5, if_neg (by decide)]
