/-! who is in which call -/
def coF (f : Nat → Bool) : Nat → Int32
  | 0 => -1
  | n + 1 => if f n = true then nI n else coF f n
theorem coF_none {f : Nat → Bool} : ∀ {n : Nat}, (∀ x, x < n → f x = false) → coF f n = -1
  | 0, _ => rfl
  | n + 1, h => by
    rw [coF, if_neg (by rw [h n (by omega)]; decide)]
    exact coF_none (fun x hx => h x (by omega))
theorem coF_uniq {f : Nat → Bool} {i : Nat} (hi : f i = true) : ∀ {n : Nat}, i < n → (∀ x, x < n → f x = true → x = i) → coF f n = nI i
  | 0, h, _ => by omega
  | n + 1, h, hu => by
    rw [coF]
    by_cases hn : f n = true
    · rw [if_pos hn, hu n (by omega) hn]
    · rw [if_neg hn]
      refine coF_uniq hi ?_ (fun x hx => hu x (by omega))
      have : i ≠ n := fun e => hn (by rw [← e]; exact hi)
      omega
/-- the crossing x is rung, and m is one of its two -/
def enB (p : aPat) (r : aRow) (m x : Nat) : Bool := decide (rHow r x = 1) && (decide (pA p x = m) || decide (pB p x = m))
def pairN (p : aPat) (x : Nat) : Nat := 2 ^ pA p x ||| 2 ^ pB p x
theorem pow64 {a : Nat} (h : a < 6) : 2 ^ a < 64 := Nat.lt_of_lt_of_le (Nat.pow_lt_pow_right (a := 2) (by decide) h) (by decide)
theorem pair_lt {p : aPat} {x : Nat} (ha : pA p x < 6) (hb : pB p x < 6) : pairN p x < 64 := Nat.or_lt_two_pow (n := 6) (pow64 ha) (pow64 hb)
theorem pair_bit {p : aPat} {x m : Nat} : (pairN p x).testBit m = (decide (pA p x = m) || decide (pB p x = m)) := by
  rw [pairN, Nat.testBit_or, Nat.testBit_two_pow, Nat.testBit_two_pow]
theorem v_pair {d x : Nat} {p : aPat} {M : lc_M} (hp : cPat p (M 9) (M 10) (M 11) (M 12) (M 13) (M 14)) (hv : vPat p) (hx : x < pNx p) : lc_val d 35 0 [.ref 9, .int (nI x)] [] lc_SH M = some (some (.int (nI (pairN p x))), lc_SH, M) := by
  have h8 := hv.2.2.2.1
  have hm := hv.2.2.1
  have hab := hv.2.2.2.2.2.2.1 x hx
  have hc := hp.2.2.2.2.2 x hx
  rw [sg_35_0_0, if_pos (nI_in (by omega) (by decide)), nI_clamp (by omega), hc.1, shl_1 _ (by omega), sg_35_0_8, if_pos (nI_in (by omega) (by decide)), nI_clamp (by omega), hc.2.1, shl_1 _ (by omega), nI_or]
  rfl
theorem en_uniq {n : Nat} {p : aPat} {r : aRow} (hv : vRow n p r) {m x y : Nat} (hx : x < pNx p) (hy : y < pNx p) (h1 : enB p r m x = true) (h2 : enB p r m y = true) : x = y := by
  simp only [enB, Bool.and_eq_true, Bool.or_eq_true, decide_eq_true_eq] at h1 h2
  by_cases e : x = y
  · exact e
  · obtain ⟨q1, q2, q3, q4⟩ := hv.2.2.2.2.2.2 x y hx hy h1.1 h2.1 e
    rcases h1.2 with a | a <;> rcases h2.2 with b | b
    · exact absurd (a.trans b.symm) q1
    · exact absurd (a.trans b.symm) q2
    · exact absurd (a.trans b.symm) q3
    · exact absurd (a.trans b.symm) q4
theorem v_callC {d n m : Nat} {p : aPat} {r : aRow} {M : lc_M} {mi bu : Int32} {en pi pa : Nat → Int32} (hp : cPat p (M 9) (M 10) (M 11) (M 12) (M 13) (M 14)) (hv : vPat p) (hvr : vRow n p r) (hr : cRow p r mi (M 16 2) (M 16 3) bu en pi pa) (hm : m < 6) :
    ∀ (k i : Nat), i + k = pNx p → (∀ x, x < i → enB p r m x = false) → lc_val (d + 1) 6 2 [.ref 16, .int (nI m), .int (nI i)] [] lc_SH M = some (some (.int (coF (enB p r m) (pNx p))), lc_SH, M)
  | 0, i, h, hf => by
    have h8 := hv.2.2.2.1
    rw [sg_6_0_2, hp.2.2.2.1, if_pos (nI_le (by omega) (by omega)), coF_none (fun x hx => hf x (by omega))]
  | k + 1, i, h, hf => by
    have h8 := hv.2.2.2.1
    have hm6 := hv.2.2.1
    have hab := hv.2.2.2.2.2.2.1 i (by omega)
    have hbs : bs (wayB r 1) (pNx p) < 256 := bs_256 h8
    rw [sg_6_0_2, hp.2.2.2.1, if_neg (nI_ge (by omega) (by omega)), ru_bs hr]
    have ih : enB p r m i = false → lc_val (d + 1) 6 2 [.ref 16, .int (nI m), .int (nI (i + 1))] [] lc_SH M = some (some (.int (coF (enB p r m) (pNx p))), lc_SH, M) := fun hi => v_callC hp hv hvr hr hm k (i + 1) (by omega) (fun x hx => by
      by_cases e : x = i
      · rw [e]; exact hi
      · exact hf x (by omega))
    by_cases h1 : rHow r i = 1
    · rw [v_has1 hbs (by omega) (by rw [bs_bit]; simp [wayB, h1]; omega), lc_bk1, sg_6_0_21, if_neg (by decide), v_pair hp hv (by omega), lc_bk1, sg_6_0_32]
      have hpl : pairN p i < 256 := Nat.lt_of_lt_of_le (pair_lt (by omega) (by omega)) (by decide)
      by_cases h2 : pA p i = m ∨ pB p i = m
      · have he : enB p r m i = true := by simp [enB, h1, h2]
        rw [v_has1 hpl (by omega) (by rw [pair_bit]; simp [h2]), lc_bk1, sg_6_0_36, if_neg (by decide), coF_uniq he (by omega) (fun x hx hxe => en_uniq hvr hx (by omega) hxe he)]
      · have he : enB p r m i = false := by simp only [enB, h1, not_or] at h2 ⊢; simp [h2.1, h2.2]
        rw [v_has0 hpl (by omega) (by rw [pair_bit]; simp only [not_or] at h2; simp [h2.1, h2.2]), lc_bk1, sg_6_0_36, if_pos (by decide), nI_1]
        exact ih he
    · have he : enB p r m i = false := by simp [enB, h1]
      rw [v_has0 hbs (by omega) (by rw [bs_bit]; simp [wayB, h1]), lc_bk1, sg_6_0_21, if_pos (by decide), lc_it_val, nI_1]
      exact ih he
theorem v_callM {d at0 m : Nat} {p : aPat} {r : aRow} {M : lc_M} (hp : cPat p (fun k => M 43 (k + 2)) (M 46) (M 47) (M 48) (M 49) (M 50)) (hv : vPat p) (ha : at0 ≤ 900) (hh : ∀ x, x < pNx p → rHow r x ≤ 2) (hr : mRowAt p r (M 44) at0) (hm : m < 6) :
    ∀ (k i : Nat), i + k = pNx p → lc_val d 137 5 [.ref 43, .int (nI at0), .int (nI m), .int (coF (enB p r m) i), .int (nI i)] [] lc_SH M = some (some (.int (coF (enB p r m) (pNx p))), lc_SH, M)
  | 0, i, h => by
    have h8 := hv.2.2.2.1
    have h5 : M 43 5 = nI (pNx p) := hp.2.2.2.1
    rw [sg_137_0_5, h5, if_pos (nI_le (by omega) (by omega)), show i = pNx p by omega]
  | k + 1, i, h => by
    have h8 := hv.2.2.2.1
    have hm6 := hv.2.2.1
    have h5 : M 43 5 = nI (pNx p) := hp.2.2.2.1
    have hab := hv.2.2.2.2.2.2.1 i (by omega)
    have hc := hp.2.2.2.2.2 i (by omega)
    have hi := hr.2.2.1 i (by omega)
    have hhi := hh i (by omega)
    have ih := v_callM (d := d) hp hv ha hh hr hm k (i + 1) (by omega)
    rw [sg_137_0_5, h5, if_neg (nI_ge (by omega) (by omega)), lc_it_val, sg_137_0_14, show (12 : Int32) = nI 12 from rfl, nI_add, nI_add, if_pos (nI_in (by omega) (by decide)), nI_clamp (by omega), hi]
    by_cases h1 : rHow r i = 1
    · rw [if_neg (fun z => z (by rw [h1]; rfl)), sg_137_0_30, if_pos (nI_in (by omega) (by decide)), nI_clamp (by omega), hc.1]
      by_cases h2 : pA p i = m
      · rw [if_pos (by rw [h2]), sg_137_0_52, nI_1]
        rw [coF, if_pos (by simp [enB, h1, h2])] at ih
        exact ih
      · rw [if_neg (fun z => h2 ((nI_eq (by omega) (by omega)).mp z)), sg_137_0_41, if_pos (nI_in (by omega) (by decide)), nI_clamp (by omega), hc.2.1]
        by_cases h3 : pB p i = m
        · rw [if_neg (fun z => z (by rw [h3])), sg_137_0_52, nI_1]
          rw [coF, if_pos (by simp [enB, h1, h3])] at ih
          exact ih
        · rw [if_pos (fun z => h3 ((nI_eq (by omega) (by omega)).mp z)), sg_137_0_57, nI_1]
          rw [coF, if_neg (by simp [enB, h2, h3])] at ih
          exact ih
    · rw [if_pos (show ¬ nI (rHow r i) = 1 from fun z => h1 ((nI_eq (b := 1) (by omega) (by decide)).mp z)), sg_137_0_57, nI_1]
      rw [coF, if_neg (by simp [enB, h1])] at ih
      exact ih
theorem v_callM0 {d m : Nat} {p : aPat} {r : aRow} {M : lc_M} (hp : cPat p (fun k => M 43 (k + 2)) (M 46) (M 47) (M 48) (M 49) (M 50)) (hv : vPat p) (hh : ∀ x, x < pNx p → rHow r x ≤ 2) (hr : mRowAt p r (M 44) 0) (hm : m < 6) : lc_val d 137 0 [.ref 43, .int 0, .int (nI m), .null, .null] [] lc_SH M = some (some (.int (coF (enB p r m) (pNx p))), lc_SH, M) := by
  rw [sg_137_0_0]
  exact v_callM (d := d) (at0 := 0) hp hv (by omega) hh hr hm (pNx p) 0 (by omega)
/-! maker -/
theorem op_maker (a b : Int32) : opOK 78 138 [.int a, .int b] := by
  refine opOK_const (fun n S hn hv => ?_)
  have hnm : pNm (sP S) ≤ 6 := hv.1.2.2.1
  have hhow := hv.2.1.2.1
  by_cases h : vp_in a (pNm (sP S))
  · obtain ⟨m, hm, rfl⟩ := vp_in_of h (by omega)
    have startC : ∀ M, repC S M → lc_val 8 78 0 (lc_ent 78 (.ref 0 :: [.int (nI m), .int b])) [] lc_SH M = lc_sw b 0 86 (fun t => lc_val 8 78 t [.ref 0, .int (nI m), .int b] [] lc_SH M) [44, 54, 64, 74] := fun M hM => by
      show lc_val 8 78 0 [.ref 0, .int (nI m), .int b] [] lc_SH M = _
      rw [sg_78_0_0, v_hasMaker1 hM.1.2.2.1 (by omega) h, lc_bk1, sg_78_0_8, if_pos (by decide)]
    have startM : ∀ M, repM S M → lc_val 8 138 0 (lc_ent 138 (.ref 43 :: [.int (nI m), .int b])) [] lc_SH M = lc_val 8 138 11 [.ref 43, .int (nI m), .int b] [] lc_SH M := fun M hM => by
      show lc_val 8 138 0 [.ref 43, .int (nI m), .int b] [] lc_SH M = _
      rw [sg_138_0_0, v_isMaker1 hM.1.2.2.1 (by omega) h, lc_bk1, sg_138_0_5, if_pos (by decide), lc_it_val]
    by_cases hb : vp_in b 4
    · obtain ⟨j, hj, rfl⟩ := vp_in_of hb (by decide)
      match j, hj with
      | 0, _ =>
        refine ⟨nI (pEar (sP S) m), fun M hM => ⟨M, ?_, hM, fun _ _ => rfl⟩, fun M hM => ⟨M, ?_, hM, fun _ _ => rfl⟩⟩
        · rw [startC M hM, sw_hit (j := 0) (t := 44) (by decide) rfl, sg_78_0_44, if_pos (nI_in (by omega) (by decide)), nI_clamp (by omega), hM.1.2.2.2.2.1 m hm]
        · rw [startM M hM, sg_138_0_11, if_neg (by decide), sg_138_0_15, if_pos (nI_in (by omega) (by decide)), nI_clamp (by omega), hM.1.2.2.2.2.1 m hm]
      | 1, _ =>
        refine ⟨nI (rPin (sR S) m), fun M hM => ⟨M, ?_, hM, fun _ _ => rfl⟩, fun M hM => ⟨M, ?_, hM, fun _ _ => rfl⟩⟩
        · rw [startC M hM, sw_hit (j := 1) (t := 54) (by decide) rfl, sg_78_0_54, if_pos (nI_in (by omega) (by decide)), nI_clamp (by omega), hM.2.1.2.2.2.2.2.1 m (by omega)]
        · have e := hM.2.1.1 m (by omega)
          rw [Nat.zero_add] at e
          rw [startM M hM, sg_138_0_11, if_pos (by decide), sg_138_0_24, if_neg (by decide), sg_138_0_29, if_pos (nI_in (by omega) (by decide)), nI_clamp (by omega), e]
      | 2, _ =>
        refine ⟨nI (rPaid (sR S) m), fun M hM => ⟨M, ?_, hM, fun _ _ => rfl⟩, fun M hM => ⟨M, ?_, hM, fun _ _ => rfl⟩⟩
        · rw [startC M hM, sw_hit (j := 2) (t := 64) (by decide) rfl, sg_78_0_64, if_pos (nI_in (by omega) (by decide)), nI_clamp (by omega), hM.2.1.2.2.2.2.2.2 m (by omega)]
        · have e := hM.2.1.2.1 m (by omega)
          rw [Nat.zero_add] at e
          rw [startM M hM, sg_138_0_11, if_pos (by decide), sg_138_0_24, if_pos (by decide), sg_138_0_38, if_neg (by decide), sg_138_0_43, show (6 : Int32) = nI 6 from rfl, nI_add, if_pos (nI_in (by omega) (by decide)), nI_clamp (by omega), e]
      | 3, _ =>
        refine ⟨coF (enB (sP S) (sR S) m) (pNx (sP S)), fun M hM => ⟨M, ?_, hM, fun _ _ => rfl⟩, fun M hM => ⟨M, ?_, hM, fun _ _ => rfl⟩⟩
        · have hc := v_callC (d := 6) hM.1 hv.1 hv.2.1 hM.2.1 (m := m) (by omega) (pNx (sP S)) 0 (by omega) (fun x hx => by omega)
          rw [startC M hM, sw_hit (j := 3) (t := 74) (by decide) rfl, sg_78_0_74, sg_6_0_0, show (.int 0 : Value) = .int (nI 0) from rfl, hc, lc_bk1, sg_78_0_85]
        · have hc := v_callM0 (d := 7) (r := sR S) hM.1 hv.1 hhow hM.2.1 (m := m) (by omega)
          rw [startM M hM, sg_138_0_11, if_pos (by decide), sg_138_0_24, if_pos (by decide), sg_138_0_38, if_pos (by decide), sg_138_0_55, if_neg (by decide), hc, lc_bk1, sg_138_0_66]
      | j + 4, hj => omega
    · refine ⟨-1000000002, fun M hM => ⟨M, ?_, hM, fun _ _ => rfl⟩, fun M hM => ⟨M, ?_, hM, fun _ _ => rfl⟩⟩
      · rw [startC M hM, sw_out (by decide) hb, sg_78_0_86]
      · have ne : ∀ j, j < 4 → ¬ b = nI j := fun j hj e => hb (by rw [e]; exact vp_in_nI hj (by decide))
        rw [startM M hM, sg_138_0_11, if_pos (show ¬ b = 0 from ne 0 (by decide)), sg_138_0_24, if_pos (show ¬ b = 1 from ne 1 (by decide)), sg_138_0_38, if_pos (show ¬ b = 2 from ne 2 (by decide)), sg_138_0_55, if_pos (show ¬ b = 3 from ne 3 (by decide))]
  · refine ⟨-1000000001, fun M hM => ⟨M, ?_, hM, fun _ _ => rfl⟩, fun M hM => ⟨M, ?_, hM, fun _ _ => rfl⟩⟩
    · show lc_val 8 78 0 [.ref 0, .int a, .int b] [] lc_SH M = _
      rw [sg_78_0_0, v_hasMaker0 hM.1.2.2.1 (by omega) h, lc_bk1, sg_78_0_8, if_neg (by decide)]
    · show lc_val 8 138 0 [.ref 43, .int a, .int b] [] lc_SH M = _
      rw [sg_138_0_0, v_isMaker0 hM.1.2.2.1 (by omega) h, lc_bk1, sg_138_0_5, if_neg (by decide)]
