/-! minute, drift -/
def refI (S : aSt) (a : Int32) : Int32 := if a < 1 then -1000000002 else if a ≤ 60 then (if pLn (sP S) = 0 then -1000000003 else 0) else -1000000002
theorem v_exch {d ln : Nat} {M : lc_M} (h : M 9 0 = nI ln) (hl : ln ≤ 3) : lc_val d 31 0 [.ref 9] [] lc_SH M = some (some (.int (if ln = 0 then 0 else 1)), lc_SH, M) := by
  rw [sg_31_1_0, h]
  by_cases e : ln = 0
  · rw [if_pos e, e, if_pos (by decide)]
  · rw [if_neg e, if_neg (nI_nle (by omega) (by omega))]
theorem v_refC {tb pb d : Nat} {a : Int32} {S : aSt} {M : lc_M} (hv : vStG tb pb S) (htb : tb ≤ 5000) (hM : repC S M) : lc_val (d + 1) 110 0 [.ref 0, .int a] [] lc_SH M = some (some (.int (refI S a)), lc_SH, M) := by
  have hT := hv.2.1.1
  unfold refI
  rw [sg_110_0_0]
  by_cases h1 : a < 1
  · rw [if_pos h1, if_pos h1]
  · rw [if_neg h1, if_neg h1, lc_it_val, sg_110_0_5]
    by_cases h2 : a ≤ 60
    · rw [if_pos h2, if_pos h2, v_exch hM.1.1 (lnC hv), lc_bk1, sg_110_0_21]
      by_cases h3 : pLn (sP S) = 0
      · rw [if_pos h3, if_pos h3, if_neg (fun z => z rfl)]
      · rw [if_neg h3, if_neg h3, if_pos (by decide), lc_it_val, sg_110_0_27, show M 16 1 = nI (rT (sR S)) from hM.2.1.1, if_pos (show nI (rT (sR S)) ≤ 90000 from nI_le (b := 90000) (by omega) (by decide))]
    · rw [if_neg h2, if_neg h2]
theorem v_refM {tb pb d : Nat} {a : Int32} {S : aSt} {M : lc_M} (hv : vStG tb pb S) (htb : tb ≤ 5000) (hM : repM S M) : lc_val (d + 1) 150 0 [.ref 43, .int a] [] lc_SH M = some (some (.int (refI S a)), lc_SH, M) := by
  have hT := hv.2.1.1
  have hl := lnC hv
  unfold refI
  rw [sg_150_0_0]
  by_cases h1 : a < 1
  · rw [if_pos h1, v_in0 (Or.inl (by rw [show (1 : Int64).toInt = 1 by decide]; rw [Int32.lt_iff_toInt_lt] at h1; exact h1)), lc_bk1, sg_150_0_9, if_neg (by decide), sg_150_0_12]
  · have h1' : 1 ≤ a.toInt := by rw [Int32.lt_iff_toInt_lt, show (1 : Int32).toInt = 1 by decide] at h1; omega
    rw [if_neg h1]
    by_cases h2 : a ≤ 60
    · rw [if_pos h2, v_in1 (by rw [show (1 : Int64).toInt = 1 by decide]; exact h1') (by rw [show (60 : Int64).toInt = 60 by decide]; rw [Int32.le_iff_toInt_le, show (60 : Int32).toInt = 60 by decide] at h2; exact h2), lc_bk1, sg_150_0_9, if_pos (by decide), sg_150_0_17, show M 43 2 = nI (pLn (sP S)) from hM.1.1]
      by_cases h3 : pLn (sP S) = 0
      · rw [if_pos h3, h3, if_neg (fun z => z rfl), sg_150_0_24]
      · rw [if_neg h3, if_pos (nI_ne0 (by omega) (by omega)), sg_150_0_29, show M 44 28 = nI (rT (sR S)) from hM.2.1.2.2.2.2, if_pos (show nI (rT (sR S)) ≤ 90000 from nI_le (b := 90000) (by omega) (by decide))]
    · rw [if_neg h2, v_in0 (Or.inr (by rw [show (60 : Int64).toInt = 60 by decide]; rw [Int32.le_iff_toInt_le, show (60 : Int32).toInt = 60 by decide] at h2; omega)), lc_bk1, sg_150_0_9, if_neg (by decide), sg_150_0_12]
/-- what the refusal says -/
theorem ref_cases (S : aSt) (a : Int32) : (refI S a = 0 ∧ ∃ k : Nat, k ≤ 60 ∧ a = nI k) ∨ (¬ refI S a = 0 ∧ ¬ 0 ≤ refI S a) := by
  unfold refI
  by_cases h1 : a < 1
  · rw [if_pos h1]; right; decide
  · rw [if_neg h1]
    by_cases h2 : a ≤ 60
    · rw [if_pos h2]
      by_cases h3 : pLn (sP S) = 0
      · rw [if_pos h3]; right; decide
      · rw [if_neg h3]; left
        refine ⟨rfl, nI_of2 (M := 60) rfl (fun z => h1 ?_) h2⟩
        rw [Int32.lt_iff_toInt_lt] at z ⊢
        rw [show (1 : Int32).toInt = 1 by decide]; rw [show (0 : Int32).toInt = 0 by decide] at z
        omega
    · rw [if_neg h2]; right; decide
def iterS (g : aSt → aSt) : Nat → aSt → aSt
  | 0, S => S
  | k + 1, S => iterS g k (g S)
def doneI (S : aSt) : Int32 := nI (bs (wayB (sR S) 2) (pNx (sP S)))
theorem v_doneM {tb pb d : Nat} {S : aSt} {M : lc_M} (hv : vStG tb pb S) (hM : repM S M) : lc_val (d + 1) 134 0 [.ref 43, .int 0, .int 2, .null, .null] [] lc_SH M = some (some (.int (doneI S)), lc_SH, M) := v_inWay0 (w := 2) hM.1.2.2.2.1 hv.1.2.2.2.1 hv.2.1.2.1 hM.2.1 (by decide)
theorem vStG_iter {g : aSt → aSt} (hg : ∀ tb pb S, vStG tb pb S → vStG (tb + 1) (pb + 15840) (g S)) : ∀ (k tb pb : Nat) (S : aSt), vStG tb pb S → vStG (tb + k) (pb + 15840 * k) (iterS g k S)
  | 0, _, _, _, h => h
  | k + 1, tb, pb, S, h => by
    have := vStG_iter hg k (tb + 1) (pb + 15840) (g S) (hg tb pb S h)
    rw [show tb + (k + 1) = tb + 1 + k by omega, show pb + 15840 * (k + 1) = pb + 15840 + 15840 * k by rw [Nat.mul_succ]; omega]
    exact this
theorem v_minC {d a : Nat} {x2 : Int32} (ha : a ≤ 60) : ∀ (k j tb pb : Nat) (S : aSt) (M : lc_M), j + k = a → vStG tb pb S → tb + k ≤ 5000 → repC S M → ∃ M', lc_val (d + 5) 82 14 [.ref 0, .int (nI a), .int x2, .int (nI j)] [] lc_SH M = some (some (.int (doneI (iterS passS k S))), lc_SH, M') ∧ repC (iterS passS k S) M' ∧ ∀ c, 43 ≤ c → M' c = M c
  | 0, j, tb, pb, S, M, h, hv, htb, hM => by
    refine ⟨M, ?_, hM, fun _ _ => rfl⟩
    rw [sg_82_0_14, if_pos (nI_le (by omega) (by omega)), show M 16 3 = doneI S from dn_bs hM.2.1]
    rfl
  | k + 1, j, tb, pb, S, M, h, hv, htb, hM => by
    obtain ⟨M1, f1, f2, f3⟩ := v_passMinC (d := d) hv (by omega) hM
    obtain ⟨M', e1, e2, e3⟩ := v_minC (d := d) (x2 := x2) ha k (j + 1) (tb + 1) (pb + 15840) (passS S) M1 (by omega) (vStG_pass hv) (by omega) f2
    refine ⟨M', ?_, e2, fun c hc => by rw [e3 c hc, f3 c hc]⟩
    rw [sg_82_0_14, if_neg (nI_ge (by omega) (by omega)), lc_it_val, f1, lc_bk0, sg_82_0_23, nI_1]
    exact e1
theorem v_minM {d a : Nat} (ha : a ≤ 60) : ∀ (k j tb pb : Nat) (S : aSt) (M : lc_M), j + k = a → vStG tb pb S → tb + k ≤ 5000 → repM S M → ∃ M', lc_val (d + 3) 151 16 [.ref 43, .int (nI a), .int (nI j)] [] lc_SH M = some (some (.int (doneI (iterS passS k S))), lc_SH, M') ∧ repM (iterS passS k S) M' ∧ ∀ c, c < 43 → M' c = M c
  | 0, j, tb, pb, S, M, h, hv, htb, hM => by
    refine ⟨M, ?_, hM, fun _ _ => rfl⟩
    rw [sg_151_0_16, if_pos (nI_le (by omega) (by omega)), v_doneM hv hM, lc_bk1, sg_151_0_42]
    rfl
  | k + 1, j, tb, pb, S, M, h, hv, htb, hM => by
    obtain ⟨M0, q1, q2, q3, _⟩ := v_remM (d := d + 1) hv.1.2.2.2.1 hv.2.2.1.1 hM
    obtain ⟨M1, f1, f2, f3⟩ := v_passM0 (d := d) (vStG_rem hv) (by omega) q2
    obtain ⟨M', e1, e2, e3⟩ := v_minM (d := d) ha k (j + 1) (tb + 1) (pb + 15840) (passS S) M1 (by omega) (vStG_pass hv) (by omega) f2
    refine ⟨M', ?_, e2, fun c hc => by rw [e3 c hc, f3 c (by omega) (by omega), q3 c (by omega) (by omega)]⟩
    rw [sg_151_0_16, if_neg (nI_ge (by omega) (by omega)), lc_it_val, q1, lc_bk0, sg_151_0_25, f1, lc_bk0, sg_151_0_30, nI_1]
    exact e1
theorem op_minute (a : Int32) : opOK 82 151 [.int a] := by
  intro n S hn hv0
  have hv := vSt_G.mp hv0
  rcases ref_cases S a with ⟨hr, k, hk, rfl⟩ | ⟨hr, hr'⟩
  · refine ⟨doneI (iterS passS k S), iterS passS k S, vSt_G.mpr (vStG_mono (by omega) (by omega) (vStG_iter (fun _ _ _ h => vStG_pass h) k _ _ S hv)), fun M hM => ?_, fun M hM => ?_⟩
    · obtain ⟨M', e1, e2, e3⟩ := v_minC (d := 3) (x2 := 0) hk k 0 _ _ S M (by omega) hv (by omega) hM
      refine ⟨M', ?_, e2, e3⟩
      show lc_val 8 82 0 [.ref 0, .int (nI k), .null, .null] [] lc_SH M = _
      rw [sg_82_0_0, v_refC hv (by omega) hM, lc_bk1, sg_82_0_5, hr, if_pos rfl]
      exact e1
    · obtain ⟨M', e1, e2, e3⟩ := v_minM (d := 5) hk k 0 _ _ S M (by omega) hv (by omega) hM
      refine ⟨M', ?_, e2, e3⟩
      show lc_val 8 151 0 [.ref 43, .int (nI k), .null] [] lc_SH M = _
      rw [sg_151_0_0, v_refM hv (by omega) hM, lc_bk1, sg_151_0_5, hr, if_pos (by decide), lc_it_val]
      exact e1
  · refine ⟨refI S a, S, vSt_up hv0, fun M hM => ⟨M, ?_, hM, fun _ _ => rfl⟩, fun M hM => ⟨M, ?_, hM, fun _ _ => rfl⟩⟩
    · show lc_val 8 82 0 [.ref 0, .int a, .null, .null] [] lc_SH M = _
      rw [sg_82_0_0, v_refC hv (by omega) hM, lc_bk1, sg_82_0_5, if_neg hr]
    · show lc_val 8 151 0 [.ref 43, .int a, .null] [] lc_SH M = _
      rw [sg_151_0_0, v_refM hv (by omega) hM, lc_bk1, sg_151_0_5, if_neg hr', v_refM hv (by omega) hM, lc_bk1, sg_151_0_13]
/-! drift -/
/-- held so that nothing unfolds it -/
noncomputable def drawN (s : Nat) : Nat := Classical.choose (show ∃ y, y = (s * 1103515245 + 12345) % 2147483648 from ⟨_, rfl⟩)
theorem drawN_eq (s : Nat) : drawN s = (s * 1103515245 + 12345) % 2147483648 := Classical.choose_spec (show ∃ y, y = (s * 1103515245 + 12345) % 2147483648 from ⟨_, rfl⟩)
noncomputable def pickN (s nx : Nat) : Nat := (drawN s / 65536) % (nx + 1)
noncomputable def seedS (S : aSt) : aSt := stW S (sR S) (sU S) (sI S) (drawN (sS S))
noncomputable def choS (S : aSt) : aSt := if pickN (sS S) (pNx (sP S)) < pNx (sP S) ∧ canB (sP S) (sR S) (pLn (sP S)) (pickN (sS S) (pNx (sP S))) = true then ringS (seedS S) (pickN (sS S) (pNx (sP S))) else seedS S
noncomputable def driftS (S : aSt) : aSt := passS (choS S)
theorem drawN_lt (s : Nat) : drawN s < 2147483648 := by
  rw [drawN_eq]
  exact Nat.mod_lt _ (by decide)
theorem vStG_seed {tb pb : Nat} {S : aSt} (h : vStG tb pb S) : vStG tb pb (seedS S) := by
  obtain ⟨v1, v2, v3, v4, v5, v6, v7, _⟩ := h
  exact ⟨v1, v2, v3, v4, v5, v6, v7, drawN_lt _⟩
theorem vStG_cho {tb pb : Nat} {S : aSt} (h : vStG tb pb S) : vStG tb pb (choS S) := by
  unfold choS
  by_cases e : pickN (sS S) (pNx (sP S)) < pNx (sP S) ∧ canB (sP S) (sR S) (pLn (sP S)) (pickN (sS S) (pNx (sP S))) = true
  · rw [if_pos e]; exact vStG_ring (S := seedS S) (vStG_seed h) e.1 e.2
  · rw [if_neg e]; exact vStG_seed h
theorem draw32 (s : Nat) : (nI s * 1103515245 + 12345) &&& 2147483647 = nI (drawN s) := by
  rw [show nI s * 1103515245 = nI (s * 1103515245) from pk_mul s 1103515245, show nI (s * 1103515245) + 12345 = nI (s * 1103515245 + 12345) from nI_add _ 12345, show (2147483647 : Int32) = nI (2 ^ 31 - 1) from rfl, nI_and, Nat.and_two_pow_sub_one_eq_mod]
  exact congrArg nI (drawN_eq s).symm
theorem draw64 {s : Nat} (h : s < 2147483648) : Int64.toInt32 ((((Int32.toInt64 (nI s)) * 1103515245) + 12345) - (((Int32.toInt64 (nI s)) * 1103515245) + 12345) / 2147483648 * 2147483648) = nI (drawN s) := by
  rw [nI_l (by omega), show lN s * 1103515245 = lN (s * 1103515245) from lN_mul s 1103515245, show lN (s * 1103515245) + 12345 = lN (s * 1103515245 + 12345) from lN_add _ 12345, show lN (s * 1103515245 + 12345) / 2147483648 = lN ((s * 1103515245 + 12345) / 2147483648) from (Int64.ofNat_div (by omega) (by decide)).symm, show lN ((s * 1103515245 + 12345) / 2147483648) * 2147483648 = lN ((s * 1103515245 + 12345) / 2147483648 * 2147483648) from lN_mul _ 2147483648, lN_sub (Nat.div_mul_le_self _ _), lN_i]
  refine congrArg nI ?_
  have := Nat.div_add_mod (s * 1103515245 + 12345) 2147483648
  rw [drawN_eq]
  omega
theorem pick32 {s nx : Nat} (hx : nx ≤ 8) : (nI (drawN s) / 65536) - (nI (drawN s) / 65536) / nI (nx + 1) * nI (nx + 1) = nI (pickN s nx) := by
  have hd := drawN_lt s
  have h1 : nI (drawN s) / 65536 = nI (drawN s / 65536) := (Int32.ofNat_div (by omega) (by decide)).symm
  have hq : drawN s / 65536 < 32768 := Nat.div_lt_of_lt_mul (by omega)
  rw [h1, show nI (drawN s / 65536) / nI (nx + 1) = nI (drawN s / 65536 / (nx + 1)) from (Int32.ofNat_div (by omega) (by omega)).symm, pk_mul, show nI (drawN s / 65536) - nI (drawN s / 65536 / (nx + 1) * (nx + 1)) = nI (drawN s / 65536 - drawN s / 65536 / (nx + 1) * (nx + 1)) from (Int32.ofNat_sub _ _ (Nat.div_mul_le_self _ _)).symm]
  refine congrArg nI ?_
  unfold pickN
  have := Nat.div_add_mod (drawN s / 65536) (nx + 1)
  rw [Nat.mul_comm] at this
  omega
theorem v_drawC {tb pb d : Nat} {S : aSt} {M : lc_M} (hv : vStG tb pb S) (hM : repC S M) : ∃ M', lc_val d 111 0 [.ref 0, .int (M 9 3 + 1)] [] lc_SH M = some (some (.int (nI (pickN (sS S) (pNx (sP S))))), lc_SH, M') ∧ repC (seedS S) M' ∧ ∀ c, 43 ≤ c → M' c = M c := by
  have hnx := hv.1.2.2.2.1
  have hs : M 0 11 = nI (sS S) := hM.2.2.2.2.2.2.2.2
  refine ⟨lc_up M 0 11 (nI (drawN (sS S))), ?_, ?_, fun c hc => up_ne (by omega)⟩
  · rw [show M 9 3 = nI (pNx (sP S)) from hM.1.2.2.2.1, nI_1, sg_111_0_0, if_neg (nI_nle (by omega) (by omega)), lc_it_val, hs, draw32, sg_111_0_24, if_neg (nI_ne0 (by omega) (by omega)), up_at, if_pos rfl, if_pos rfl, pick32 hnx]
  · refine repC_W hM (fun c hc => up_ne (by omega)) ?_ ?_ ?_ ?_
    · rw [up_ne (c := 16) (by decide), up_ne (c := 17) (by decide), up_ne (c := 18) (by decide), up_ne (c := 19) (by decide)]; exact hM.2.1
    · rw [up_ne (c := 20) (by decide), up_ne (c := 21) (by decide)]; exact hM.2.2.1
    · rw [up_ne (c := 22) (by decide), up_ne (c := 23) (by decide), up_ne (c := 24) (by decide)]; exact hM.2.2.2.1
    · rw [up_at, if_pos rfl, if_pos rfl]
theorem v_drawM {tb pb d : Nat} {S : aSt} {M : lc_M} (hv : vStG tb pb S) (hM : repM S M) : ∃ M', lc_val d 153 0 [.ref 43, .int (M 43 5 + 1)] [] lc_SH M = some (some (.int (nI (pickN (sS S) (pNx (sP S))))), lc_SH, M') ∧ repM (seedS S) M' ∧ ∀ c, c ≠ 44 → M' c = M c := by
  have hnx := hv.1.2.2.2.1
  have hs : M 44 29 = nI (sS S) := hM.2.2.2.2.2.2.2.2
  have hlt := hv.2.2.2.2.2.2.2
  have at44 : ∀ j, j ≠ 29 → lc_up M 44 29 (nI (drawN (sS S))) 44 j = M 44 j := fun j hj => by rw [up_at, if_pos rfl, if_neg hj]
  refine ⟨lc_up M 44 29 (nI (drawN (sS S))), ?_, ?_, fun c hc => up_ne hc⟩
  · rw [show M 43 5 = nI (pNx (sP S)) from hM.1.2.2.2.1, nI_1, sg_153_0_0, hs, draw64 hlt, sg_153_0_28, if_neg (nI_ne0 (by omega) (by omega)), up_at, if_pos rfl, if_pos rfl, pick32 hnx]
  · refine repM_W hM (fun c hc => up_ne (by omega)) (fun k hk => by rw [up_ne (by decide)]) ?_ ⟨?_, fun j t ht => ?_⟩ ⟨fun i hi => ?_, fun i t q hi hq => ?_⟩ ?_
    · exact mRowAt_fr hnx hM.2.1 (fun j a1 a2 => at44 j (by omega))
    · rw [up_ne (by decide)]; exact hM.2.2.1.1
    · exact mRowAt_fr hnx (hM.2.2.1.2 j t ht) (fun j a1 a2 => at44 j (by omega))
    · rw [up_ne (by decide)]; exact hM.2.2.2.1.1 i hi
    · obtain ⟨g1, g2⟩ := hM.2.2.2.1.2 i t q hi hq
      exact ⟨mRowAt_fr hnx g1 (fun j a1 a2 => at44 j (by omega)), by rw [at44 _ (by omega)]; exact g2⟩
    · rw [up_at, if_pos rfl, if_pos rfl]
theorem v_drC {d a : Nat} {x2 : Int32} (ha : a ≤ 60) : ∀ (k j tb pb : Nat) (S : aSt) (M : lc_M) (v4 : Value), j + k = a → vStG tb pb S → tb + k ≤ 5000 → repC S M → ∃ M', lc_val (d + 5) 84 14 [.ref 0, .int (nI a), .int x2, .int (nI j), v4] [] lc_SH M = some (some (.int (doneI (iterS driftS k S))), lc_SH, M') ∧ repC (iterS driftS k S) M' ∧ ∀ c, 43 ≤ c → M' c = M c
  | 0, j, tb, pb, S, M, v4, h, hv, htb, hM => by
    refine ⟨M, ?_, hM, fun _ _ => rfl⟩
    rw [sg_84_0_14, if_pos (nI_le (by omega) (by omega)), show M 16 3 = doneI S from dn_bs hM.2.1]
    rfl
  | k + 1, j, tb, pb, S, M, v4, h, hv, htb, hM => by
    have hnx := hv.1.2.2.2.1
    obtain ⟨M0, q1, q2, q3⟩ := v_drawC (d := d + 4) hv hM
    have hvS := vStG_seed hv
    have hpk : pickN (sS S) (pNx (sP S)) < pNx (sP S) + 1 := Nat.mod_lt _ (by omega)
    have mid : ∃ M1, lc_val (d + 5) 84 14 [.ref 0, .int (nI a), .int x2, .int (nI j), v4] [] lc_SH M = lc_val (d + 5) 84 74 [.ref 0, .int (nI a), .int x2, .int (nI j), .int (nI (pickN (sS S) (pNx (sP S))))] [] lc_SH M1 ∧ repC (choS S) M1 ∧ ∀ c, 43 ≤ c → M1 c = M c := by
      have pre : lc_val (d + 5) 84 14 [.ref 0, .int (nI a), .int x2, .int (nI j), v4] [] lc_SH M = lc_val (d + 5) 84 32 [.ref 0, .int (nI a), .int x2, .int (nI j), v4] [.int (nI (pickN (sS S) (pNx (sP S))))] lc_SH M0 := by
        rw [sg_84_0_14, if_neg (nI_ge (by omega) (by omega)), q1, lc_bk1]
      rw [pre, sg_84_0_32, show M0 9 3 = nI (pNx (sP S)) from q2.1.2.2.2.1]
      unfold choS
      by_cases e1 : pickN (sS S) (pNx (sP S)) < pNx (sP S)
      · have hcan := v_can0 (d := d + 3) (p := sP S) (r := sR S) (x := pickN (sS S) (pNx (sP S))) (ln := pLn (sP S)) q2.1 hv.1 hv.2.1.2.1 q2.2.1 e1 (lnC hv)
        rw [if_neg (nI_ge e1 (by omega)), show M0 9 0 = nI (pLn (sP S)) from q2.1.1, hcan, lc_bk1, sg_84_0_65]
        by_cases e2 : canB (sP S) (sR S) (pLn (sP S)) (pickN (sS S) (pNx (sP S))) = true
        · obtain ⟨M1, f1, f2, f3⟩ := v_beginCallC (d := d + 1) (S := seedS S) hvS q2 e1 (can_parts e2).1
          refine ⟨M1, ?_, by rw [if_pos ⟨e1, e2⟩]; exact f2, fun c hc => by rw [f3 c hc, q3 c hc]⟩
          rw [e2, if_neg (by decide), f1, lc_bk0]
        · refine ⟨M0, ?_, by rw [if_neg (fun z => e2 z.2)]; exact q2, q3⟩
          rw [show canB (sP S) (sR S) (pLn (sP S)) (pickN (sS S) (pNx (sP S))) = false by simpa using e2, if_pos (by decide), lc_it_val]
      · refine ⟨M0, ?_, by rw [if_neg (fun z => e1 z.1)]; exact q2, q3⟩
        rw [if_pos (nI_le (by omega) (by omega)), lc_it_val]
    obtain ⟨M1, f1, f2, f3⟩ := mid
    obtain ⟨M2, g1, g2, g3⟩ := v_passMinC (d := d) (vStG_cho hv) (by omega) f2
    obtain ⟨M', e1, e2, e3⟩ := v_drC (d := d) (x2 := x2) ha k (j + 1) (tb + 1) (pb + 15840) (driftS S) M2 (.int (nI (pickN (sS S) (pNx (sP S))))) (by omega) (vStG_pass (vStG_cho hv)) (by omega) g2
    refine ⟨M', ?_, e2, fun c hc => by rw [e3 c hc, g3 c hc, f3 c hc]⟩
    rw [f1, sg_84_0_74, g1, lc_bk0, sg_84_0_78, nI_1]
    exact e1
theorem v_drM {d a : Nat} (ha : a ≤ 60) : ∀ (k j tb pb : Nat) (S : aSt) (M : lc_M) (v3 : Value), j + k = a → vStG tb pb S → tb + k ≤ 5000 → repM S M → ∃ M', lc_val (d + 3) 154 16 [.ref 43, .int (nI a), .int (nI j), v3] [] lc_SH M = some (some (.int (doneI (iterS driftS k S))), lc_SH, M') ∧ repM (iterS driftS k S) M' ∧ ∀ c, c < 43 → M' c = M c
  | 0, j, tb, pb, S, M, v3, h, hv, htb, hM => by
    refine ⟨M, ?_, hM, fun _ _ => rfl⟩
    rw [sg_154_0_16, if_pos (nI_le (by omega) (by omega)), lc_it_val, v_doneM hv hM, lc_bk1, sg_154_0_84]
    rfl
  | k + 1, j, tb, pb, S, M, v3, h, hv, htb, hM => by
    have hnx := hv.1.2.2.2.1
    obtain ⟨M0, q1, q2, q3⟩ := v_drawM (d := d + 2) hv hM
    have hvS := vStG_seed hv
    have hpk : pickN (sS S) (pNx (sP S)) < pNx (sP S) + 1 := Nat.mod_lt _ (by omega)
    have mid : ∃ M1, lc_val (d + 3) 154 16 [.ref 43, .int (nI a), .int (nI j), v3] [] lc_SH M = lc_val (d + 3) 154 63 [.ref 43, .int (nI a), .int (nI j), .int (nI (pickN (sS S) (pNx (sP S))))] [] lc_SH M1 ∧ repM (choS S) M1 ∧ ∀ c, c < 43 → M1 c = M c := by
      have pre : lc_val (d + 3) 154 16 [.ref 43, .int (nI a), .int (nI j), v3] [] lc_SH M = lc_val (d + 3) 154 31 [.ref 43, .int (nI a), .int (nI j), v3] [.int (nI (pickN (sS S) (pNx (sP S))))] lc_SH M0 := by
        rw [sg_154_0_16, if_neg (nI_ge (by omega) (by omega)), q1, lc_bk1]
      rw [pre, sg_154_0_31, show M0 43 5 = nI (pNx (sP S)) from q2.1.2.2.2.1]
      unfold choS
      by_cases e1 : pickN (sS S) (pNx (sP S)) < pNx (sP S)
      · have hcan := v_canM (d := d) (at0 := 0) (p := sP S) (r := sR S) (x := pickN (sS S) (pNx (sP S))) (ln := pLn (sP S)) q2.1 hv.1 (by decide) hv.2.1.2.1 q2.2.1 e1 (lnC hv)
        rw [if_neg (nI_ge e1 (by omega)), show M0 43 2 = nI (pLn (sP S)) from q2.1.1, show (.int 0 : Value) = .int (nI 0) from rfl, hcan, lc_bk1, sg_154_0_50]
        by_cases e2 : canB (sP S) (sR S) (pLn (sP S)) (pickN (sS S) (pNx (sP S))) = true
        · obtain ⟨M1, f1, f2, f3, _⟩ := v_remM (d := d + 1) (S := seedS S) hnx hvS.2.2.1.1 q2
          obtain ⟨M2, g1, g2, g3, _⟩ := v_ringInM (d := d + 2) (vStG_rem hvS) f2 e1
          refine ⟨M2, ?_, by rw [if_pos ⟨e1, e2⟩]; exact g2, fun c hc => by rw [g3 c (by omega), f3 c (by omega) (by omega), q3 c (by omega)]⟩
          rw [e2, if_neg (by decide), f1, lc_bk0, sg_154_0_57, g1, lc_bk0]
        · refine ⟨M0, ?_, by rw [if_neg (fun z => e2 z.2)]; exact q2, fun c hc => q3 c (by omega)⟩
          rw [show canB (sP S) (sR S) (pLn (sP S)) (pickN (sS S) (pNx (sP S))) = false by simpa using e2, if_pos (by decide), lc_it_val]
      · refine ⟨M0, ?_, by rw [if_neg (fun z => e1 z.1)]; exact q2, fun c hc => q3 c (by omega)⟩
        rw [if_pos (nI_le (by omega) (by omega)), lc_it_val]
    obtain ⟨M1, f1, f2, f3⟩ := mid
    have hvc := vStG_cho hv
    obtain ⟨M2, g1, g2, g3, _⟩ := v_remM (d := d + 1) (S := choS S) hvc.1.2.2.2.1 hvc.2.2.1.1 f2
    obtain ⟨M3, k1, k2, k3⟩ := v_passM0 (d := d) (vStG_rem hvc) (by omega) g2
    obtain ⟨M', e1, e2, e3⟩ := v_drM (d := d) ha k (j + 1) (tb + 1) (pb + 15840) (driftS S) M3 (.int (nI (pickN (sS S) (pNx (sP S))))) (by omega) (vStG_pass hvc) (by omega) k2
    refine ⟨M', ?_, e2, fun c hc => by rw [e3 c hc, k3 c (by omega) (by omega), g3 c (by omega) (by omega), f3 c hc]⟩
    rw [f1, sg_154_0_63, g1, lc_bk0, sg_154_0_67, k1, lc_bk0, sg_154_0_72, nI_1]
    exact e1
theorem op_drift (a : Int32) : opOK 84 154 [.int a] := by
  intro n S hn hv0
  have hv := vSt_G.mp hv0
  rcases ref_cases S a with ⟨hr, k, hk, rfl⟩ | ⟨hr, hr'⟩
  · refine ⟨doneI (iterS driftS k S), iterS driftS k S, vSt_G.mpr (vStG_mono (by omega) (by omega) (vStG_iter (fun _ _ _ h => vStG_pass (vStG_cho h)) k _ _ S hv)), fun M hM => ?_, fun M hM => ?_⟩
    · obtain ⟨M', e1, e2, e3⟩ := v_drC (d := 3) (x2 := 0) hk k 0 _ _ S M .null (by omega) hv (by omega) hM
      refine ⟨M', ?_, e2, e3⟩
      show lc_val 8 84 0 [.ref 0, .int (nI k), .null, .null, .null] [] lc_SH M = _
      rw [sg_84_0_0, v_refC hv (by omega) hM, lc_bk1, sg_84_0_5, hr, if_pos rfl]
      exact e1
    · obtain ⟨M', e1, e2, e3⟩ := v_drM (d := 5) hk k 0 _ _ S M .null (by omega) hv (by omega) hM
      refine ⟨M', ?_, e2, e3⟩
      show lc_val 8 154 0 [.ref 43, .int (nI k), .null, .null] [] lc_SH M = _
      rw [sg_154_0_0, v_refM hv (by omega) hM, lc_bk1, sg_154_0_5, hr, if_pos (by decide), lc_it_val]
      exact e1
  · refine ⟨refI S a, S, vSt_up hv0, fun M hM => ⟨M, ?_, hM, fun _ _ => rfl⟩, fun M hM => ⟨M, ?_, hM, fun _ _ => rfl⟩⟩
    · show lc_val 8 84 0 [.ref 0, .int a, .null, .null, .null] [] lc_SH M = _
      rw [sg_84_0_0, v_refC hv (by omega) hM, lc_bk1, sg_84_0_5, if_neg hr]
    · show lc_val 8 154 0 [.ref 43, .int a, .null, .null] [] lc_SH M = _
      rw [sg_154_0_0, v_refM hv (by omega) hM, lc_bk1, sg_154_0_5, if_neg hr', v_refM hv (by omega) hM, lc_bk1, sg_154_0_13]
