/-! window, ears, strange -/
def keepC (c : Nat) : Prop := c ≤ 2 ∨ (9 ≤ c ∧ c ≤ 24) ∨ (33 ≤ c ∧ c ≤ 38)
theorem repC_fr {S : aSt} {M M' : lc_M} (h : repC S M) (e : ∀ c, keepC c → M' c = M c) : repC S M' := by
  unfold repC at h ⊢
  rw [e 9 (by unfold keepC; omega), e 10 (by unfold keepC; omega), e 11 (by unfold keepC; omega), e 12 (by unfold keepC; omega), e 13 (by unfold keepC; omega), e 14 (by unfold keepC; omega), e 16 (by unfold keepC; omega), e 17 (by unfold keepC; omega), e 18 (by unfold keepC; omega), e 19 (by unfold keepC; omega), e 20 (by unfold keepC; omega), e 21 (by unfold keepC; omega), e 22 (by unfold keepC; omega), e 23 (by unfold keepC; omega), e 24 (by unfold keepC; omega), e 1 (by unfold keepC; omega), e 2 (by unfold keepC; omega), e 33 (by unfold keepC; omega), e 34 (by unfold keepC; omega), e 35 (by unfold keepC; omega), e 36 (by unfold keepC; omega), e 37 (by unfold keepC; omega), e 38 (by unfold keepC; omega), e 0 (by unfold keepC; omega)]
  exact h
theorem mRowAt_fr {p : aPat} {r : aRow} {f g : Nat → Int32} {b : Nat} (hx : pNx p ≤ 8) (h : mRowAt p r f b) (e : ∀ j, b ≤ j → j ≤ b + 28 → g j = f j) : mRowAt p r g b := by
  obtain ⟨q1, q2, q3, q4, q5⟩ := h
  exact ⟨fun m hm => by rw [e _ (by omega) (by omega)]; exact q1 m hm, fun m hm => by rw [e _ (by omega) (by omega)]; exact q2 m hm, fun x hx => by rw [e _ (by omega) (by omega)]; exact q3 x hx, fun x hx => by rw [e _ (by omega) (by omega)]; exact q4 x hx, by rw [e _ (by omega) (by omega)]; exact q5⟩
/-- the reference's scratch: the row that is tried, orders, what is read, what is known -/
theorem repM_fr {S : aSt} {M M' : lc_M} (hx : pNx (sP S) ≤ 8) (h : repM S M) (e : ∀ c, 45 ≤ c → c ≤ 51 → M' c = M c) (e2 : ∀ c, c = 54 ∨ c = 55 ∨ c = 57 ∨ c = 58 → M' c = M c) (e3 : ∀ k, k = 2 ∨ k = 3 ∨ k = 4 ∨ k = 5 ∨ k = 16 ∨ k = 20 ∨ k = 22 ∨ k = 28 ∨ k = 32 → M' 43 k = M 43 k) (e4 : ∀ j, (j < 30 ∨ 60 ≤ j) → M' 44 j = M 44 j) : repM S M' := by
  obtain ⟨h1, h2, h3, h4, h5, h6, h7, h8, h9⟩ := h
  refine ⟨?_, ?_, ⟨?_, ?_⟩, ⟨?_, ?_⟩, ⟨?_, ?_⟩, ?_, ?_, ?_, ?_⟩
  · rw [e 46 (by decide) (by decide), e 47 (by decide) (by decide), e 48 (by decide) (by decide), e 49 (by decide) (by decide), e 50 (by decide) (by decide)]
    obtain ⟨q1, q2, q3, q4, q5⟩ := h1
    exact ⟨(e3 2 (by decide)).trans q1, (e3 3 (by decide)).trans q2, (e3 4 (by decide)).trans q3, (e3 5 (by decide)).trans q4, q5⟩
  · exact mRowAt_fr hx h2 (fun j _ hj => e4 j (by omega))
  · rw [e3 22 (by decide)]; exact h3.1
  · exact fun j r hj => mRowAt_fr hx (h3.2 j r hj) (fun i _ _ => e4 i (by omega))
  · rw [e 45 (by decide) (by decide)]; exact h4.1
  · exact fun i r q hi hq => ⟨mRowAt_fr hx (h4.2 i r q hi hq).1 (fun j _ _ => e4 j (by omega)), by rw [e4 _ (by omega)]; exact (h4.2 i r q hi hq).2⟩
  · rw [e3 16 (by decide)]; exact h5.1
  · rw [e 51 (by decide) (by decide)]; exact h5.2
  · rw [e3 20 (by decide)]; exact h6
  · rw [e3 28 (by decide), e2 54 (by decide), e2 55 (by decide)]; exact h7
  · rw [e3 32 (by decide), e2 57 (by decide), e2 58 (by decide)]; exact h8
  · rw [e4 29 (by decide)]; exact h9
theorem nI_self (s : Int32) : s = nI s.toBitVec.toNat := by
  apply Int32.toBitVec_inj.mp
  rw [bv_nI, BitVec.ofNat_toNat]
  simp
theorem nI_zero_iff {a : Nat} (h : a < 2 ^ 32) : nI a = 0 ↔ a = 0 := by
  refine ⟨fun q => ?_, fun q => by rw [q]; rfl⟩
  have := congrArg (fun z : Int32 => z.toBitVec.toNat) q
  rw [show (nI a).toBitVec.toNat = a from pk_tn h] at this
  exact this
theorem setck (s : Int32) {n : Nat} (hn : n ≤ 8) : (s &&& (nI (2 ^ n - 1) ^^^ (-1))) = 0 ↔ vp_in s (2 ^ n) := by
  have hp : 2 ^ n ≤ 256 := Nat.pow_le_pow_right (n := 2) (by decide) hn
  have hu : s.toBitVec.toNat < 2 ^ 32 := s.toBitVec.isLt
  generalize hue : s.toBitVec.toNat = u at hu
  have hs : s = nI u := by rw [← hue]; exact nI_self s
  subst hs
  rw [nI_m1, nI_xor, nI_and, nI_zero_iff (Nat.lt_of_le_of_lt Nat.and_le_left hu), show 4294967295 = 2 ^ 32 - 1 by decide]
  constructor
  · intro h
    refine vp_in_nI (Nat.lt_pow_two_of_testBit u (fun i hi => ?_)) (by omega)
    by_cases h32 : i < 32
    · have hb := congrArg (fun z => Nat.testBit z i) h
      simp only [Nat.testBit_and, Nat.testBit_xor, full_bit, Nat.zero_testBit] at hb
      have h1 : ¬ i < n := by omega
      simpa [h1, h32] using hb
    · exact Nat.testBit_lt_two_pow (Nat.lt_of_lt_of_le hu (Nat.pow_le_pow_right (by decide) (by omega)))
  · intro h
    obtain ⟨j, hj, ej⟩ := vp_in_of h (by omega)
    have huj : u = j := by
      have := congrArg (fun z : Int32 => z.toBitVec.toNat) ej
      rw [show (nI u).toBitVec.toNat = u from pk_tn hu, show (nI j).toBitVec.toNat = j from pk_tn (by omega)] at this
      exact this
    subst huj
    apply Nat.eq_of_testBit_eq
    intro i
    rw [Nat.testBit_and, Nat.testBit_xor, full_bit, full_bit, Nat.zero_testBit]
    by_cases hi : i < n
    · have h32 : i < 32 := by omega
      simp [hi, h32]
    · rw [Nat.testBit_lt_two_pow (Nat.lt_of_lt_of_le hj (Nat.pow_le_pow_right (by decide) (by omega)))]
      rfl
theorem earsC {S : aSt} {n : Nat} {M : lc_M} (hv : vSt n S) (hM : repC S M) : ∀ m, m < pNm (sP S) → M 10 m = nI (pEar (sP S) m) ∧ pEar (sP S) m ≤ 2 := fun m hm => ⟨hM.1.2.2.2.2.1 m hm, hv.1.2.2.2.2.2.1 m hm⟩
theorem earsM {S : aSt} {n : Nat} {M : lc_M} (hv : vSt n S) (hM : repM S M) : ∀ m, m < pNm (sP S) → M 46 m = nI (pEar (sP S) m) ∧ pEar (sP S) m ≤ 2 := fun m hm => ⟨hM.1.2.2.2.2.1 m hm, hv.1.2.2.2.2.2.1 m hm⟩
theorem repC_31 {S : aSt} {M M' : lc_M} (h : repC S M) (e : ∀ c, c ≠ 31 → M' c = M c) : repC S M' := repC_fr h (fun c hc => e c (by unfold keepC at hc; omega))
theorem repM_44 {S : aSt} {M M' : lc_M} (hx : pNx (sP S) ≤ 8) (h : repM S M) (e : ∀ c, c ≠ 44 → M' c = M c) (e4 : ∀ j, (j < 30 ∨ 36 ≤ j) → M' 44 j = M 44 j) : repM S M' := repM_fr hx h (fun c h1 h2 => e c (by omega)) (fun c hc => e c (by omega)) (fun k _ => by rw [e 43 (by decide)]) (fun j hj => e4 j (by omega))
theorem op_window (a b : Int32) : opOK 89 168 [.int a, .int b] := by
  refine opOK_const (fun n S hn hv => ?_)
  have hnm : pNm (sP S) ≤ 6 := hv.1.2.2.1
  have hnx : pNx (sP S) ≤ 8 := hv.1.2.2.2.1
  have hp256 : 2 ^ pNx (sP S) ≤ 256 := Nat.pow_le_pow_right (n := 2) (by decide) hnx
  have hpos : 0 < 2 ^ pNx (sP S) := Nat.pos_of_ne_zero (by simp)
  have hhi : (Int32.toInt64 (nI (2 ^ pNx (sP S) - 1))).toInt = ((2 ^ pNx (sP S) - 1 : Nat) : Int) := by rw [Int32.toInt_toInt64, nI_toInt (by omega)]
  by_cases h : vp_in a (pNm (sP S))
  · obtain ⟨m, hm, rfl⟩ := vp_in_of h (by omega)
    by_cases hb : vp_in b (2 ^ pNx (sP S))
    · obtain ⟨s, hs, rfl⟩ := vp_in_of hb (by omega)
      have hb' := vp_in_iff.mp hb
      refine ⟨nI (layP (sP S) (pEar (sP S)) s (pNx (sP S)) m), fun M hM => ?_, fun M hM => ?_⟩
      · obtain ⟨M', e1, e2, e3⟩ := v_lay0 (d := 4) hv.1 (s := s) (by omega) hM.1 (earsC hv hM)
        refine ⟨M', ?_, repC_31 hM e2, fun c hc => e2 c (by omega)⟩
        show lc_val 8 89 0 [.ref 0, .int (nI m), .int (nI s)] [] lc_SH M = _
        rw [sg_89_0_0, v_hasMaker1 hM.1.2.2.1 (by omega) h, lc_bk1, sg_89_0_8, if_neg (by decide), sg_34_0_0, hM.1.2.2.2.1, full_b _ hnx, lc_bk1, sg_89_0_19, if_pos ((setck (nI s) hnx).mpr hb), sg_70_0_0, e1, lc_bk0, sg_70_0_12, lc_bk0, sg_89_0_36, if_pos (nI_in (by omega) (by decide)), nI_clamp (by omega), e3 m (by omega)]
      · obtain ⟨M', e1, e2, e3, e4⟩ := v_layM (d := 5) hv.1 (s := s) (by omega) (mPat_3 hM.1) (earsM hv hM)
        refine ⟨M', ?_, repM_44 hnx hM e2 e3, fun c hc => e2 c (by omega)⟩
        have h5 : M 43 5 = nI (pNx (sP S)) := hM.1.2.2.2.1
        show lc_val 8 168 0 [.ref 43, .int (nI m), .int (nI s)] [] lc_SH M = _
        rw [sg_168_0_0, v_isMaker1 hM.1.2.2.1 (by omega) h, lc_bk1, sg_168_0_5, if_neg (by decide), h5, full_b _ hnx, v_in1 (by rw [L0]; omega) (by rw [hhi]; omega), lc_bk1, sg_168_0_23, if_pos (by decide), e1, lc_bk0, sg_168_0_34, show (30 : Int32) = nI 30 from rfl, nI_add, if_pos (nI_in (by omega) (by decide)), nI_clamp (by omega), e4 m (by omega)]
    · have hb' := hb
      rw [vp_in_iff] at hb'
      refine ⟨-1000000001, fun M hM => ⟨M, ?_, hM, fun _ _ => rfl⟩, fun M hM => ⟨M, ?_, hM, fun _ _ => rfl⟩⟩
      · show lc_val 8 89 0 [.ref 0, .int (nI m), .int b] [] lc_SH M = _
        rw [sg_89_0_0, v_hasMaker1 hM.1.2.2.1 (by omega) h, lc_bk1, sg_89_0_8, if_neg (by decide), sg_34_0_0, hM.1.2.2.2.1, full_b _ hnx, lc_bk1, sg_89_0_19, if_neg (fun q => hb ((setck b hnx).mp q))]
      · have h5 : M 43 5 = nI (pNx (sP S)) := hM.1.2.2.2.1
        show lc_val 8 168 0 [.ref 43, .int (nI m), .int b] [] lc_SH M = _
        rw [sg_168_0_0, v_isMaker1 hM.1.2.2.1 (by omega) h, lc_bk1, sg_168_0_5, if_neg (by decide), h5, full_b _ hnx, v_in0 (by rw [L0, hhi]; omega), lc_bk1, sg_168_0_23, if_neg (by decide)]
  · refine ⟨-1000000001, fun M hM => ⟨M, ?_, hM, fun _ _ => rfl⟩, fun M hM => ⟨M, ?_, hM, fun _ _ => rfl⟩⟩
    · show lc_val 8 89 0 [.ref 0, .int a, .int b] [] lc_SH M = _
      rw [sg_89_0_0, v_hasMaker0 hM.1.2.2.1 (by omega) h, lc_bk1, sg_89_0_8, if_pos (by decide)]
    · show lc_val 8 168 0 [.ref 43, .int a, .int b] [] lc_SH M = _
      rw [sg_168_0_0, v_isMaker0 hM.1.2.2.1 (by omega) h, lc_bk1, sg_168_0_5, if_pos (by decide)]
/-- the class and the reference ask whether all lies so -/
theorem liesC {S : aSt} {n d : Nat} {M : lc_M} {pin : Nat → Nat} (hv : vSt n S) (h7 : cNotes (sL S) (M 33) (M 34) (M 35)) (hp : ∀ m, m < 6 → M 31 m = nI (pin m) ∧ pin m < 6) : lc_val d 27 0 [.ref 33, .ref 31, .null] [] lc_SH M = some (some (.int (foI pin (sL S) 0)), lc_SH, M) := by
  have hL := hv.2.2.2.2.2.1
  have hnm := hv.1.2.2.1
  rw [sg_27_0_0]
  exact v_foLie (d := d) h7.1 (by omega) (fun j x y hj => ⟨(h7.2 j x y hj).1, (h7.2 j x y hj).2, by have := (hL.2 _ (List.mem_of_getElem? hj)).1; dsimp only at this; omega, by have := (hL.2 _ (List.mem_of_getElem? hj)).2; dsimp only at this; omega⟩) hp (sL S) 0 rfl (Nat.zero_le _)
theorem liesM {S : aSt} {n d : Nat} {M : lc_M} {pin : Nat → Nat} (hv : vSt n S) (h7 : mNotes (sL S) (M 43 28) (M 54) (M 55)) (hp : ∀ m, m < 6 → M 44 (30 + m) = nI (pin m) ∧ pin m < 6) : lc_val d 175 0 [.ref 43, .null, .null] [] lc_SH M = some (some (.int (if soB pin (sL S) = true then 1 else 0)), lc_SH, M) := by
  have hL := hv.2.2.2.2.2.1
  have hnm := hv.1.2.2.1
  rw [sg_175_0_0]
  exact v_soM (d := d) h7.1 hL.1 (fun j x y hj => ⟨(h7.2 j x y hj).1, (h7.2 j x y hj).2, by have := (hL.2 _ (List.mem_of_getElem? hj)).1; dsimp only at this; omega, by have := (hL.2 _ (List.mem_of_getElem? hj)).2; dsimp only at this; omega⟩) hp (sL S) 0 rfl (Nat.zero_le _)
/-! ears -/
def earW (p : aPat) (m e : Nat) : Nat → Nat := fun q => if q = m then e else pEar p q
def earB (S : aSt) (m e : Nat) : Bool := soB (layP (sP S) (earW (sP S) m e) 0 (pNx (sP S))) (sL S)
theorem earW_le {S : aSt} {n m e : Nat} (hv : vSt n S) (he : e ≤ 2) : ∀ q, q < pNm (sP S) → earW (sP S) m e q ≤ 2 := by
  intro q hq
  unfold earW
  split
  · exact he
  · exact hv.1.2.2.2.2.2.1 q hq
theorem v_earsC {S : aSt} {n d m : Nat} (hv : vSt n S) (hm : m < pNm (sP S)) : ∀ (k i : Nat) (M : lc_M), i + k = 3 → repC S M → ∃ M', lc_val (d + 4) 99 18 [.ref 0, .int (nI m), .int (nI (bs (earB S m) i)), .int (nI i)] [] lc_SH M = some (some (.int (nI (bs (earB S m) 3))), lc_SH, M') ∧ repC S M' ∧ ∀ c, 43 ≤ c → M' c = M c
  | 0, i, M, h, hM => by
    refine ⟨M, ?_, hM, fun _ _ => rfl⟩
    rw [sg_99_0_18, if_pos (show (2 : Int32) < nI i from nI_lt (a := 2) (by omega) (by omega)), show i = 3 by omega]
  | k + 1, i, M, h, hM => by
    have hnm := hv.1.2.2.1
    have hL := hv.2.2.2.2.2.1
    -- the ears that are tried
    have hset : ∀ c, c ≠ 32 → lc_up (lc_set M 32 (va_cpy (M 10) (M 32) 0 0 6)) 32 m (nI i) c = M c := fun c hc => by rw [up_ne hc, set_ne hc]
    have hear : ∀ q, q < pNm (sP S) → lc_up (lc_set M 32 (va_cpy (M 10) (M 32) 0 0 6)) 32 m (nI i) 32 q = nI (earW (sP S) m i q) ∧ earW (sP S) m i q ≤ 2 := fun q hq => by
      refine ⟨?_, earW_le hv (by omega) q hq⟩
      rw [up_at, if_pos rfl]
      unfold earW
      by_cases e : q = m
      · rw [if_pos e, if_pos e]
      · rw [if_neg e, if_neg e, set_eq, pk_cpy_in (by omega) (by omega), show 0 + (q - 0) = q by omega]
        exact hM.1.2.2.2.2.1 q hq
    obtain ⟨M1, f1, f2, f3⟩ := v_lay1 (d := d) (M := lc_up (lc_set M 32 (va_cpy (M 10) (M 32) 0 0 6)) 32 m (nI i)) hv.1 (s := 0) (by decide) (by rw [hset 9 (by decide), hset 10 (by decide), hset 11 (by decide), hset 12 (by decide), hset 13 (by decide), hset 14 (by decide)]; exact hM.1) hear
    have hall : ∀ c, c ≠ 31 → c ≠ 32 → M1 c = M c := fun c h1 h2 => by rw [f2 c h1, hset c h2]
    have hM1 : repC S M1 := repC_fr hM (fun c hc => hall c (by unfold keepC at hc; omega) (by unfold keepC at hc; omega))
    have hfo := liesC (d := d + 3) (M := M1) (pin := layP (sP S) (earW (sP S) m i) 0 (pNx (sP S))) hv hM1.2.2.2.2.2.2.1.2 (fun q hq => ⟨f3 q hq, layP_lt hv.1 _ (Nat.le_refl _) q hq⟩)
    have hso := fo_so (pin := layP (sP S) (earW (sP S) m i) 0 (pNx (sP S))) (sL S) 0 (by omega)
    rw [sg_99_0_18, if_neg (show ¬ (2 : Int32) < nI i from fun q => nI_nlt (a := 2) (b := i) (by omega) (by decide) q), sg_71_0_0, sg_71_0_18, if_pos (nI_in (by omega) (by decide)), nI_clamp (by omega), show (.int 0 : Value) = .int (nI 0) from rfl, f1, lc_bk0, sg_71_0_34, lc_bk0, sg_99_0_32, hfo, lc_bk1, sg_99_0_46]
    have hb256 : bs (earB S m) i < 256 := bs_256 (by omega)
    by_cases q : earB S m i = true
    · obtain ⟨M', e1, e2, e3⟩ := v_earsC (d := d) hv hm k (i + 1) M1 (by omega) hM1
      refine ⟨M', ?_, e2, fun c hc => by rw [e3 c hc, hall c (by omega) (by omega)]⟩
      rw [if_neg (fun z => z (hso.mpr q)), shl_1 i (by omega), nI_or, nI_1]
      rw [show bs (earB S m) (i + 1) = bs (earB S m) i ||| 2 ^ i by rw [bs, if_pos q]] at e1
      exact e1
    · obtain ⟨M', e1, e2, e3⟩ := v_earsC (d := d) hv hm k (i + 1) M1 (by omega) hM1
      refine ⟨M', ?_, e2, fun c hc => by rw [e3 c hc, hall c (by omega) (by omega)]⟩
      rw [if_pos (fun z => q (hso.mp z)), lc_it_val, nI_1]
      rw [show bs (earB S m) (i + 1) = bs (earB S m) i by rw [bs, if_neg q]; simp] at e1
      exact e1
