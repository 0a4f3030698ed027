/-! ring, hangUp, wrongNumber -/
def vRowG (tb pb : Nat) (p : aPat) (r : aRow) : Prop := rT r ≤ tb ∧ (∀ x, x < pNx p → rHow r x ≤ 2) ∧ (∀ x, x < pNx p → rHow r x = 1 → rT r < rTill r x ∧ rTill r x ≤ rT r + pMi p x) ∧ (∀ x, x < pNx p → rHow r x = 2 → rTill r x ≤ rT r) ∧ (∀ m, m < 6 → rPin r m < 6) ∧ (∀ m, m < 6 → rPaid r m ≤ pb) ∧ disjR p r
def vStG (tb pb : Nat) (S : aSt) : Prop := vPat (sP S) ∧ vRowG tb pb (sP S) (sR S) ∧ ((sU S).length ≤ 30 ∧ ∀ r ∈ sU S, vRowG tb pb (sP S) r) ∧ (∀ i r q, sI S i = some (r, q) → vRowG tb pb (sP S) r ∧ q < 2147483648) ∧ ((sX S).length ≤ 200 ∧ ∀ c ∈ sX S, c ≤ 255) ∧ ((sL S).length ≤ 6 ∧ ∀ q ∈ sL S, q.1 < pNm (sP S) ∧ q.2 < pNm (sP S)) ∧ ((sB S).length ≤ 20 ∧ ∀ q ∈ sB S, q.1 < pNm (sP S) ∧ q.2 < pNm (sP S)) ∧ sS S < 2147483648
theorem vSt_G {n : Nat} {S : aSt} : vSt n S ↔ vStG (60 * n) (1000000 * n) S := Iff.rfl
theorem vRowG_mono {tb pb tb' pb' : Nat} {p : aPat} {r : aRow} (h1 : tb ≤ tb') (h2 : pb ≤ pb') (h : vRowG tb pb p r) : vRowG tb' pb' p r := ⟨Nat.le_trans h.1 h1, h.2.1, h.2.2.1, h.2.2.2.1, h.2.2.2.2.1, fun m hm => Nat.le_trans (h.2.2.2.2.2.1 m hm) h2, h.2.2.2.2.2.2⟩
theorem vStG_mono {tb pb tb' pb' : Nat} {S : aSt} (h1 : tb ≤ tb') (h2 : pb ≤ pb') (h : vStG tb pb S) : vStG tb' pb' S := by
  obtain ⟨v1, v2, v3, v4, v5⟩ := h
  exact ⟨v1, vRowG_mono h1 h2 v2, ⟨v3.1, fun r hr => vRowG_mono h1 h2 (v3.2 r hr)⟩, fun i r q hq => ⟨vRowG_mono h1 h2 (v4 i r q hq).1, (v4 i r q hq).2⟩, v5⟩
theorem vStG_row {tb pb : Nat} {S : aSt} {r : aRow} (h : vStG tb pb S) (hr : vRowG tb pb (sP S) r) : vStG tb pb (stW S r (sU S) (sI S) (sS S)) := ⟨h.1, hr, h.2.2⟩
theorem vStG_rem {tb pb : Nat} {S : aSt} (h : vStG tb pb S) : vStG tb pb (remS S) := by
  obtain ⟨v1, v2, v3, v4, v5⟩ := h
  refine ⟨v1, v2, ⟨?_, fun r hr => ?_⟩, v4, v5⟩
  · show (remU S).length ≤ 30
    unfold remU
    rw [List.length_take]
    omega
  · have hr' : r ∈ (sR S :: sU S).take 30 := hr
    have := List.mem_of_mem_take hr'
    rcases List.mem_cons.mp this with e | e
    · rw [e]; exact v2
    · exact v3.2 r e
theorem can_parts {p : aPat} {r : aRow} {ln x : Nat} (h : canB p r ln x = true) : rHow r x = 0 ∧ busyB p r (pA p x) = false ∧ busyB p r (pB p x) = false := by
  unfold canB fitL at h
  simp only [Bool.and_eq_true, decide_eq_true_eq, Bool.not_eq_true'] at h
  exact ⟨h.1.1, h.2.1.1, h.2.1.2⟩
theorem vRowG_ring {tb pb ln x : Nat} {p : aPat} {r : aRow} (hv : vPat p) (h : vRowG tb pb p r) (hx : x < pNx p) (hc : canB p r ln x = true) : vRowG tb pb p (ringR p r x) := by
  obtain ⟨h1, h2, h3, h4, h5, h6, h7⟩ := h
  obtain ⟨c1, c2, c3⟩ := can_parts hc
  have hab := hv.2.2.2.2.2.2.1 x hx
  have nb : ∀ m, busyB p r m = false → ∀ y, y < pNx p → rHow r y = 1 → pA p y ≠ m ∧ pB p y ≠ m := fun m hm y hy h1 => by
    constructor
    · intro z
      have : busyB p r m = true := busy_iff.mpr ⟨y, hy, h1, Or.inl z⟩
      rw [hm] at this; cases this
    · intro z
      have : busyB p r m = true := busy_iff.mpr ⟨y, hy, h1, Or.inr z⟩
      rw [hm] at this; cases this
  refine ⟨h1, fun y hy => ?_, fun y hy hh => ?_, fun y hy hh => ?_, h5, h6, fun y z hy hz g1 g2 hne => ?_⟩
  · show (if y = x then 1 else rHow r y) ≤ 2
    have := h2 y hy
    split <;> omega
  · show rT r < (if y = x then rT r + pMi p x else rTill r y) ∧ (if y = x then rT r + pMi p x else rTill r y) ≤ rT r + pMi p y
    have hh' : (if y = x then 1 else rHow r y) = 1 := hh
    by_cases e : y = x
    · rw [if_pos e, e]; omega
    · rw [if_neg e] at hh' ⊢; exact h3 y hy hh'
  · show (if y = x then rT r + pMi p x else rTill r y) ≤ rT r
    have hh' : (if y = x then 1 else rHow r y) = 2 := hh
    by_cases e : y = x
    · rw [if_pos e] at hh'; cases hh'
    · rw [if_neg e] at hh' ⊢; exact h4 y hy hh'
  · have g1' : (if y = x then 1 else rHow r y) = 1 := g1
    have g2' : (if z = x then 1 else rHow r z) = 1 := g2
    by_cases e1 : y = x
    · subst e1
      rw [if_neg (fun w => hne w.symm)] at g2'
      have a1 := nb _ c2 z hz g2'
      have a2 := nb _ c3 z hz g2'
      exact ⟨a1.1.symm, a1.2.symm, a2.1.symm, a2.2.symm⟩
    · rw [if_neg e1] at g1'
      by_cases e2 : z = x
      · subst e2
        have a1 := nb _ c2 y hy g1'
        have a2 := nb _ c3 y hy g1'
        exact ⟨a1.1, a2.1, a1.2, a2.2⟩
      · rw [if_neg e2] at g2'
        exact h7 y z hy hz g1' g2' hne
def ringS (S : aSt) (x : Nat) : aSt := stW S (ringR (sP S) (sR S) x) (remU S) (sI S) (sS S)
theorem vStG_ring {tb pb ln x : Nat} {S : aSt} (h : vStG tb pb S) (hx : x < pNx (sP S)) (hc : canB (sP S) (sR S) ln x = true) : vStG tb pb (ringS S x) := vStG_row (vStG_rem h) (vRowG_ring h.1 h.2.1 hx hc)
theorem v_beginCallC {tb pb d x : Nat} {S : aSt} {M : lc_M} (hv : vStG tb pb S) (hM : repC S M) (hx : x < pNx (sP S)) (h0 : rHow (sR S) x = 0) : ∃ M', lc_val (d + 3) 108 0 [.ref 0, .int (nI x)] [] lc_SH M = some (none, lc_SH, M') ∧ repC (ringS S x) M' ∧ ∀ c, 43 ≤ c → M' c = M c := by
  obtain ⟨M1, f1, f2, f3⟩ := v_remC (d := d) hv.1.2.2.2.1 hv.2.2.1.1 hM
  obtain ⟨M2, g1, g2, g3, g4⟩ := v_begin0 (d := d + 1) (p := sP S) (r := sR S) f2.1 hv.1 f2.2.1 hx h0
  refine ⟨M2, ?_, ?_, fun c hc => by rw [g2 c (by omega) (by omega), f3 c (by omega) (by omega)]⟩
  · rw [sg_108_0_0, f1, lc_bk0, sg_108_0_11, g1, lc_bk0, sg_108_0_22]
  · exact repC_row (S := remS S) f2 (fun c a1 a2 _ _ => g2 c a1 a2) (by rw [g2 18 (by decide) (by decide), g2 19 (by decide) (by decide)]; exact g4)
theorem v_ringInM {tb pb d x : Nat} {S : aSt} {M : lc_M} (hv : vStG tb pb S) (hM : repM S M) (hx : x < pNx (sP S)) : ∃ M', lc_val d 143 0 [.ref 43, .int 0, .int (nI x)] [] lc_SH M = some (none, lc_SH, M') ∧ repM (stW S (ringR (sP S) (sR S) x) (sU S) (sI S) (sS S)) M' ∧ (∀ c, c ≠ 44 → M' c = M c) ∧ mRowAt (sP S) (ringR (sP S) (sR S) x) (M' 44) 0 := by
  obtain ⟨M2, g1, g2, g3, g4⟩ := v_ringM (d := d) (at0 := 0) (p := sP S) (r := sR S) hM.1 hv.1 (by decide) hM.2.1 hx
  exact ⟨M2, g1, repM_row hv.1.2.2.2.1 hM (fun c _ a2 => g2 c a2) (fun k _ => by rw [g2 43 (by decide)]) (fun j hj => g3 j (by omega)) g4, g2, g4⟩
theorem lnC {tb pb : Nat} {S : aSt} (hv : vStG tb pb S) : pLn (sP S) ≤ 3 := hv.1.1
theorem op_ring (a : Int32) : opOK 80 148 [.int a] := by
  intro n S hn hv0
  have hv := vSt_G.mp hv0
  have hnx := hv.1.2.2.2.1
  by_cases h : vp_in a (pNx (sP S))
  · obtain ⟨x, hx, rfl⟩ := vp_in_of h (by omega)
    by_cases hc : canB (sP S) (sR S) (pLn (sP S)) x = true
    · have h0 := (can_parts hc).1
      refine ⟨nI (rT (sR S) + pMi (sP S) x), ringS S x, vSt_G.mpr (vStG_mono (by omega) (by omega) (vStG_ring hv hx hc)), fun M hM => ?_, fun M hM => ?_⟩
      · obtain ⟨M', e1, e2, e3⟩ := v_beginCallC (d := 4) hv hM hx h0
        refine ⟨M', ?_, e2, e3⟩
        have hend := v_endC (d := 6) (p := sP S) (r := ringR (sP S) (sR S) x) (M := M') hnx (vRowG_ring hv.1 hv.2.1 hx hc).2.1 e2.2.1 hx
        show lc_val 8 80 0 [.ref 0, .int (nI x)] [] lc_SH M = _
        rw [sg_80_0_0, v_hasCrossing1 hM.1.2.2.2.1 (by omega) h, lc_bk1, sg_80_0_8, if_pos (by decide), show M 9 0 = nI (pLn (sP S)) from hM.1.1, v_can0 (d := 6) hM.1 hv.1 hv.2.1.2.1 hM.2.1 hx (lnC hv), lc_bk1, sg_80_0_32, hc, if_pos (by decide), e1, lc_bk0, sg_80_0_43, hend, lc_bk1, sg_80_0_54]
        unfold tillI
        rw [if_neg (show ¬ rHow (ringR (sP S) (sR S) x) x = 0 by show ¬ (if x = x then 1 else rHow (sR S) x) = 0; rw [if_pos rfl]; decide)]
        show some (some (Value.int (nI (if x = x then rT (sR S) + pMi (sP S) x else rTill (sR S) x))), lc_SH, M') = _
        rw [if_pos rfl]
      · obtain ⟨M1, f1, f2, f3, _⟩ := v_remM (d := 6) hnx hv.2.2.1.1 hM
        obtain ⟨M', g1, g2, g3, g4⟩ := v_ringInM (d := 7) (vStG_rem hv) f2 hx
        refine ⟨M', ?_, g2, fun c hc => by rw [g3 c (by omega), f3 c (by omega) (by omega)]⟩
        have h20 : (20 : Int32) + nI x = nI (20 + x) := nI_add 20 x
        have hend := g4.2.2.2.1 x hx
        rw [show (0 + 20 + x) = 20 + x by omega] at hend
        show lc_val 8 148 0 [.ref 43, .int (nI x)] [] lc_SH M = _
        rw [sg_148_0_0, v_isCrossing1 hM.1.2.2.2.1 (by omega) h, lc_bk1, sg_148_0_5, if_pos (by decide), show M 43 2 = nI (pLn (sP S)) from hM.1.1, show (.int 0 : Value) = .int (nI 0) from rfl, v_canM (d := 5) (at0 := 0) hM.1 hv.1 (by decide) hv.2.1.2.1 hM.2.1 hx (lnC hv), lc_bk1, sg_148_0_21, hc, if_pos (by decide), f1, lc_bk0, sg_148_0_31, g1, lc_bk0, sg_148_0_37, h20, if_pos (nI_in (by omega) (by decide)), nI_clamp (by omega), hend]
        rw [if_neg (show ¬ rHow (ringR (sP (remS S)) (sR (remS S)) x) x = 0 by show ¬ (if x = x then 1 else rHow (sR S) x) = 0; rw [if_pos rfl]; decide)]
        show some (some (Value.int (nI (if x = x then rT (sR S) + pMi (sP S) x else rTill (sR S) x))), lc_SH, M') = _
        rw [if_pos rfl]
    · refine ⟨-1000000003, S, vSt_up hv0, fun M hM => ⟨M, ?_, hM, fun _ _ => rfl⟩, fun M hM => ⟨M, ?_, hM, fun _ _ => rfl⟩⟩
      · show lc_val 8 80 0 [.ref 0, .int (nI x)] [] lc_SH M = _
        rw [sg_80_0_0, v_hasCrossing1 hM.1.2.2.2.1 (by omega) h, lc_bk1, sg_80_0_8, if_pos (by decide), show M 9 0 = nI (pLn (sP S)) from hM.1.1, v_can0 (d := 6) hM.1 hv.1 hv.2.1.2.1 hM.2.1 hx (lnC hv), lc_bk1, sg_80_0_32, show canB (sP S) (sR S) (pLn (sP S)) x = false by simpa using hc, if_neg (by decide)]
      · show lc_val 8 148 0 [.ref 43, .int (nI x)] [] lc_SH M = _
        rw [sg_148_0_0, v_isCrossing1 hM.1.2.2.2.1 (by omega) h, lc_bk1, sg_148_0_5, if_pos (by decide), show M 43 2 = nI (pLn (sP S)) from hM.1.1, show (.int 0 : Value) = .int (nI 0) from rfl, v_canM (d := 5) (at0 := 0) hM.1 hv.1 (by decide) hv.2.1.2.1 hM.2.1 hx (lnC hv), lc_bk1, sg_148_0_21, show canB (sP S) (sR S) (pLn (sP S)) x = false by simpa using hc, if_neg (by decide)]
  · refine ⟨-1000000001, S, vSt_up hv0, fun M hM => ⟨M, ?_, hM, fun _ _ => rfl⟩, fun M hM => ⟨M, ?_, hM, fun _ _ => rfl⟩⟩
    · show lc_val 8 80 0 [.ref 0, .int a] [] lc_SH M = _
      rw [sg_80_0_0, v_hasCrossing0 hM.1.2.2.2.1 (by omega) h, lc_bk1, sg_80_0_8, if_neg (by decide)]
    · show lc_val 8 148 0 [.ref 43, .int a] [] lc_SH M = _
      rw [sg_148_0_0, v_isCrossing0 hM.1.2.2.2.1 (by omega) h, lc_bk1, sg_148_0_5, if_neg (by decide)]
/-! hangUp -/
def hangK (p : aPat) (r : aRow) (x : Nat) : Nat := rT r + pMi p x - rTill r x
def hangR (p : aPat) (r : aRow) (x : Nat) : aRow := (rT r, fun y => if y = x then 0 else rHow r y, rTill r, rPin r, billP p (rPaid r) x (hangK p r x))
theorem billP_le {p : aPat} {paid : Nat → Nat} {x k pb : Nat} (hv : vPat p) (hk : k ≤ 20) (h : ∀ m, m < 6 → paid m ≤ pb) : ∀ m, m < 6 → billP p paid x k m ≤ pb + 1980 := by
  intro m hm
  have h1 := h m hm
  have h2 : k * pCo p ≤ 20 * 99 := Nat.mul_le_mul hk hv.2.1
  unfold billP
  split <;> omega
theorem vRowG_hang {tb pb x : Nat} {p : aPat} {r : aRow} (hv : vPat p) (h : vRowG tb pb p r) (hx : x < pNx p) (h1 : rHow r x = 1) : vRowG tb (pb + 1980) p (hangR p r x) := by
  obtain ⟨a1, h2, h3, h4, h5, h6, h7⟩ := h
  have hab := hv.2.2.2.2.2.2.1 x hx
  have hk : hangK p r x ≤ 20 := by have := h3 x hx h1; unfold hangK; omega
  have key : ∀ y, (if y = x then 0 else rHow r y) = 1 → y ≠ x ∧ rHow r y = 1 := fun y hy => by
    by_cases e : y = x
    · rw [if_pos e] at hy; cases hy
    · rw [if_neg e] at hy; exact ⟨e, hy⟩
  refine ⟨a1, fun y hy => ?_, fun y hy hh => h3 y hy (key y hh).2, fun y hy hh => ?_, h5, billP_le hv hk h6, fun y z hy hz g1 g2 hne => h7 y z hy hz (key y g1).2 (key z g2).2 hne⟩
  · show (if y = x then 0 else rHow r y) ≤ 2
    have := h2 y hy
    split <;> omega
  · have hh' : (if y = x then 0 else rHow r y) = 2 := hh
    by_cases e : y = x
    · rw [if_pos e] at hh'; cases hh'
    · rw [if_neg e] at hh'; exact h4 y hy hh'
theorem i32_a (a b c : Int32) : a - (b - c) = a + c - b := by
  rw [Int32.sub_eq_add_neg a, Int32.neg_sub, Int32.sub_eq_add_neg c, ← Int32.add_assoc, ← Int32.sub_eq_add_neg]
theorem i32_b (a b c : Int32) : a - b + c = a + c - b := by
  rw [Int32.sub_eq_add_neg, Int32.sub_eq_add_neg, Int32.add_assoc, Int32.add_comm (-b) c, ← Int32.add_assoc]
theorem hang_i {T mi till : Nat} (h : till ≤ T + mi) : nI T + nI mi - nI till = nI (T + mi - till) := by
  rw [nI_add]
  exact (Int32.ofNat_sub _ _ h).symm
theorem op_hangUp (a : Int32) : opOK 81 149 [.int a] := by
  intro n S hn hv0
  have hv := vSt_G.mp hv0
  have hnx := hv.1.2.2.2.1
  by_cases h : vp_in a (pNx (sP S))
  · obtain ⟨x, hx, rfl⟩ := vp_in_of h (by omega)
    have hab := hv.1.2.2.2.2.2.2.1 x hx
    have h12 : (12 : Int32) + nI x = nI (12 + x) := nI_add 12 x
    have h20 : (20 : Int32) + nI x = nI (20 + x) := nI_add 20 x
    have hh2 := hv.2.1.2.1 x hx
    by_cases h1 : rHow (sR S) x = 1
    · have ht := hv.2.1.2.2.1 x hx h1
      have hk : hangK (sP S) (sR S) x ≤ 20 := by unfold hangK; omega
      refine ⟨nI (hangK (sP S) (sR S) x), stW S (hangR (sP S) (sR S) x) (remU S) (sI S) (sS S), vSt_G.mpr (vStG_mono (by omega) (by omega) (vStG_row (vStG_mono (Nat.le_refl _) (Nat.le_add_right _ 1980) (vStG_rem hv)) (vRowG_hang hv.1 hv.2.1 hx h1))), fun M hM => ?_, fun M hM => ?_⟩
      · obtain ⟨M1, f1, f2, f3⟩ := v_remC (d := 5) hnx hv.2.2.1.1 hM
        obtain ⟨M2, g1, g2, g3, g4⟩ := v_leave0 (d := 5) (p := sP S) (r := sR S) f2.1 hv.1 hv.2.1.2.2.2.2.2.2 f2.2.1 hx h1
        have hp2 : cPat (sP S) (M2 9) (M2 10) (M2 11) (M2 12) (M2 13) (M2 14) := by
          rw [g2 9 (by decide), g2 10 (by decide), g2 11 (by decide), g2 12 (by decide), g2 13 (by decide), g2 14 (by decide)]
          exact f2.1
        obtain ⟨M', e1, e2, e3⟩ := v_bill (d := 6) (p := sP S) (x := x) (k := hangK (sP S) (sR S) x) (paid := rPaid (sR S)) hp2 hv.1 hx (by rw [g2 19 (by decide)]; exact f2.2.1.2.2.2.2.2.2)
        have hcalc : M1 16 1 - (M1 17 x - M1 13 x) = nI (hangK (sP S) (sR S) x) := by
          rw [show M1 16 1 = nI (rT (sR S)) from f2.2.1.1, show M1 17 x = nI (rTill (sR S) x) from f2.2.1.2.2.2.2.1 x hx (by show rHow (sR S) x ≠ 0; omega), show M1 13 x = nI (pMi (sP S) x) from (f2.1.2.2.2.2.2 x hx).2.2.1, i32_a, hang_i ht.2]
          rfl
        refine ⟨M', ?_, ?_, fun c hc => by rw [e2 c (by omega), g2 c (by omega), f3 c (by omega) (by omega)]⟩
        · show lc_val 8 81 0 [.ref 0, .int (nI x)] [] lc_SH M = _
          rw [sg_81_0_0, v_hasCrossing1 hM.1.2.2.2.1 (by omega) h, lc_bk1, sg_81_0_8, if_pos (by decide), v_hasB1 hM.2.1.2.1 hnx hx h1, lc_bk1, sg_81_0_28, if_pos (by decide), f1, lc_bk0, sg_81_0_45, sg_19_0_0, if_pos (nI_in (by omega) (by decide)), if_pos (nI_in (by omega) (by decide)), nI_clamp (by omega), hcalc, sg_19_0_28, g1, lc_bk0, sg_19_0_36, e1, lc_bk0, sg_19_0_42, lc_bk1, sg_81_0_53]
        · refine repC_row (S := remS S) f2 (fun c a1 a2 _ a4 => by rw [e2 c a4, g2 c a1]) ?_
          rw [e2 16 (by decide), e2 17 (by decide), e2 18 (by decide), g2 17 (by decide), g2 18 (by decide), g3]
          obtain ⟨q1, q2, q3, q4, q5, q6, q7⟩ := g4
          exact ⟨q1, q2, q3, q4, q5, q6, e3⟩
      · obtain ⟨M1, f1, f2, f3, _⟩ := v_remM (d := 6) hnx hv.2.2.1.1 hM
        have hcx := f2.1.2.2.2.2.2 x hx
        obtain ⟨M2, g1, g2, g3, g4⟩ := v_payM (d := 7) (at0 := 0) (p := sP S) (x := x) (k := hangK (sP S) (sR S) x) (paid := rPaid (sR S)) f2.1.2.1 ⟨hcx.1, hcx.2.1⟩ hv.1 (by decide) hx f2.2.1.2.1
        have r12 : M 44 (12 + x) = nI 1 := by have := hM.2.1.2.2.1 x hx; rw [show 0 + 12 + x = 12 + x by omega, h1] at this; exact this
        have r20 : M1 44 (20 + x) = nI (rTill (sR S) x) := by
          have := f2.2.1.2.2.2.1 x hx
          rw [show 0 + 20 + x = 20 + x by omega, if_neg (show ¬ rHow (sR (remS S)) x = 0 by show ¬ rHow (sR S) x = 0; omega)] at this
          exact this
        have hcalc : M1 44 28 - M1 44 (20 + x) + M1 49 x = nI (hangK (sP S) (sR S) x) := by
          rw [show M1 44 28 = nI (rT (sR S)) from f2.2.1.2.2.2.2, r20, show M1 49 x = nI (pMi (sP S) x) from hcx.2.2.1, i32_b, hang_i ht.2]
          rfl
        refine ⟨lc_up (lc_up M2 44 (12 + x) 0) 44 (20 + x) (-1), ?_, ?_, fun c hc => by rw [up_ne (by omega), up_ne (by omega), g2 c (by omega), f3 c (by omega) (by omega)]⟩
        · show lc_val 8 149 0 [.ref 43, .int (nI x), .null] [] lc_SH M = _
          rw [sg_149_0_0, v_isCrossing1 hM.1.2.2.2.1 (by omega) h, lc_bk1, sg_149_0_5, if_pos (by decide), lc_it_val, sg_149_0_11, h12, if_pos (nI_in (by omega) (by decide)), nI_clamp (by omega), r12, if_pos (show nI 1 = 1 from rfl), f1, lc_bk0, sg_149_0_31, h20, if_pos (nI_in (by omega) (by decide)), nI_clamp (by omega), sg_149_0_48, if_pos (nI_in (by omega) (by decide)), nI_clamp (by omega), hcalc, sg_149_0_56, show (.int 0 : Value) = .int (nI 0) from rfl, g1, lc_bk0, sg_149_0_63, h12, if_pos (nI_in (by omega) (by decide)), nI_clamp (by omega), sg_149_0_73, h20, if_pos (nI_in (by omega) (by decide)), nI_clamp (by omega)]
        · have g : ∀ j, lc_up (lc_up M2 44 (12 + x) 0) 44 (20 + x) (-1) 44 j = if j = 20 + x then -1 else if j = 12 + x then 0 else M2 44 j := fun j => by rw [up_at, if_pos rfl, up_at, if_pos rfl]
          obtain ⟨q1, q2, q3, q4, q5⟩ := f2.2.1
          refine repM_row (S := remS S) hnx f2 (fun c a1 a2 => by rw [up_ne a2, up_ne a2, g2 c a2]) (fun k _ => by rw [up_ne (by decide), up_ne (by decide), g2 43 (by decide)]) (fun j hj => by rw [g, if_neg (by omega), if_neg (by omega), g3 j (by omega)]) ⟨fun m hm => ?_, fun m hm => ?_, fun y hy => ?_, fun y hy => ?_, ?_⟩
          · rw [g, if_neg (by omega), if_neg (by omega), g3 _ (by omega)]; exact q1 m hm
          · rw [g, if_neg (by omega), if_neg (by omega)]; exact g4 m hm
          · show _ = nI (if y = x then 0 else rHow (sR S) y)
            rw [g, if_neg (by have : pNx (sP (remS S)) ≤ 8 := hnx; omega)]
            by_cases e : y = x
            · rw [if_pos e, if_pos (by omega)]; rfl
            · rw [if_neg e, if_neg (by omega), g3 _ (by omega)]; exact q3 y hy
          · show _ = if (if y = x then 0 else rHow (sR S) y) = 0 then -1 else nI (rTill (sR S) y)
            rw [g]
            by_cases e : y = x
            · rw [if_pos (by omega), if_pos e, if_pos rfl]
            · rw [if_neg (by omega), if_neg (by omega), if_neg e, g3 _ (by omega)]; exact q4 y hy
          · rw [g, if_neg (by omega), if_neg (by omega), g3 _ (by omega)]; exact q5
    · refine ⟨-1000000003, S, vSt_up hv0, fun M hM => ⟨M, ?_, hM, fun _ _ => rfl⟩, fun M hM => ⟨M, ?_, hM, fun _ _ => rfl⟩⟩
      · show lc_val 8 81 0 [.ref 0, .int (nI x)] [] lc_SH M = _
        rw [sg_81_0_0, v_hasCrossing1 hM.1.2.2.2.1 (by omega) h, lc_bk1, sg_81_0_8, if_pos (by decide), v_hasB0 hM.2.1.2.1 hnx hx h1, lc_bk1, sg_81_0_28, if_neg (by decide)]
      · have r12 : M 44 (12 + x) = nI (rHow (sR S) x) := by have := hM.2.1.2.2.1 x hx; rw [show 0 + 12 + x = 12 + x by omega] at this; exact this
        show lc_val 8 149 0 [.ref 43, .int (nI x), .null] [] lc_SH M = _
        rw [sg_149_0_0, v_isCrossing1 hM.1.2.2.2.1 (by omega) h, lc_bk1, sg_149_0_5, if_pos (by decide), lc_it_val, sg_149_0_11, h12, if_pos (nI_in (by omega) (by decide)), nI_clamp (by omega), r12, if_neg (show ¬ nI (rHow (sR S) x) = 1 from fun z => h1 ((nI_eq (b := 1) (by omega) (by decide)).mp z))]
  · refine ⟨-1000000001, S, vSt_up hv0, fun M hM => ⟨M, ?_, hM, fun _ _ => rfl⟩, fun M hM => ⟨M, ?_, hM, fun _ _ => rfl⟩⟩
    · show lc_val 8 81 0 [.ref 0, .int a] [] lc_SH M = _
      rw [sg_81_0_0, v_hasCrossing0 hM.1.2.2.2.1 (by omega) h, lc_bk1, sg_81_0_8, if_neg (by decide)]
    · show lc_val 8 149 0 [.ref 43, .int a, .null] [] lc_SH M = _
      rw [sg_149_0_0, v_isCrossing0 hM.1.2.2.2.1 (by omega) h, lc_bk1, sg_149_0_5, if_neg (by decide)]
/-! wrongNumber -/
def pinR (r : aRow) (pin : Nat → Nat) : aRow := (rT r, rHow r, rTill r, pin, rPaid r)
theorem op_wrongNumber (a b : Int32) : opOK 83 152 [.int a, .int b] := by
  intro n S hn hv0
  have hv := vSt_G.mp hv0
  have hnx := hv.1.2.2.2.1
  have hnm := hv.1.2.2.1
  have bad : ∀ r : Int32, (∀ M, repC S M → lc_val 8 83 0 [.ref 0, .int a, .int b] [] lc_SH M = some (some (.int r), lc_SH, M)) → (∀ M, repM S M → lc_val 8 152 0 [.ref 43, .int a, .int b] [] lc_SH M = some (some (.int r), lc_SH, M)) → ∃ (r : Int32) (S' : aSt), vSt (n + 1) S' ∧ (∀ M, repC S M → ∃ M1, lc_val 8 83 0 (lc_ent 83 (.ref 0 :: [.int a, .int b])) [] lc_SH M = some (some (.int r), lc_SH, M1) ∧ repC S' M1 ∧ ∀ c, 43 ≤ c → M1 c = M c) ∧ (∀ M, repM S M → ∃ M2, lc_val 8 152 0 (lc_ent 152 (.ref 43 :: [.int a, .int b])) [] lc_SH M = some (some (.int r), lc_SH, M2) ∧ repM S' M2 ∧ ∀ c, c < 43 → M2 c = M c) :=
    fun r h1 h2 => ⟨r, S, vSt_up hv0, fun M hM => ⟨M, h1 M hM, hM, fun _ _ => rfl⟩, fun M hM => ⟨M, h2 M hM, hM, fun _ _ => rfl⟩⟩
  by_cases h : ¬ vp_in a (pNm (sP S))
  · refine bad (-1000000001) (fun M hM => ?_) (fun M hM => ?_)
    · rw [sg_83_0_0, v_hasMaker0 hM.1.2.2.1 (by omega) h, lc_bk1, sg_83_0_8, if_pos rfl]
    · rw [sg_152_0_0, v_isMaker0 hM.1.2.2.1 (by omega) h, lc_bk1, sg_152_0_5, if_pos rfl]
  have h := Classical.not_not.mp h
  by_cases h' : ¬ vp_in b (pNm (sP S))
  · refine bad (-1000000001) (fun M hM => ?_) (fun M hM => ?_)
    · rw [sg_83_0_0, v_hasMaker1 hM.1.2.2.1 (by omega) h, lc_bk1, sg_83_0_8, if_neg (by decide), v_hasMaker0 hM.1.2.2.1 (by omega) h', lc_bk1, sg_83_0_19, if_pos rfl]
    · rw [sg_152_0_0, v_isMaker1 hM.1.2.2.1 (by omega) h, lc_bk1, sg_152_0_5, if_neg (by decide), v_isMaker0 hM.1.2.2.1 (by omega) h', lc_bk1, sg_152_0_13, if_pos rfl]
  have h' := Classical.not_not.mp h'
  have s1 : ∀ M, repC S M → lc_val 8 83 0 [.ref 0, .int a, .int b] [] lc_SH M = lc_val 8 83 22 [.ref 0, .int a, .int b] [] lc_SH M := fun M hM => by
    rw [sg_83_0_0, v_hasMaker1 hM.1.2.2.1 (by omega) h, lc_bk1, sg_83_0_8, if_neg (by decide), v_hasMaker1 hM.1.2.2.1 (by omega) h', lc_bk1, sg_83_0_19, if_neg (by decide), lc_it_val]
  have s2 : ∀ M, repM S M → lc_val 8 152 0 [.ref 43, .int a, .int b] [] lc_SH M = lc_val 8 152 13 [.ref 43, .int a, .int b] [.int 1] lc_SH M := fun M hM => by
    rw [sg_152_0_0, v_isMaker1 hM.1.2.2.1 (by omega) h, lc_bk1, sg_152_0_5, if_neg (by decide), v_isMaker1 hM.1.2.2.1 (by omega) h', lc_bk1]
  obtain ⟨i, hi, rfl⟩ := vp_in_of h (by omega)
  obtain ⟨k, hk, rfl⟩ := vp_in_of h' (by omega)
  by_cases e : nI i = nI k
  · refine bad (-1000000001) (fun M hM => ?_) (fun M hM => ?_)
    · rw [s1 M hM, sg_83_0_22, if_neg (fun z => z e)]
    · rw [s2 M hM, sg_152_0_13, if_neg (by decide), if_neg (fun z => z e)]
  have c1 : ∀ M m, m < 6 → repC S M → lc_val 7 106 0 [.int (M 16 4), .int (nI m)] [] lc_SH M = some (some (.int (bI (busyB (sP S) (sR S) m))), lc_SH, M) := fun M m hm hM => by
    by_cases q : busyB (sP S) (sR S) m = true
    · rw [q]; exact v_hasB1 hM.2.1.2.2.2.1 (by decide) hm (busy_iff.mp q)
    · rw [show busyB (sP S) (sR S) m = false by simpa using q]; exact v_hasB0 hM.2.1.2.2.2.1 (by decide) hm (fun z => q (busy_iff.mpr z))
  have c2 : ∀ M m, m < 6 → repM S M → lc_val 7 137 0 [.ref 43, .int 0, .int (nI m), .null, .null] [] lc_SH M = some (some (.int (coF (enB (sP S) (sR S) m) (pNx (sP S)))), lc_SH, M) := fun M m hm hM => v_callM0 hM.1 hv.1 hv.2.1.2.1 hM.2.1 hm
  by_cases q1 : busyB (sP S) (sR S) i = true
  · refine bad (-1000000003) (fun M hM => ?_) (fun M hM => ?_)
    · rw [s1 M hM, sg_83_0_22, if_pos e, c1 M i (by omega) hM, q1, lc_bk1, sg_83_0_44, if_pos (by decide)]
    · rw [s2 M hM, sg_152_0_13, if_neg (by decide), if_pos e, c2 M i (by omega) hM, lc_bk1, sg_152_0_30, if_pos ((coF_busy hnx).mpr q1)]
  by_cases q2 : busyB (sP S) (sR S) k = true
  · refine bad (-1000000003) (fun M hM => ?_) (fun M hM => ?_)
    · rw [s1 M hM, sg_83_0_22, if_pos e, c1 M i (by omega) hM, show busyB (sP S) (sR S) i = false by simpa using q1, lc_bk1, sg_83_0_44, if_neg (by decide), c1 M k (by omega) hM, q2, lc_bk1, sg_83_0_61, if_neg (by decide)]
    · rw [s2 M hM, sg_152_0_13, if_neg (by decide), if_pos e, c2 M i (by omega) hM, lc_bk1, sg_152_0_30, if_neg (fun z => q1 ((coF_busy hnx).mp z)), c2 M k (by omega) hM, lc_bk1, sg_152_0_39, if_neg (fun z => by
        have := (coF_busy hnx).mpr q2
        rw [lt0_iff] at z
        rw [ge0_iff] at this
        omega)]
  have q2' : coF (enB (sP S) (sR S) k) (pNx (sP S)) < 0 := by
    have : ¬ 0 ≤ coF (enB (sP S) (sR S) k) (pNx (sP S)) := fun z => q2 ((coF_busy hnx).mp z)
    rw [ge0_iff] at this
    rw [lt0_iff]
    omega
  refine ⟨nI (swapP (rPin (sR S)) i k i), stW S (pinR (sR S) (swapP (rPin (sR S)) i k)) (remU S) (sI S) (sS S), vSt_G.mpr (vStG_mono (by omega) (by omega) (vStG_row (vStG_rem hv) ?_)), fun M hM => ?_, fun M hM => ?_⟩
  · obtain ⟨a1, a2, a3, a4, a5, a6, a7⟩ := hv.2.1
    exact ⟨a1, a2, a3, a4, swapP_lt (by omega) (by omega) a5, a6, a7⟩
  · obtain ⟨M1, f1, f2, f3⟩ := v_remC (d := 5) hnx hv.2.2.1.1 hM
    obtain ⟨M', g1, g2, g3⟩ := v_swap18 (d := 7) (M := M1) (a := i) (w := k) (by omega) (by omega) f2.2.1.2.2.2.2.2.1
    refine ⟨M', ?_, ?_, fun c hc => by rw [g2 c (by omega), f3 c (by omega) (by omega)]⟩
    · show lc_val 8 83 0 [.ref 0, .int (nI i), .int (nI k)] [] lc_SH M = _
      rw [s1 M hM, sg_83_0_22, if_pos e, c1 M i (by omega) hM, show busyB (sP S) (sR S) i = false by simpa using q1, lc_bk1, sg_83_0_44, if_neg (by decide), c1 M k (by omega) hM, show busyB (sP S) (sR S) k = false by simpa using q2, lc_bk1, sg_83_0_61, if_pos (by decide), f1, lc_bk0, sg_83_0_78, g1, lc_bk0, sg_83_0_90, if_pos (nI_in (by omega) (by decide)), nI_clamp (by omega), g3 i (by omega)]
      rfl
    · refine repC_row (S := remS S) f2 (fun c _ _ a3 _ => g2 c a3) ?_
      rw [g2 16 (by decide), g2 17 (by decide), g2 19 (by decide)]
      obtain ⟨z1, z2, z3, z4, z5, z6, z7⟩ := f2.2.1
      exact ⟨z1, z2, z3, z4, z5, g3, z7⟩
  · obtain ⟨M1, f1, f2, f3, _⟩ := v_remM (d := 6) hnx hv.2.2.1.1 hM
    obtain ⟨z1, z2, z3, z4, z5⟩ := f2.2.1
    obtain ⟨M', g1, g2, g3, g4⟩ := v_change (d := 7) (M := M1) (at0 := 0) (pin := rPin (sR S)) (a := i) (w := k) (by decide) (by omega) (by omega) z1
    have gi := g4 i (by omega)
    rw [Nat.zero_add] at gi
    refine ⟨M', ?_, ?_, fun c hc => by rw [g2 c (by omega), f3 c (by omega) (by omega)]⟩
    · show lc_val 8 152 0 [.ref 43, .int (nI i), .int (nI k)] [] lc_SH M = _
      rw [s2 M hM, sg_152_0_13, if_neg (by decide), if_pos e, c2 M i (by omega) hM, lc_bk1, sg_152_0_30, if_neg (fun z => q1 ((coF_busy hnx).mp z)), c2 M k (by omega) hM, lc_bk1, sg_152_0_39, if_pos q2', f1, lc_bk0, sg_152_0_49, show (.int 0 : Value) = .int (nI 0) from rfl, g1, lc_bk0, sg_152_0_56, if_pos (nI_in (by omega) (by decide)), nI_clamp (by omega), gi]
    · refine repM_row (S := remS S) hnx f2 (fun c _ a2 => g2 c a2) (fun j _ => by rw [g2 43 (by decide)]) (fun j hj => g3 j (by omega)) ⟨g4, fun m hm => ?_, fun y hy => ?_, fun y hy => ?_, ?_⟩
      · rw [g3 _ (by omega)]; exact z2 m hm
      · rw [g3 _ (by omega)]; exact z3 y hy
      · rw [g3 _ (by omega)]; exact z4 y hy
      · rw [g3 _ (by omega)]; exact z5
