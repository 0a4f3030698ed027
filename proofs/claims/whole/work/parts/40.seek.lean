/-! all orders in turn: the best of them -/
theorem begK_a {p : aPat} {ln n : Nat} {a b : Nat → Nat} (h : ∀ i, i < n → a i = b i) : ∀ (k i : Nat) (r : aRow), i + k = n → begK p ln a k i r = begK p ln b k i r
  | 0, _, _, _ => rfl
  | k + 1, i, r, hk => by
    rw [begK, begK, h i (by omega)]
    exact begK_a h k (i + 1) _ (by omega)
theorem totE_a {p : aPat} {ln n : Nat} {a b : Nat → Nat} (h : ∀ i, i < n → a i = b i) : ∀ (k : Nat) (r : aRow), totE p ln n a k r = totE p ln n b k r
  | 0, _ => rfl
  | k + 1, r => by
    rw [totE, totE, begK_a h n 0 r (by omega)]
    cases neF (begK p ln b n 0 r) (pNx p) with
    | none => rfl
    | some t =>
      show (t - rT r) + _ = (t - rT r) + _
      rw [totE_a h k]
def ordL (l : Nat → Nat) (x : List Nat) : Nat → Nat := fun i => l (atL x i)
def seekL (p : aPat) (ln n : Nat) (r : aRow) (l : Nat → Nat) : List (List Nat) → Nat → (Nat → Nat) → Nat × (Nat → Nat)
  | [], F, b => (F, b)
  | x :: rest, F, b => if totE p ln n (ordL l x) 9 r < F then seekL p ln n r l rest (totE p ln n (ordL l x) 9 r) (ordL l x) else seekL p ln n r l rest F b
def opn (p : aPat) (r : aRow) : Nat := opN (wayB r 0) (pNx p)
def opl (p : aPat) (r : aRow) : Nat → Nat := lsF (wayB r 0) (pNx p)
theorem opl_lt {p : aPat} {r : aRow} {j : Nat} (h : j < opn p r) : opl p r j < pNx p := (lsF_in (f := wayB r 0) (pNx p) j h).1
theorem opl_mono {p : aPat} {r : aRow} : ∀ i j, i < j → j < opn p r → opl p r i < opl p r j := fun i j h1 h2 => lsF_mono (pNx p) i j h1 h2
theorem rel_lt {p : aPat} {r : aRow} {a s : Nat → Nat} (h : relO (opn p r) (opl p r) a s) : ∀ j, j < opn p r → a j < pNx p := fun j hj => by
  obtain ⟨h1, h2⟩ := h j hj
  rw [h1]
  exact opl_lt h2
def soonP (p : aPat) (ln : Nat) (r : aRow) : Nat × (Nat → Nat) := seekL p ln (opn p r) r (opl p r) (permN (opn p r)).tail (totE p ln (opn p r) (ordL (opl p r) (List.range (opn p r))) 9 r) (ordL (opl p r) (List.range (opn p r)))
theorem range_at {n i : Nat} (h : i < n) : atL (List.range n) i = i := by
  unfold atL
  rw [List.getD_eq_getElem?_getD, List.getElem?_range h]
  rfl
theorem relO_first {p : aPat} {r : aRow} {a : Nat → Nat} (h : ∀ j, j < opn p r → a j = opl p r j) : relO (opn p r) (opl p r) a (atL (List.range (opn p r))) := fun i hi => by
  rw [range_at hi]
  exact ⟨h i hi, hi⟩
theorem tot_small {p : aPat} {ln tb pb : Nat} {r : aRow} {a : Nat → Nat} {n : Nat} (hv : vPat p) (ha : ∀ j, j < n → a j < pNx p) (hr : vRowG tb pb p r) : totE p ln n a 9 r ≤ 180 := totE_le (tb := tb) (pb := pb) hv ha 9 tb r hr
theorem seek_first {p : aPat} {ln F tb pb : Nat} {r : aRow} {b : Nat → Nat} (hv : vPat p) (hr : vRowG tb pb p r) (h6 : opn p r ≤ 6) (hF : 180 < F) : seekL p ln (opn p r) r (opl p r) (permN (opn p r)) F b = soonP p ln r := by
  obtain ⟨t, ht⟩ := headN (opn p r) h6
  unfold soonP
  rw [ht, seekL, if_pos (Nat.lt_of_le_of_lt (tot_small hv (rel_lt (s := atL (List.range (opn p r))) (fun i hi => by rw [range_at hi]; exact ⟨by unfold ordL; rw [range_at hi], hi⟩)) hr) hF)]
  rfl
/-- what the table says of the next order -/
theorem chk_last {n : Nat} {l a : Nat → Nat} {x : List Nat} (hl : ∀ i j, i < j → j < n → l i < l j) (h : relO n l a (atL x)) (hc : chkP n [x] = true) : nextF n a = none := by
  have hc' : (nextF n (atL x)).isNone = true := hc
  rcases relO_next hl h with ⟨g, _⟩ | ⟨b, t, _, g2, _⟩
  · exact g
  · rw [g2] at hc'; cases hc'
theorem chk_step {n : Nat} {l a : Nat → Nat} {x y : List Nat} {rest : List (List Nat)} (hl : ∀ i j, i < j → j < n → l i < l j) (h : relO n l a (atL x)) (hc : chkP n (x :: y :: rest) = true) : chkP n (y :: rest) = true ∧ ∃ b, nextF n a = some b ∧ relO n l b (atL y) := by
  have hc' : ((match nextF n (atL x) with
    | none => false
    | some f => (List.range n).all (fun i => f i == atL y i)) && chkP n (y :: rest)) = true := hc
  rw [Bool.and_eq_true] at hc'
  refine ⟨hc'.2, ?_⟩
  rcases relO_next hl h with ⟨_, g⟩ | ⟨b, t, g1, g2, g3⟩
  · rw [g] at hc'; cases hc'.1
  · rw [g2] at hc'
    refine ⟨b, g1, fun i hi => ?_⟩
    have h1 : (List.range n).all (fun i => t i == atL y i) = true := hc'.1
    have h2 := List.all_eq_true.mp h1 i (List.mem_range.mpr hi)
    have h3 : t i = atL y i := eq_of_beq h2
    obtain ⟨k1, k2⟩ := g3 i hi
    rw [h3] at k1 k2
    exact ⟨k1, k2⟩
theorem v_seekL {d ln tb pb : Nat} {p : aPat} {r : aRow} {pi pa : Nat → Int32} (hv : vPat p) (hl : ln ≤ 3) (h6 : opn p r ≤ 6) (hr : vRowG tb pb p r) (htb : tb ≤ 5000) : ∀ (rest : List (List Nat)) (x : List Nat) (F i : Nat) (a b : Nat → Nat) (M : lc_M) (v4 : Value), chkP (opn p r) (x :: rest) = true → i + rest.length < 720 → F ≤ 1000000 → M 25 5 = nI (opn p r) → (∀ m, m < 6 → M 28 m = nI (a m)) → relO (opn p r) (opl p r) a (atL x) → (∀ j, j < opn p r → M 29 j = nI (b j)) → patC p M → cRow p r (M 16 1) (M 16 2) (M 16 3) (M 16 4) (M 17) pi pa → ∃ M', lc_val (d + 5) 40 9 [.ref 25, .int (nI ln), .int (nI F), .int (nI i), v4] [] lc_SH M = some (some (.int (nI (seekL p ln (opn p r) r (opl p r) (x :: rest) F b).1)), lc_SH, M') ∧ (∀ c, c ≠ 26 → c ≠ 27 → c ≠ 28 → c ≠ 29 → M' c = M c) ∧ ∀ j, j < opn p r → M' 29 j = nI ((seekL p ln (opn p r) r (opl p r) (x :: rest) F b).2 j) := by
  intro rest
  induction rest with
  | nil =>
    intro x F i a b M v4 hck hi hF hc ho hrel hb hp hR
    have h8 := hv.2.2.2.1
    have hlt := rel_lt hrel
    obtain ⟨M1, cm, f1, f2, f3⟩ := v_tryC (d := d) (pi := pi) (pa := pa) (M := M) hv hl h6 hlt hF hr htb hc (fun j hj => ho j (by omega)) hp hR
    have ht : totE p ln (opn p r) a 9 r = totE p ln (opn p r) (ordL (opl p r) x) 9 r := totE_a (fun i hi => (hrel i hi).1) 9 r
    have hts := tot_small (ln := ln) hv hlt hr
    rw [ht] at f2 hts
    have hnx := chk_last opl_mono hrel hck
    have pre : lc_val (d + 5) 40 9 [.ref 25, .int (nI ln), .int (nI F), .int (nI i), v4] [] lc_SH M = lc_val (d + 5) 40 22 [.ref 25, .int (nI ln), .int (nI F), .int (nI i), v4] [.int (nI cm)] lc_SH M1 := by
      rw [sg_40_0_9, if_neg (show ¬ (720 : Int32) ≤ nI i from nI_ge (b := 720) (by rw [List.length_nil] at hi; omega) (by decide)), f1, lc_bk1]
    rw [pre, sg_40_0_22, seekL, seekL, seekL]
    by_cases q : totE p ln (opn p r) (ordL (opl p r) x) 9 r < F
    · have hcm : cm = totE p ln (opn p r) (ordL (opl p r) x) 9 r := by omega
      have c29 : ∀ j, lc_set M1 29 (va_cpy (M1 28) (M1 29) 0 0 (opn p r)) 29 j = va_cpy (M1 28) (M1 29) 0 0 (opn p r) j := fun j => by rw [set_eq]
      have up : ∀ c, c ≠ 29 → lc_set M1 29 (va_cpy (M1 28) (M1 29) 0 0 (opn p r)) c = M1 c := fun c hc => set_ne hc
      obtain ⟨M2, g1, g2⟩ := v_nextC (d := d + 2) (n := opn p r) (a := a) (M := lc_set M1 29 (va_cpy (M1 28) (M1 29) 0 0 (opn p r))) h6 (by rw [up 25 (by decide), f3 25 (by decide) (by decide)]; exact hc) (fun m hm => by rw [up 28 (by decide), f3 28 (by decide) (by decide)]; exact ho m hm) (fun m hm => by have := hlt m hm; omega)
      rw [hnx] at g2
      obtain ⟨g2, g3⟩ := g2
      refine ⟨M2, ?_, fun c a1 a2 a3 a4 => by rw [g1 c a3, up c a4, f3 c a1 a2], fun j hj => ?_⟩
      · rw [if_neg (nI_ge (by omega) (by omega)), sg_40_0_30, f3 25 (by decide) (by decide), hc, nI_clamp (by omega), if_pos ⟨by decide, by decide, nI_pos (by omega), by omega, by omega⟩, sg_40_0_50, g2, lc_bk1, sg_40_0_54, if_neg (fun z => z rfl), hcm, if_pos q]
      · rw [if_pos q, g3, c29]
        unfold va_cpy
        rw [if_pos (by omega), show 0 + (j - 0) = j by omega, f3 28 (by decide) (by decide), ho j (by omega), (hrel j hj).1]
        rfl
    · have hcm : F ≤ cm := by omega
      obtain ⟨M2, g1, g2⟩ := v_nextC (d := d + 2) (n := opn p r) (a := a) (M := M1) h6 (by rw [f3 25 (by decide) (by decide)]; exact hc) (fun m hm => by rw [f3 28 (by decide) (by decide)]; exact ho m hm) (fun m hm => by have := hlt m hm; omega)
      rw [hnx] at g2
      obtain ⟨g2, g3⟩ := g2
      refine ⟨M2, ?_, fun c a1 a2 a3 a4 => by rw [g1 c a3, f3 c a1 a2], fun j hj => ?_⟩
      · rw [if_pos (nI_le hcm (by omega)), sg_40_0_50, g2, lc_bk1, sg_40_0_54, if_neg (fun z => z rfl), if_neg q]
      · rw [if_neg q, g1 29 (by decide), f3 29 (by decide) (by decide)]
        exact hb j hj
  | cons y rest ih =>
    intro x F i a b M v4 hck hi hF hc ho hrel hb hp hR
    have h8 := hv.2.2.2.1
    have hlt := rel_lt hrel
    rw [List.length_cons] at hi
    obtain ⟨M1, cm, f1, f2, f3⟩ := v_tryC (d := d) (pi := pi) (pa := pa) (M := M) hv hl h6 hlt hF hr htb hc (fun j hj => ho j (by omega)) hp hR
    have ht : totE p ln (opn p r) a 9 r = totE p ln (opn p r) (ordL (opl p r) x) 9 r := totE_a (fun i hi => (hrel i hi).1) 9 r
    have hts := tot_small (ln := ln) hv hlt hr
    rw [ht] at f2 hts
    obtain ⟨hck', a', hnx, hrel'⟩ := chk_step opl_mono hrel hck
    have pre : lc_val (d + 5) 40 9 [.ref 25, .int (nI ln), .int (nI F), .int (nI i), v4] [] lc_SH M = lc_val (d + 5) 40 22 [.ref 25, .int (nI ln), .int (nI F), .int (nI i), v4] [.int (nI cm)] lc_SH M1 := by
      rw [sg_40_0_9, if_neg (show ¬ (720 : Int32) ≤ nI i from nI_ge (b := 720) (by omega) (by decide)), f1, lc_bk1]
    rw [pre, sg_40_0_22, seekL]
    by_cases q : totE p ln (opn p r) (ordL (opl p r) x) 9 r < F
    · have hcm : cm = totE p ln (opn p r) (ordL (opl p r) x) 9 r := by omega
      have c29 : ∀ j, lc_set M1 29 (va_cpy (M1 28) (M1 29) 0 0 (opn p r)) 29 j = va_cpy (M1 28) (M1 29) 0 0 (opn p r) j := fun j => by rw [set_eq]
      have up : ∀ c, c ≠ 29 → lc_set M1 29 (va_cpy (M1 28) (M1 29) 0 0 (opn p r)) c = M1 c := fun c hc => set_ne hc
      obtain ⟨M2, g1, g2⟩ := v_nextC (d := d + 2) (n := opn p r) (a := a) (M := lc_set M1 29 (va_cpy (M1 28) (M1 29) 0 0 (opn p r))) h6 (by rw [up 25 (by decide), f3 25 (by decide) (by decide)]; exact hc) (fun m hm => by rw [up 28 (by decide), f3 28 (by decide) (by decide)]; exact ho m hm) (fun m hm => by have := hlt m hm; omega)
      rw [hnx] at g2
      obtain ⟨g2, g3⟩ := g2
      have fr : ∀ c, c ≠ 26 → c ≠ 27 → c ≠ 28 → c ≠ 29 → M2 c = M c := fun c a1 a2 a3 a4 => by rw [g1 c a3, up c a4, f3 c a1 a2]
      obtain ⟨M', e1, e2, e3⟩ := ih y (totE p ln (opn p r) (ordL (opl p r) x) 9 r) (i + 1) a' (ordL (opl p r) x) M2 (.int (nI cm)) hck' (by omega) (by omega) (by rw [fr 25 (by decide) (by decide) (by decide) (by decide)]; exact hc) g3 hrel' (fun j hj => by
        rw [g1 29 (by decide), c29]
        unfold va_cpy
        rw [if_pos (by omega), show 0 + (j - 0) = j by omega, f3 28 (by decide) (by decide), ho j (by omega), (hrel j hj).1]
        rfl) (patC_fr hp (fun c c1 c2 => fr c (by omega) (by omega) (by omega) (by omega))) (by rw [fr 16 (by decide) (by decide) (by decide) (by decide), fr 17 (by decide) (by decide) (by decide) (by decide)]; exact hR)
      refine ⟨M', ?_, fun c a1 a2 a3 a4 => by rw [e2 c a1 a2 a3 a4, fr c a1 a2 a3 a4], fun j hj => by rw [if_pos q]; exact e3 j hj⟩
      rw [if_neg (nI_ge (by omega) (by omega)), sg_40_0_30, f3 25 (by decide) (by decide), hc, nI_clamp (by omega), if_pos ⟨by decide, by decide, nI_pos (by omega), by omega, by omega⟩, sg_40_0_50, g2, lc_bk1, sg_40_0_54, if_pos (by decide), nI_1, hcm, if_pos q]
      rw [hcm] at e1
      exact e1
    · have hcm : F ≤ cm := by omega
      obtain ⟨M2, g1, g2⟩ := v_nextC (d := d + 2) (n := opn p r) (a := a) (M := M1) h6 (by rw [f3 25 (by decide) (by decide)]; exact hc) (fun m hm => by rw [f3 28 (by decide) (by decide)]; exact ho m hm) (fun m hm => by have := hlt m hm; omega)
      rw [hnx] at g2
      obtain ⟨g2, g3⟩ := g2
      have fr : ∀ c, c ≠ 26 → c ≠ 27 → c ≠ 28 → M2 c = M c := fun c a1 a2 a3 => by rw [g1 c a3, f3 c a1 a2]
      obtain ⟨M', e1, e2, e3⟩ := ih y F (i + 1) a' b M2 (.int (nI cm)) hck' (by omega) hF (by rw [fr 25 (by decide) (by decide) (by decide)]; exact hc) g3 hrel' (fun j hj => by rw [fr 29 (by decide) (by decide) (by decide)]; exact hb j hj) (patC_fr hp (fun c c1 c2 => fr c (by omega) (by omega) (by omega))) (by rw [fr 16 (by decide) (by decide) (by decide), fr 17 (by decide) (by decide) (by decide)]; exact hR)
      refine ⟨M', ?_, fun c a1 a2 a3 a4 => by rw [e2 c a1 a2 a3 a4, fr c a1 a2 a3], fun j hj => by rw [if_neg q]; exact e3 j hj⟩
      rw [if_pos (nI_le hcm (by omega)), sg_40_0_50, g2, lc_bk1, sg_40_0_54, if_pos (by decide), nI_1, if_neg q]
      exact e1
theorem v_seekC {d ln tb pb : Nat} {p : aPat} {r : aRow} {pi pa : Nat → Int32} {M : lc_M} (hv : vPat p) (hl : ln ≤ 3) (h6 : opn p r ≤ 6) (hr : vRowG tb pb p r) (htb : tb ≤ 5000) (hp : patC p M) (hR : cRow p r (M 16 1) (M 16 2) (M 16 3) (M 16 4) (M 17) pi pa) : ∃ M', lc_val (d + 5) 40 0 [.ref 25, .int (nI ln), .null, .null, .null] [] lc_SH M = some (some (.int (nI (soonP p ln r).1)), lc_SH, M') ∧ (∀ c, c ≠ 25 → c ≠ 26 → c ≠ 27 → c ≠ 28 → c ≠ 29 → M' c = M c) ∧ M' 25 5 = nI (opn p r) ∧ ∀ j, j < opn p r → M' 29 j = nI ((soonP p ln r).2 j) := by
  have h8 := hv.2.2.2.1
  obtain ⟨M1, f1, f2, f3, f4⟩ := v_listC (d := d + 2) (M := M) hp.2.2.2.1 h8 hr.2.1 hR h6
  obtain ⟨t, ht⟩ := headN (opn p r) h6
  have hck := chkN (opn p r) h6
  have hln := lenN (opn p r) h6
  rw [ht] at hck hln
  rw [List.length_cons] at hln
  have ho : ∀ m, m < 6 → M1 28 m = nI ((fun m => if m < opn p r then opl p r m else (M1 28 m).toBitVec.toNat) m) := fun m hm => by
    show _ = nI (if m < opn p r then opl p r m else (M1 28 m).toBitVec.toNat)
    by_cases q : m < opn p r
    · rw [if_pos q]; exact f4 m q
    · rw [if_neg q]; exact nI_self _
  obtain ⟨M', e1, e2, e3⟩ := v_seekL (d := d) (ln := ln) (pi := pi) (pa := pa) hv hl h6 hr htb t (List.range (opn p r)) 1000000 0 (fun m => if m < opn p r then opl p r m else (M1 28 m).toBitVec.toNat) (fun j => (M1 29 j).toBitVec.toNat) M1 .null hck (by omega) (by omega) f3 ho (relO_first (fun j hj => if_pos hj)) (fun j _ => nI_self _) (patC_fr hp (fun c c1 c2 => f2 c (by omega) (by omega))) (by rw [f2 16 (by decide) (by decide), f2 17 (by decide) (by decide)]; exact hR)
  rw [← ht, seek_first hv hr h6 (by omega)] at e1 e3
  refine ⟨M', ?_, fun c a0 a1 a2 a3 a4 => by rw [e2 c a1 a2 a3 a4, f2 c a0 a3], by rw [e2 25 (by decide) (by decide) (by decide) (by decide)]; exact f3, e3⟩
  rw [sg_40_0_0, f1, lc_bk0, sg_40_0_4]
  exact e1
