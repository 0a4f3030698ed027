/-! orders tried: the reference's side -/
def patM (p : aPat) (M : lc_M) : Prop := cPat p (fun k => M 43 (k + 2)) (M 46) (M 47) (M 48) (M 49) (M 50)
theorem patM_fr {p : aPat} {M M' : lc_M} (h : patM p M) (e : ∀ c, 46 ≤ c → c ≤ 50 → M' c = M c) (e3 : ∀ k, 2 ≤ k → k ≤ 5 → M' 43 k = M 43 k) : patM p M' := by
  unfold patM at h ⊢
  rw [e 46 (by decide) (by decide), e 47 (by decide) (by decide), e 48 (by decide) (by decide), e 49 (by decide) (by decide), e 50 (by decide) (by decide)]
  obtain ⟨q1, q2, q3, q4, q5⟩ := h
  exact ⟨(e3 2 (by decide) (by decide)).trans q1, (e3 3 (by decide) (by decide)).trans q2, (e3 4 (by decide) (by decide)).trans q3, (e3 5 (by decide) (by decide)).trans q4, q5⟩
theorem v_firstL {d : Nat} {p : aPat} {r : aRow} (h8 : pNx p ≤ 8) (hh : ∀ x, x < pNx p → rHow r x ≤ 2) (h6 : opn p r ≤ 6) : ∀ (k i : Nat) (M : lc_M), i + k = pNx p → M 43 5 = nI (pNx p) → mRowAt p r (M 44) 0 → M 43 25 = nI (opN (wayB r 0) i) → (∀ j, j < opN (wayB r 0) i → M 52 j = nI (lsF (wayB r 0) i j)) → ∃ M', lc_val d 156 7 [.ref 43, .int (nI i)] [] lc_SH M = some (none, lc_SH, M') ∧ (∀ c, c ≠ 43 → c ≠ 52 → M' c = M c) ∧ (∀ j, j ≠ 25 → M' 43 j = M 43 j) ∧ M' 43 25 = nI (opn p r) ∧ ∀ j, j < opn p r → M' 52 j = nI (opl p r j)
  | 0, i, M, h, h5, hr, hc, hl => by
    obtain rfl : i = pNx p := by omega
    refine ⟨M, ?_, fun _ _ _ => rfl, fun _ _ => rfl, hc, hl⟩
    rw [sg_156_0_7, h5, if_pos (nI_le (by omega) (by omega))]
  | k + 1, i, M, h, h5, hr, hc, hl => by
    have hle := opN_sub (f := wayB r 0) (pNx p) (show i + 1 ≤ pNx p by omega)
    have h12 : (12 : Int32) + nI i = nI (12 + i) := nI_add 12 i
    have hhow : M 44 (12 + i) = nI (rHow r i) := by
      have := hr.2.2.1 i (by omega)
      rw [Nat.zero_add] at this
      exact this
    have hhi := hh i (by omega)
    have h6' : opN (wayB r 0) (pNx p) ≤ 6 := h6
    rw [sg_156_0_7, h5, if_neg (nI_ge (by omega) (by omega)), lc_it_val, sg_156_0_15, h12, if_pos (nI_in (by omega) (by decide)), nI_clamp (by omega), hhow]
    by_cases q : wayB r 0 i = true
    · have h0 : rHow r i = 0 := by unfold wayB at q; simpa using q
      rw [opN_up1 q] at hle
      have c43 : ∀ j, lc_up (lc_up M 52 (opN (wayB r 0) i) (nI i)) 43 25 (nI (opN (wayB r 0) i + 1)) 43 j = if j = 25 then nI (opN (wayB r 0) i + 1) else M 43 j := fun j => by rw [up_at, if_pos rfl, up_ne (by decide)]
      have c52 : ∀ j, lc_up (lc_up M 52 (opN (wayB r 0) i) (nI i)) 43 25 (nI (opN (wayB r 0) i + 1)) 52 j = if j = opN (wayB r 0) i then nI i else M 52 j := fun j => by rw [up_ne (by decide), up_at, if_pos rfl]
      obtain ⟨M', e1, e2, e3, e4, e5⟩ := v_firstL (d := d) h8 hh h6 k (i + 1) (lc_up (lc_up M 52 (opN (wayB r 0) i) (nI i)) 43 25 (nI (opN (wayB r 0) i + 1))) (by omega) (by rw [c43, if_neg (by decide)]; exact h5) (by rw [up_ne (by decide), up_ne (by decide)]; exact hr) (by rw [c43, if_pos rfl, opN_up1 q]) (fun j hj => by
        rw [c52, lsF, if_pos q]
        show _ = nI (if j = opN (wayB r 0) i then i else lsF (wayB r 0) i j)
        by_cases e : j = opN (wayB r 0) i
        · rw [if_pos e, if_pos e]
        · rw [if_neg e, if_neg e]
          rw [opN_up1 q] at hj
          exact hl j (by omega))
      refine ⟨M', ?_, fun c a1 a2 => by rw [e2 c a1 a2, up_ne a1, up_ne a2], fun j hj => by rw [e3 j hj, c43, if_neg hj], e4, e5⟩
      rw [h0, if_neg (fun z => z rfl), lc_it_val, sg_156_0_27, hc, if_pos (nI_in (by omega) (by decide)), nI_clamp (by omega), nI_1, nI_1]
      exact e1
    · have h0 : ¬ rHow r i = 0 := fun z => q (by unfold wayB; simp [z])
      obtain ⟨M', e1, e2, e3, e4, e5⟩ := v_firstL (d := d) h8 hh h6 k (i + 1) M (by omega) h5 hr (by rw [opN_up0 q]; exact hc) (fun j hj => by
        rw [lsF, if_neg q]
        rw [opN_up0 q] at hj
        exact hl j hj)
      refine ⟨M', ?_, e2, e3, e4, e5⟩
      rw [if_pos (nI_ne0 (by omega) (by omega)), nI_1]
      exact e1
theorem v_firstM {d : Nat} {p : aPat} {r : aRow} {M : lc_M} (h8 : pNx p ≤ 8) (hh : ∀ x, x < pNx p → rHow r x ≤ 2) (h6 : opn p r ≤ 6) (h5 : M 43 5 = nI (pNx p)) (hr : mRowAt p r (M 44) 0) : ∃ M', lc_val d 156 0 [.ref 43, .null] [] lc_SH M = some (none, lc_SH, M') ∧ (∀ c, c ≠ 43 → c ≠ 52 → M' c = M c) ∧ (∀ j, j ≠ 25 → M' 43 j = M 43 j) ∧ M' 43 25 = nI (opn p r) ∧ ∀ j, j < opn p r → M' 52 j = nI (opl p r j) := by
  obtain ⟨M', e1, e2, e3, e4, e5⟩ := v_firstL (d := d) h8 hh h6 (pNx p) 0 (lc_up M 43 25 0) (by omega) (by rw [up_at, if_pos rfl, if_neg (by decide)]; exact h5) (by rw [up_ne (by decide)]; exact hr) (by rw [up_at, if_pos rfl, if_pos rfl]; rfl) (fun j hj => by rw [opN] at hj; omega)
  refine ⟨M', ?_, fun c a1 a2 => by rw [e2 c a1 a2, up_ne a1], fun j hj => by rw [e3 j hj, up_at, if_pos rfl, if_neg hj], e4, e5⟩
  rw [sg_156_0_0]
  exact e1
theorem v_ringAll {d ln n : Nat} {p : aPat} {a : Nat → Nat} (hv : vPat p) (hl : ln ≤ 3) (hn : n ≤ 6) (ha : ∀ j, j < n → a j < pNx p) : ∀ (k i tb pb : Nat) (r : aRow) (M : lc_M), i + k = n → vRowG tb pb p r → M 43 25 = nI n → (∀ j, j < n → M 52 j = nI (a j)) → patM p M → mRowAt p r (M 44) 30 → ∃ M', lc_val (d + 3) 159 2 [.ref 43, .int (nI ln), .int (nI i)] [] lc_SH M = some (none, lc_SH, M') ∧ (∀ c, c ≠ 44 → M' c = M c) ∧ (∀ j, (j < 30 ∨ 58 ≤ j) → M' 44 j = M 44 j) ∧ mRowAt p (begK p ln a k i r) (M' 44) 30
  | 0, i, tb, pb, r, M, h, hr, hc, ho, hp, ht => by
    refine ⟨M, ?_, fun _ _ => rfl, fun _ _ => rfl, ht⟩
    rw [sg_159_0_2, hc, if_pos (nI_le (by omega) (by omega))]
  | k + 1, i, tb, pb, r, M, h, hr, hc, ho, hp, ht => by
    have hai := ha i (by omega)
    have hcan := v_canM (d := d) (at0 := 30) (M := M) hp hv (by decide) hr.2.1 ht hai hl
    rw [sg_159_0_2, hc, if_neg (nI_ge (by omega) (by omega)), lc_it_val, sg_159_0_10, if_pos (nI_in (by omega) (by decide)), nI_clamp (by omega), ho i (by omega), show (.int 30 : Value) = .int (nI 30) from rfl, hcan, lc_bk1, sg_159_0_23, begK]
    by_cases q : canB p r ln (a i) = true
    · obtain ⟨M1, f1, f2, f3, f4⟩ := v_ringM (d := d + 2) (at0 := 30) (M := M) hp hv (by decide) ht hai
      obtain ⟨M', e1, e2, e3, e4⟩ := v_ringAll (d := d) hv hl hn ha k (i + 1) tb pb (ringR p r (a i)) M1 (by omega) (vRowG_ring hv hr hai q) (by rw [f2 43 (by decide)]; exact hc) (fun j hj => by rw [f2 52 (by decide)]; exact ho j hj) (patM_fr hp (fun c c1 c2 => f2 c (by omega)) (fun k _ _ => by rw [f2 43 (by decide)])) f4
      refine ⟨M', ?_, fun c a1 => by rw [e2 c a1, f2 c a1], fun j hj => by rw [e3 j hj, f3 j (by omega)], by rw [if_pos q]; exact e4⟩
      rw [q, if_neg (show ¬ bI true = 0 by decide), if_pos (nI_in (by omega) (by decide)), nI_clamp (by omega), ho i (by omega), show (.int 30 : Value) = .int (nI 30) from rfl, f1, lc_bk0, sg_159_0_38, nI_1]
      exact e1
    · obtain ⟨M', e1, e2, e3, e4⟩ := v_ringAll (d := d) hv hl hn ha k (i + 1) tb pb r M (by omega) hr hc ho hp ht
      refine ⟨M', ?_, e2, e3, by rw [if_neg q]; exact e4⟩
      rw [show canB p r ln (a i) = false by simpa using q, if_pos (show bI false = 0 by decide), lc_it_val, sg_159_0_38, nI_1]
      exact e1
theorem all_bs {f : Nat → Bool} {n : Nat} : bs f n = 2 ^ n - 1 ↔ ∀ x, x < n → f x = true := by
  constructor
  · intro h x hx
    have := congrArg (fun z => Nat.testBit z x) h
    simp only [bs_bit, full_bit] at this
    simpa [hx] using this
  · intro h
    apply Nat.eq_of_testBit_eq
    intro x
    rw [bs_bit, full_bit]
    by_cases hx : x < n
    · simp [hx, h x hx]
    · simp [hx]
theorem v_allDone {d : Nat} {p : aPat} {r : aRow} {M : lc_M} (h8 : pNx p ≤ 8) (hh : ∀ x, x < pNx p → rHow r x ≤ 2) (h5 : M 43 5 = nI (pNx p)) (hr : mRowAt p r (M 44) 30) : lc_val (d + 2) 160 0 [.ref 43] [] lc_SH M = some (some (.int (if nd p r = 0 then 1 else 0)), lc_SH, M) := by
  have hway : lc_val (d + 1) 134 0 [.ref 43, .int 30, .int 2, .null, .null] [] lc_SH M = some (some (.int (nI (bs (wayB r 2) (pNx p)))), lc_SH, M) := by
    rw [sg_134_0_0]
    exact v_inWay (at0 := 30) (w := 2) (how := rHow r) h5 h8 (by decide) (fun x hx => ⟨hr.2.2.1 x hx, hh x hx⟩) (by decide) (pNx p) 0 (by omega)
  have hb := bs_256 (f := wayB r 2) h8
  have hp : 2 ^ pNx p ≤ 256 := Nat.pow_le_pow_right (n := 2) (by decide) h8
  rw [sg_160_0_0, hway, lc_bk1, sg_160_0_7, h5, full_b _ h8]
  have key : nI (bs (wayB r 2) (pNx p)) = nI (2 ^ pNx p - 1) ↔ nd p r = 0 := by
    rw [nI_eq (by omega) (by omega), all_bs, nd_zero]
    constructor
    · intro h x hx
      have := h x hx
      unfold wayB at this
      simpa using this
    · intro h x hx
      unfold wayB
      simp [h x hx]
  by_cases q : nd p r = 0
  · rw [if_neg (fun z => z (key.mpr q)), if_pos q]
  · rw [if_pos (fun z => q (key.mp z)), if_neg q]
/-- one minute of the row that is tried -/
theorem v_minM1 {d ln n tb pb : Nat} {p : aPat} {a : Nat → Nat} {r : aRow} {M : lc_M} (hv : vPat p) (hl : ln ≤ 3) (hn : n ≤ 6) (ha : ∀ j, j < n → a j < pNx p) (hr : vRowG tb pb p r) (htb : tb ≤ 5000) (hc : M 43 25 = nI n) (ho : ∀ j, j < n → M 52 j = nI (a j)) (hp : patM p M) (ht : mRowAt p r (M 44) 30) : ∃ M1 M2, lc_val (d + 3) 159 0 [.ref 43, .int (nI ln), .null] [] lc_SH M = some (none, lc_SH, M1) ∧ lc_val (d + 3) 145 0 [.ref 43, .int 30, .null] [] lc_SH M1 = some (none, lc_SH, M2) ∧ (∀ c, c ≠ 43 → c ≠ 44 → M2 c = M c) ∧ (∀ j, j ≠ 21 → M2 43 j = M 43 j) ∧ (∀ j, (j < 30 ∨ 59 ≤ j) → M2 44 j = M 44 j) ∧ mRowAt p (mst p ln n a r) (M2 44) 30 ∧ ∀ K, K < 64 → M 43 21 = nI K → M2 43 21 = nI (knowL p (finB (tickR (begK p ln a n 0 r))) (pNx p) 0 K) := by
  obtain ⟨M1, f1, f2, f3, f4⟩ := v_ringAll (d := d) hv hl hn ha n 0 tb pb r M (by omega) hr hc ho hp ht
  have hb := begK_v (ln := ln) hv ha n 0 r (by omega) hr
  obtain ⟨M2, g1, g2, g3, g4, g5, g6⟩ := v_passM (d := d + 1) (at0 := 30) (M := M1) hv hb htb (by decide) (patM_fr hp (fun c c1 c2 => f2 c (by omega)) (fun k _ _ => by rw [f2 43 (by decide)])) f4
  refine ⟨M1, M2, ?_, g1, fun c a1 a2 => by rw [g2 c a1 a2, f2 c a2], fun j hj => by rw [g3 j hj, f2 43 (by decide)], fun j hj => by rw [g4 j (by omega), f3 j (by omega)], g5, fun K hK hk => g6 K hK (by rw [f2 43 (by decide)]; exact hk)⟩
  rw [sg_159_0_0]
  exact f1
theorem v_goL {d ln n : Nat} {p : aPat} {a : Nat → Nat} (hv : vPat p) (hl : ln ≤ 3) (hn : n ≤ 6) (ha : ∀ j, j < n → a j < pNx p) : ∀ (f n0 tb pb : Nat) (r : aRow) (M : lc_M), minT p ln n a (f + 1) r ≤ f → n0 + f < 999 → vRowG tb pb p r → tb + f ≤ 5000 → M 43 25 = nI n → (∀ j, j < n → M 52 j = nI (a j)) → patM p M → mRowAt p r (M 44) 30 → ∃ M', lc_val (d + 4) 161 9 [.ref 43, .int (nI ln), .int (nI n0)] [] lc_SH M = some (some (.int (nI (n0 + minT p ln n a (f + 1) r))), lc_SH, M') ∧ (∀ c, c ≠ 43 → c ≠ 44 → M' c = M c) ∧ (∀ j, j ≠ 21 → M' 43 j = M 43 j) ∧ (∀ j, (j < 30 ∨ 59 ≤ j) → M' 44 j = M 44 j)
  | 0, n0, tb, pb, r, M, hm, hf, hr, htb, hc, ho, hp, ht => by
    have h8 := hv.2.2.2.1
    rw [minT] at hm
    by_cases q : nd p r = 0
    · refine ⟨M, ?_, fun _ _ _ => rfl, fun _ _ => rfl, fun _ _ => rfl⟩
      rw [sg_161_0_9, v_allDone h8 hr.2.1 hp.2.2.2.1 ht, lc_bk1, sg_161_0_13, if_pos q, if_pos (by decide), minT, if_pos q]
      rfl
    · rw [if_neg q] at hm; omega
  | f + 1, n0, tb, pb, r, M, hm, hf, hr, htb, hc, ho, hp, ht => by
    have h8 := hv.2.2.2.1
    rw [minT] at hm ⊢
    by_cases q : nd p r = 0
    · refine ⟨M, ?_, fun _ _ _ => rfl, fun _ _ => rfl, fun _ _ => rfl⟩
      rw [sg_161_0_9, v_allDone h8 hr.2.1 hp.2.2.2.1 ht, lc_bk1, sg_161_0_13, if_pos q, if_pos (by decide), if_pos q]
      rfl
    · rw [if_neg q] at hm ⊢
      obtain ⟨M1, M2, g1, g2, g3, g4, g5, g6, _⟩ := v_minM1 (d := d) (M := M) hv hl hn ha hr (by omega) hc ho hp ht
      have hb := begK_v (ln := ln) hv ha n 0 r (by omega) hr
      obtain ⟨M', e1, e2, e3, e4⟩ := v_goL (d := d) hv hl hn ha f (n0 + 1) (tb + 1) (pb + 15840) (mst p ln n a r) M2 (by omega) (by omega) (vRowG_pass hv hb) (by omega) (by rw [g4 25 (by decide)]; exact hc) (fun j hj => by rw [g3 52 (by decide) (by decide)]; exact ho j hj) (patM_fr hp (fun c c1 c2 => g3 c (by omega) (by omega)) (fun k _ _ => g4 k (by omega))) g6
      refine ⟨M', ?_, fun c a1 a2 => by rw [e2 c a1 a2, g3 c a1 a2], fun j hj => by rw [e3 j hj, g4 j hj], fun j hj => by rw [e4 j hj, g5 j hj]⟩
      rw [sg_161_0_9, v_allDone h8 hr.2.1 hp.2.2.2.1 ht, lc_bk1, sg_161_0_13, if_neg q, if_neg (fun z => z rfl), if_neg (show ¬ (999 : Int32) ≤ nI n0 from nI_ge (b := 999) (by omega) (by decide)), g1, lc_bk0, sg_161_0_28, g2, lc_bk0, sg_161_0_34, nI_1, show n0 + (1 + minT p ln n a (f + 1) (mst p ln n a r)) = n0 + 1 + minT p ln n a (f + 1) (mst p ln n a r) by omega]
      exact e1
theorem v_goBy {d ln n tb pb : Nat} {p : aPat} {a : Nat → Nat} {r : aRow} {M : lc_M} (hv : vPat p) (hl1 : 1 ≤ ln) (hl : ln ≤ 3) (hn : n ≤ 6) (ha : ∀ j, j < n → a j < pNx p) (hcov : cov p n a r) (hr : vRowG tb pb p r) (htb : tb ≤ 4000) (hc : M 43 25 = nI n) (ho : ∀ j, j < n → M 52 j = nI (a j)) (hp : patM p M) (ht : mRowAt p r (M 44) 0) : ∃ M', lc_val (d + 4) 161 0 [.ref 43, .int (nI ln), .null] [] lc_SH M = some (some (.int (nI (totE p ln n a 9 r))), lc_SH, M') ∧ (∀ c, c ≠ 43 → c ≠ 44 → M' c = M c) ∧ (∀ j, j ≠ 21 → M' 43 j = M 43 j) ∧ (∀ j, (j < 30 ∨ 60 ≤ j) → M' 44 j = M 44 j) := by
  have h8 := hv.2.2.2.1
  obtain ⟨M1, f1, f2, f3, f4⟩ := v_copyM (d := d + 3) (a := 0) (b := 30) (M := M) (by decide) (by decide) (Or.inl (by decide))
  have hts := tot_small (ln := ln) hv ha hr
  have hnd : nd p r ≤ 9 := by
    have := opN_le (f := fun x => !decide (rHow r x = 2)) (pNx p)
    show opN _ _ ≤ 9
    omega
  have hmt := minT_tot hv ha hl1 9 tb pb (totE p ln n a 9 r + 1) r hr hcov hnd (by omega)
  obtain ⟨M', e1, e2, e3, e4⟩ := v_goL (d := d) hv hl hn ha (totE p ln n a 9 r) 0 tb pb r M1 (by omega) (by omega) hr (by omega) (by rw [f2 43 (by decide)]; exact hc) (fun j hj => by rw [f2 52 (by decide)]; exact ho j hj) (patM_fr hp (fun c c1 c2 => f2 c (by omega)) (fun k _ _ => by rw [f2 43 (by decide)])) (mRowAt_cp h8 ht f4)
  rw [hmt, Nat.zero_add] at e1
  refine ⟨M', ?_, fun c a1 a2 => by rw [e2 c a1 a2, f2 c a2], fun j hj => by rw [e3 j hj, f2 43 (by decide)], fun j hj => by rw [e4 j (by omega), f3 j (by omega)]⟩
  rw [sg_161_0_0, show (.int 0 : Value) = .int (nI 0) from rfl, show (.int 30 : Value) = .int (nI 30) from rfl, f1, lc_bk0, sg_161_0_7]
  exact e1
/-- the best order is written down -/
theorem v_bestL {d n : Nat} {x1 x2 x3 x4 : Int32} (hn : n ≤ 6) : ∀ (k i : Nat) (M : lc_M), i + k = n → M 43 25 = nI n → ∃ M', lc_val (d + 1) 162 32 [.ref 43, .int x1, .int x2, .int x3, .int x4, .int (nI i)] [] lc_SH M = lc_val (d + 1) 162 61 [.ref 43, .int x1, .int x2, .int x3, .int x4, .int (nI n)] [] lc_SH M' ∧ (∀ c, c ≠ 53 → M' c = M c) ∧ ∀ j, M' 53 j = if i ≤ j ∧ j < n then M 52 j else M 53 j
  | 0, i, M, h, hc => by
    obtain rfl : i = n := by omega
    refine ⟨M, ?_, fun _ _ => rfl, fun j => by rw [if_neg (by omega)]⟩
    rw [sg_162_0_32, hc, if_pos (nI_le (by omega) (by omega))]
  | k + 1, i, M, h, hc => by
    obtain ⟨M', e1, e2, e3⟩ := v_bestL (d := d) (x1 := x1) (x2 := x2) (x3 := x3) (x4 := x4) hn k (i + 1) (lc_up M 53 i (M 52 i)) (by omega) (by rw [up_ne (by decide)]; exact hc)
    refine ⟨M', ?_, fun c hc => by rw [e2 c hc, up_ne hc], fun j => ?_⟩
    · rw [sg_162_0_32, hc, if_neg (nI_ge (by omega) (by omega)), sg_162_0_41, if_pos (nI_in (by omega) (by decide)), if_pos (nI_in (by omega) (by decide)), nI_clamp (by omega), nI_1]
      exact e1
    · rw [e3, up_ne (c := 52) (by decide), up_at, if_pos rfl]
      by_cases e : j = i
      · rw [if_neg (by omega), if_pos e, if_pos (by omega), e]
      · rw [if_neg e]
        by_cases q : i + 1 ≤ j ∧ j < n
        · rw [if_pos q, if_pos (by omega)]
        · rw [if_neg q, if_neg (by omega)]
def frM (M' M : lc_M) : Prop := (∀ c, c ≠ 43 → c ≠ 44 → c ≠ 52 → c ≠ 53 → M' c = M c) ∧ (∀ j, j ≠ 21 → j ≠ 25 → M' 43 j = M 43 j) ∧ ∀ j, (j < 30 ∨ 60 ≤ j) → M' 44 j = M 44 j
theorem frM_trans {M1 M2 M3 : lc_M} (h : frM M1 M2) (g : frM M2 M3) : frM M1 M3 := ⟨fun c a1 a2 a3 a4 => (h.1 c a1 a2 a3 a4).trans (g.1 c a1 a2 a3 a4), fun j h1 h2 => (h.2.1 j h1 h2).trans (g.2.1 j h1 h2), fun j hj => (h.2.2 j hj).trans (g.2.2 j hj)⟩
theorem frM_pat {p : aPat} {M M' : lc_M} (h : frM M' M) (hp : patM p M) : patM p M' := patM_fr hp (fun c c1 c2 => h.1 c (by omega) (by omega) (by omega) (by omega)) (fun k _ _ => h.2.1 k (by omega) (by omega))
theorem frM_row {p : aPat} {r : aRow} {M M' : lc_M} (h8 : pNx p ≤ 8) (h : frM M' M) (hr : mRowAt p r (M 44) 0) : mRowAt p r (M' 44) 0 := mRowAt_fr h8 hr (fun j _ h2 => h.2.2 j (by omega))
theorem frM_rep {S : aSt} {M M' : lc_M} (h8 : pNx (sP S) ≤ 8) (h : frM M' M) (hM : repM S M) : repM S M' := repM_fr h8 hM (fun c c1 c2 => h.1 c (by omega) (by omega) (by omega) (by omega)) (fun c hc => h.1 c (by omega) (by omega) (by omega) (by omega)) (fun k hk => h.2.1 k (by omega) (by omega)) h.2.2
theorem cov_rel {p : aPat} {r : aRow} {x : List Nat} {a : Nat → Nat} (hrel : relO (opn p r) (opl p r) a (atL x)) (hs : ∀ i, i < opn p r → ∃ j, j < opn p r ∧ atL x j = i) : cov p (opn p r) a r := fun y hy h0 => by
  obtain ⟨i, i1, i2⟩ := lsF_cov (f := wayB r 0) (x := y) (pNx p) hy (by unfold wayB; simp [h0])
  obtain ⟨j, j1, j2⟩ := hs i i1
  refine ⟨j, j1, ?_⟩
  rw [(hrel j j1).1, j2]
  exact i2
def surP (n : Nat) (x : List Nat) : Bool := (List.range n).all (fun i => (List.range n).any (fun j => atL x j == i))
theorem surP_ex {n : Nat} {x : List Nat} (h : surP n x = true) : ∀ i, i < n → ∃ j, j < n ∧ atL x j = i := fun i hi => by
  have h1 := List.all_eq_true.mp h i (List.mem_range.mpr hi)
  obtain ⟨j, j1, j2⟩ := List.any_eq_true.mp h1
  exact ⟨j, List.mem_range.mp j1, eq_of_beq j2⟩
theorem sur0 : (permN 0).all (surP 0) = true := by decide +kernel
theorem sur1 : (permN 1).all (surP 1) = true := by decide +kernel
theorem sur2 : (permN 2).all (surP 2) = true := by decide +kernel
theorem sur3 : (permN 3).all (surP 3) = true := by decide +kernel
theorem sur4 : (permN 4).all (surP 4) = true := by decide +kernel
theorem sur5 : (permN 5).all (surP 5) = true := by decide +kernel
theorem sur6 : (permN 6).all (surP 6) = true := by decide +kernel
theorem surN : ∀ n, n ≤ 6 → (permN n).all (surP n) = true
  | 0, _ => sur0
  | 1, _ => sur1
  | 2, _ => sur2
  | 3, _ => sur3
  | 4, _ => sur4
  | 5, _ => sur5
  | 6, _ => sur6
  | n + 7, h => by omega
/-- one turn of the search: an order tried, kept if it is better -/
theorem v_turnM {d ln tb pb F : Nat} {p : aPat} {r : aRow} {x : List Nat} {a b : Nat → Nat} {M : lc_M} {v4 v5 : Value} (hv : vPat p) (hl1 : 1 ≤ ln) (hl : ln ≤ 3) (h6 : opn p r ≤ 6) (hr : vRowG tb pb p r) (htb : tb ≤ 4000) (hF : F ≤ 99999999) (hc : M 43 25 = nI (opn p r)) (ho : ∀ m, m < 6 → M 52 m = nI (a m)) (hrel : relO (opn p r) (opl p r) a (atL x)) (hs : surP (opn p r) x = true) (hb : ∀ j, j < opn p r → M 53 j = nI (b j)) (hp : patM p M) (ht : mRowAt p r (M 44) 0) : ∃ (M2 : lc_M) (F' : Nat) (b' : Nat → Nat) (v4' v5' : Value), lc_val (d + 5) 162 9 [.ref 43, .int (nI ln), .int (nI F), .int 1, v4, v5] [] lc_SH M = lc_back 59 (fun st' Sh' M' => lc_val (d + 5) 162 65 [.ref 43, .int (nI ln), .int (nI F'), .int 1, v4', v5'] st' Sh' M') [] (lc_val (d + 4) 158 0 [.ref 43, .null, .null, .null, .null] [] lc_SH M2) ∧ (∃ z, v4' = .int z) ∧ frM M2 M ∧ M2 43 25 = nI (opn p r) ∧ M2 52 = M 52 ∧ (∀ j, j < opn p r → M2 53 j = nI (b' j)) ∧ F' ≤ 99999999 ∧ (∀ rest, seekL p ln (opn p r) r (opl p r) (x :: rest) F b = seekL p ln (opn p r) r (opl p r) rest F' b') := by
  have hlt := rel_lt hrel
  obtain ⟨M1, f1, f2, f3, f4⟩ := v_goBy (d := d) (M := M) hv hl1 hl h6 hlt (cov_rel hrel (surP_ex hs)) hr htb hc (fun j hj => ho j (by omega)) hp ht
  have hte : totE p ln (opn p r) a 9 r = totE p ln (opn p r) (ordL (opl p r) x) 9 r := totE_a (fun i hi => (hrel i hi).1) 9 r
  have hts := tot_small (ln := ln) hv hlt hr
  rw [hte] at f1 hts
  have fr1 : frM M1 M := ⟨fun c a1 a2 _ _ => f2 c a1 a2, fun j h1 _ => f3 j h1, f4⟩
  have pre : lc_val (d + 5) 162 9 [.ref 43, .int (nI ln), .int (nI F), .int 1, v4, v5] [] lc_SH M = lc_val (d + 5) 162 18 [.ref 43, .int (nI ln), .int (nI F), .int 1, v4, v5] [.int (nI (totE p ln (opn p r) (ordL (opl p r) x) 9 r))] lc_SH M1 := by
    rw [sg_162_0_9, if_neg (by decide), f1, lc_bk1]
  by_cases q : totE p ln (opn p r) (ordL (opl p r) x) 9 r < F
  · obtain ⟨M2, e1, e2, e3⟩ := v_bestL (d := d + 4) (x1 := nI ln) (x2 := nI (totE p ln (opn p r) (ordL (opl p r) x) 9 r)) (x3 := 1) (x4 := nI (totE p ln (opn p r) (ordL (opl p r) x) 9 r)) h6 (opn p r) 0 M1 (by omega) (by rw [f3 25 (by decide)]; exact hc)
    refine ⟨M2, totE p ln (opn p r) (ordL (opl p r) x) 9 r, ordL (opl p r) x, .int (nI (totE p ln (opn p r) (ordL (opl p r) x) 9 r)), .int (nI (opn p r)), ?_, ⟨_, rfl⟩, frM_trans ⟨fun c a1 a2 a3 a4 => e2 c a4, fun j _ _ => by rw [e2 43 (by decide)], fun j _ => by rw [e2 44 (by decide)]⟩ fr1, by rw [e2 43 (by decide), f3 25 (by decide)]; exact hc, by rw [e2 52 (by decide), f2 52 (by decide) (by decide)], fun j hj => ?_, by omega, fun rest => by rw [seekL, if_pos q]⟩
    · rw [pre, sg_162_0_18, if_neg (nI_ge q (by omega)), show (.int 0 : Value) = .int (nI 0) from rfl, e1, sg_162_0_61]
    · rw [e3, if_pos (by omega), f2 52 (by decide) (by decide), ho j (by omega), (hrel j hj).1]
      rfl
  · refine ⟨M1, F, b, .int (nI (totE p ln (opn p r) (ordL (opl p r) x) 9 r)), v5, ?_, ⟨_, rfl⟩, fr1, by rw [f3 25 (by decide)]; exact hc, f2 52 (by decide) (by decide), fun j hj => by rw [f2 53 (by decide) (by decide)]; exact hb j hj, hF, fun rest => by rw [seekL, if_neg q]⟩
    rw [pre, sg_162_0_18, if_pos (nI_le (by omega) (by omega)), lc_it_val, sg_162_0_61]
theorem v_seekML {d ln tb pb : Nat} {p : aPat} {r : aRow} (hv : vPat p) (hl1 : 1 ≤ ln) (hl : ln ≤ 3) (h6 : opn p r ≤ 6) (hr : vRowG tb pb p r) (htb : tb ≤ 4000) : ∀ (rest : List (List Nat)) (x : List Nat) (F : Nat) (a b : Nat → Nat) (M : lc_M) (v4 v5 : Value), chkP (opn p r) (x :: rest) = true → (x :: rest).all (surP (opn p r)) = true → F ≤ 99999999 → M 43 25 = nI (opn p r) → (∀ m, m < 6 → M 52 m = nI (a m)) → relO (opn p r) (opl p r) a (atL x) → (∀ j, j < opn p r → M 53 j = nI (b j)) → patM p M → mRowAt p r (M 44) 0 → ∃ M', lc_val (d + 5) 162 9 [.ref 43, .int (nI ln), .int (nI F), .int 1, v4, v5] [] lc_SH M = some (some (.int (nI (seekL p ln (opn p r) r (opl p r) (x :: rest) F b).1)), lc_SH, M') ∧ frM M' M ∧ M' 43 25 = nI (opn p r) ∧ ∀ j, j < opn p r → M' 53 j = nI ((seekL p ln (opn p r) r (opl p r) (x :: rest) F b).2 j) := by
  intro rest
  induction rest with
  | nil =>
    intro x F a b M v4 v5 hck hsu hF hc ho hrel hb hp ht
    have h8 := hv.2.2.2.1
    have hlt := rel_lt hrel
    rw [List.all_cons, Bool.and_eq_true] at hsu
    obtain ⟨M2, F', b', v4', v5', g1, ⟨z, hz⟩, g2, g3, g4, g5, g6, g7⟩ := v_turnM (d := d) (M := M) (v4 := v4) (v5 := v5) hv hl1 hl h6 hr htb hF hc ho hrel hsu.1 hb hp ht
    obtain ⟨M3, k1, k2⟩ := v_nextM (d := d + 2) (n := opn p r) (a := a) (M := M2) h6 g3 (fun m hm => by rw [g4]; exact ho m hm) (fun m hm => by have := hlt m hm; omega)
    rw [chk_last opl_mono hrel hck] at k2
    obtain ⟨k2, k3⟩ := k2
    subst hz
    rw [g7, seekL]
    refine ⟨M2, ?_, g2, g3, g5⟩
    rw [g1, k2, lc_bk1, sg_162_0_65, sg_162_0_9, if_pos rfl, k3]
  | cons y rest ih =>
    intro x F a b M v4 v5 hck hsu hF hc ho hrel hb hp ht
    have h8 := hv.2.2.2.1
    have hlt := rel_lt hrel
    rw [List.all_cons, Bool.and_eq_true] at hsu
    obtain ⟨M2, F', b', v4', v5', g1, ⟨z, hz⟩, g2, g3, g4, g5, g6, g7⟩ := v_turnM (d := d) (M := M) (v4 := v4) (v5 := v5) hv hl1 hl h6 hr htb hF hc ho hrel hsu.1 hb hp ht
    obtain ⟨M3, k1, k2⟩ := v_nextM (d := d + 2) (n := opn p r) (a := a) (M := M2) h6 g3 (fun m hm => by rw [g4]; exact ho m hm) (fun m hm => by have := hlt m hm; omega)
    obtain ⟨hck', a', hnx, hrel'⟩ := chk_step opl_mono hrel hck
    rw [hnx] at k2
    obtain ⟨k2, k3⟩ := k2
    subst hz
    have fr3 : frM M3 M := frM_trans ⟨fun c _ _ a3 _ => k1 c a3, fun j _ _ => by rw [k1 43 (by decide)], fun j _ => by rw [k1 44 (by decide)]⟩ g2
    obtain ⟨M', e1, e2, e3, e4⟩ := ih y F' a' b' M3 (.int z) v5' hck' hsu.2 g6 (by rw [k1 43 (by decide)]; exact g3) k3 hrel' (fun j hj => by rw [k1 53 (by decide)]; exact g5 j hj) (frM_pat fr3 hp) (frM_row h8 fr3 ht)
    rw [g7]
    refine ⟨M', ?_, frM_trans e2 fr3, e3, e4⟩
    rw [g1, k2, lc_bk1, sg_162_0_65]
    exact e1
theorem v_seekM {d ln tb pb : Nat} {p : aPat} {r : aRow} {M : lc_M} (hv : vPat p) (hl1 : 1 ≤ ln) (hl : ln ≤ 3) (h6 : opn p r ≤ 6) (hr : vRowG tb pb p r) (htb : tb ≤ 4000) (hp : patM p M) (ht : mRowAt p r (M 44) 0) : ∃ M', lc_val (d + 5) 162 0 [.ref 43, .int (nI ln), .null, .null, .null, .null] [] lc_SH M = some (some (.int (nI (soonP p ln r).1)), lc_SH, M') ∧ frM M' M ∧ M' 43 25 = nI (opn p r) ∧ ∀ j, j < opn p r → M' 53 j = nI ((soonP p ln r).2 j) := by
  have h8 := hv.2.2.2.1
  obtain ⟨M1, f1, f2, f3, f4, f5⟩ := v_firstM (d := d + 4) (M := M) h8 hr.2.1 h6 hp.2.2.2.1 ht
  obtain ⟨t, htl⟩ := headN (opn p r) h6
  have hck := chkN (opn p r) h6
  have hsu := surN (opn p r) h6
  rw [htl] at hck hsu
  have ho : ∀ m, m < 6 → M1 52 m = nI ((fun m => if m < opn p r then opl p r m else (M1 52 m).toBitVec.toNat) m) := fun m hm => by
    show _ = nI (if m < opn p r then opl p r m else (M1 52 m).toBitVec.toNat)
    by_cases q : m < opn p r
    · rw [if_pos q]; exact f5 m q
    · rw [if_neg q]; exact nI_self _
  have fr1 : frM M1 M := ⟨fun c a1 _ a3 _ => f2 c a1 a3, fun j _ h2 => f3 j h2, fun j _ => by rw [f2 44 (by decide) (by decide)]⟩
  obtain ⟨M', e1, e2, e3, e4⟩ := v_seekML (d := d) (ln := ln) hv hl1 hl h6 hr htb t (List.range (opn p r)) 99999999 (fun m => if m < opn p r then opl p r m else (M1 52 m).toBitVec.toNat) (fun j => (M1 53 j).toBitVec.toNat) M1 .null .null hck hsu (by omega) f4 ho (relO_first (fun j hj => if_pos hj)) (fun j _ => nI_self _) (frM_pat fr1 hp) (frM_row h8 fr1 ht)
  rw [← htl, seek_first hv hr h6 (by omega)] at e1 e4
  refine ⟨M', ?_, frM_trans e2 fr1, e3, e4⟩
  rw [sg_162_0_0, f1, lc_bk0, sg_162_0_4]
  exact e1
