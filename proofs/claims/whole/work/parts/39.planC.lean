/-! what is open, as an order; orders tried: the class's side -/
def lsF (f : Nat → Bool) : Nat → (Nat → Nat)
  | 0 => fun _ => 0
  | k + 1 => if f k = true then (fun j => if j = opN f k then k else lsF f k j) else lsF f k
theorem opN_up1 {f : Nat → Bool} {k : Nat} (h : f k = true) : opN f (k + 1) = opN f k + 1 := by rw [opN, if_pos h]
theorem opN_up0 {f : Nat → Bool} {k : Nat} (h : ¬ f k = true) : opN f (k + 1) = opN f k := by rw [opN, if_neg h]; rfl
theorem opN_sub {f : Nat → Bool} {i : Nat} : ∀ (n : Nat), i ≤ n → opN f i ≤ opN f n
  | 0, h => by
    obtain rfl : i = 0 := by omega
    exact Nat.le_refl _
  | n + 1, h => by
    by_cases e : i = n + 1
    · rw [e]; exact Nat.le_refl _
    · have := opN_sub (f := f) n (show i ≤ n by omega)
      rw [opN]
      omega
theorem lsF_in {f : Nat → Bool} : ∀ (k j : Nat), j < opN f k → lsF f k j < k ∧ f (lsF f k j) = true
  | 0, j, h => by rw [opN] at h; omega
  | k + 1, j, h => by
    rw [lsF]
    by_cases q : f k = true
    · rw [if_pos q]
      rw [opN_up1 q] at h
      show (if j = opN f k then k else lsF f k j) < k + 1 ∧ f (if j = opN f k then k else lsF f k j) = true
      by_cases e : j = opN f k
      · rw [if_pos e]; exact ⟨by omega, q⟩
      · rw [if_neg e]
        have := lsF_in (f := f) k j (by omega)
        exact ⟨by omega, this.2⟩
    · rw [if_neg q]
      rw [opN_up0 q] at h
      have := lsF_in (f := f) k j h
      exact ⟨by omega, this.2⟩
theorem lsF_mono {f : Nat → Bool} : ∀ (k i j : Nat), i < j → j < opN f k → lsF f k i < lsF f k j
  | 0, i, j, h, h2 => by rw [opN] at h2; omega
  | k + 1, i, j, h, h2 => by
    rw [lsF]
    by_cases q : f k = true
    · rw [if_pos q]
      rw [opN_up1 q] at h2
      show (if i = opN f k then k else lsF f k i) < (if j = opN f k then k else lsF f k j)
      rw [if_neg (show ¬ i = opN f k by omega)]
      by_cases e : j = opN f k
      · rw [if_pos e]; exact (lsF_in (f := f) k i (by omega)).1
      · rw [if_neg e]; exact lsF_mono (f := f) k i j h (by omega)
    · rw [if_neg q]
      rw [opN_up0 q] at h2
      exact lsF_mono (f := f) k i j h h2
theorem lsF_cov {f : Nat → Bool} {x : Nat} : ∀ (k : Nat), x < k → f x = true → ∃ j, j < opN f k ∧ lsF f k j = x
  | 0, h, _ => by omega
  | k + 1, h, hf => by
    rw [lsF]
    by_cases q : f k = true
    · rw [if_pos q, opN_up1 q]
      by_cases e : x = k
      · exact ⟨opN f k, by omega, by show (if opN f k = opN f k then k else _) = x; rw [if_pos rfl, e]⟩
      · obtain ⟨j, j1, j2⟩ := lsF_cov (f := f) k (show x < k by omega) hf
        exact ⟨j, by omega, by show (if j = opN f k then k else lsF f k j) = x; rw [if_neg (by omega)]; exact j2⟩
    · rw [if_neg q, opN_up0 q]
      have e : x ≠ k := fun z => q (z ▸ hf)
      exact lsF_cov (f := f) k (by omega) hf
theorem lsF_ext {f : Nat → Bool} {i j : Nat} : ∀ (n : Nat), i ≤ n → j < opN f i → lsF f n j = lsF f i j
  | 0, h, _ => by
    obtain rfl : i = 0 := by omega
    rfl
  | n + 1, h, hj => by
    by_cases e : i = n + 1
    · rw [e]
    · have ih := lsF_ext (f := f) (j := j) n (show i ≤ n by omega) hj
      have := opN_sub (f := f) n (show i ≤ n by omega)
      rw [lsF]
      by_cases q : f n = true
      · rw [if_pos q]
        show (if j = opN f n then n else lsF f n j) = _
        rw [if_neg (by omega), ih]
      · rw [if_neg q, ih]
theorem v_listL {d nx : Nat} {f : Nat → Bool} (h8 : nx ≤ 8) (h6 : opN f nx ≤ 6) : ∀ (k i : Nat) (M : lc_M), i + k = nx → M 9 3 = nI nx → M 25 5 = nI (opN f i) → (∀ j, j < opN f i → M 28 j = nI (lsF f i j)) → ∃ M', lc_val (d + 1) 41 15 [.ref 25, .int (nI (bs f nx)), .int (nI i)] [] lc_SH M = some (none, lc_SH, M') ∧ (∀ c, c ≠ 25 → c ≠ 28 → M' c = M c) ∧ M' 25 5 = nI (opN f nx) ∧ ∀ j, j < opN f nx → M' 28 j = nI (lsF f nx j)
  | 0, i, M, h, h9, hc, hl => by
    obtain rfl : i = nx := by omega
    refine ⟨M, ?_, fun _ _ _ => rfl, hc, hl⟩
    rw [sg_41_0_15, h9, if_pos (nI_le (by omega) (by omega))]
  | k + 1, i, M, h, h9, hc, hl => by
    have hs := bs_256 (f := f) h8
    have hle := opN_sub (f := f) nx (show i ≤ nx by omega)
    have hle1 := opN_sub (f := f) nx (show i + 1 ≤ nx by omega)
    by_cases q6 : 6 ≤ opN f i
    · have e6 : opN f nx = opN f i := by omega
      refine ⟨M, ?_, fun _ _ _ => rfl, by rw [e6]; exact hc, fun j hj => by rw [lsF_ext nx (show i ≤ nx by omega) (by omega)]; exact hl j (by omega)⟩
      rw [sg_41_0_15, h9, if_neg (nI_ge (by omega) (by omega)), lc_it_val, sg_41_0_26, hc, if_pos (show (6 : Int32) ≤ nI (opN f i) from nI_le (a := 6) q6 (by omega))]
    · have pre : lc_val (d + 1) 41 15 [.ref 25, .int (nI (bs f nx)), .int (nI i)] [] lc_SH M = lc_back 59 (fun st' Sh' M' => lc_val (d + 1) 41 40 [.ref 25, .int (nI (bs f nx)), .int (nI i)] st' Sh' M') [] (lc_val d 106 0 [.int (nI (bs f nx)), .int (nI i)] [] lc_SH M) := by
        rw [sg_41_0_15, h9, if_neg (nI_ge (by omega) (by omega)), lc_it_val, sg_41_0_26, hc, if_neg (show ¬ (6 : Int32) ≤ nI (opN f i) from nI_ge (b := 6) (by omega) (by omega))]
      by_cases q : f i = true
      · have c25 : lc_up (lc_up M 28 (opN f i) (nI i)) 25 5 (nI (opN f i + 1)) 25 5 = nI (opN f i + 1) := rfl
        have c28 : ∀ j, lc_up (lc_up M 28 (opN f i) (nI i)) 25 5 (nI (opN f i + 1)) 28 j = if j = opN f i then nI i else M 28 j := fun j => by rw [up_ne (by decide), up_at, if_pos rfl]
        obtain ⟨M', e1, e2, e3, e4⟩ := v_listL (d := d) h8 h6 k (i + 1) (lc_up (lc_up M 28 (opN f i) (nI i)) 25 5 (nI (opN f i + 1))) (by omega) (by rw [up_ne (by decide), up_ne (by decide)]; exact h9) (by rw [c25, opN_up1 q]) (fun j hj => by
          rw [c28, lsF, if_pos q]
          show _ = nI (if j = opN f i then i else lsF f i j)
          by_cases e : j = opN f i
          · rw [if_pos e, if_pos e]
          · rw [if_neg e, if_neg e]
            rw [opN_up1 q] at hj
            exact hl j (by omega))
        refine ⟨M', ?_, fun c a1 a2 => by rw [e2 c a1 a2, up_ne a1, up_ne a2], e3, e4⟩
        rw [pre, v_has1 hs (by omega) (by rw [bs_bit]; simp [q]; omega), lc_bk1, sg_41_0_40, if_neg (by decide), lc_it_val, sg_41_0_43, hc, if_pos (nI_in (by omega) (by decide)), nI_clamp (by omega), nI_1, nI_1]
        exact e1
      · obtain ⟨M', e1, e2, e3, e4⟩ := v_listL (d := d) h8 h6 k (i + 1) M (by omega) h9 (by rw [opN_up0 q]; exact hc) (fun j hj => by
          rw [lsF, if_neg q]
          rw [opN_up0 q] at hj
          exact hl j hj)
        refine ⟨M', ?_, e2, e3, e4⟩
        rw [pre, v_has0 hs (by omega) (by rw [bs_bit]; simp [q]), lc_bk1, sg_41_0_40, if_pos rfl, nI_1]
        exact e1
theorem v_listC {d : Nat} {p : aPat} {r : aRow} {M : lc_M} {en pi pa : Nat → Int32} {mi bu : Int32} (h3 : M 9 3 = nI (pNx p)) (h8 : pNx p ≤ 8) (hh : ∀ x, x < pNx p → rHow r x ≤ 2) (hr : cRow p r mi (M 16 2) (M 16 3) bu en pi pa) (h6 : opN (wayB r 0) (pNx p) ≤ 6) : ∃ M', lc_val (d + 2) 41 0 [.ref 25, .null, .null] [] lc_SH M = some (none, lc_SH, M') ∧ (∀ c, c ≠ 25 → c ≠ 28 → M' c = M c) ∧ M' 25 5 = nI (opN (wayB r 0) (pNx p)) ∧ ∀ j, j < opN (wayB r 0) (pNx p) → M' 28 j = nI (lsF (wayB r 0) (pNx p) j) := by
  obtain ⟨M', e1, e2, e3, e4⟩ := v_listL (d := d + 1) (f := wayB r 0) h8 h6 (pNx p) 0 (lc_up M 25 5 0) (by omega) (by rw [up_ne (by decide)]; exact h3) rfl (fun j hj => by rw [opN] at hj; omega)
  refine ⟨M', ?_, fun c a1 a2 => by rw [e2 c a1 a2, up_ne a1], e3, e4⟩
  rw [sg_41_0_0, v_openC h3 h8 hh hr, lc_bk1, sg_41_0_7]
  exact e1
theorem v_copyB {d : Nat} {p : aPat} {r : aRow} {M : lc_M} {pi pa : Nat → Int32} (h8 : pNx p ≤ 8) (hr : cRow p r (M 16 1) (M 16 2) (M 16 3) (M 16 4) (M 17) pi pa) : ∃ M', lc_val (d + 1) 2 0 [.ref 26, .ref 16] [] lc_SH M = some (none, lc_SH, M') ∧ (∀ c, c ≠ 26 → c ≠ 27 → M' c = M c) ∧ cRow p r (M' 26 1) (M' 26 2) (M' 26 3) (M' 26 4) (M' 27) pi pa := by
  refine ⟨_, by rw [sg_2_0_0, sg_2_0_24], fun c a1 a2 => by rw [set_ne a2, up_ne a1, up_ne a1, up_ne a1, up_ne a1], ?_⟩
  rw [set_ne (c := 26) (by decide), set_eq]
  refine cRow_ext (en := M 17) h8 ?_ (fun x hx => ?_) (fun _ _ => rfl) (fun _ _ => rfl)
  · exact hr
  · unfold va_cpy
    rw [if_pos (by omega), show 0 + (x - 0) = x by omega, up_ne (by decide), up_ne (by decide), up_ne (by decide)]
def patC (p : aPat) (M : lc_M) : Prop := cPat p (M 9) (M 10) (M 11) (M 12) (M 13) (M 14)
theorem patC_fr {p : aPat} {M M' : lc_M} (h : patC p M) (e : ∀ c, 9 ≤ c → c ≤ 14 → M' c = M c) : patC p M' := by
  unfold patC at h ⊢
  rw [e 9 (by decide) (by decide), e 10 (by decide) (by decide), e 11 (by decide) (by decide), e 12 (by decide) (by decide), e 13 (by decide) (by decide), e 14 (by decide) (by decide)]
  exact h
def triC (p : aPat) (r : aRow) (M : lc_M) (pi pa : Nat → Int32) : Prop := cRow p r (M 26 1) (M 26 2) (M 26 3) (M 26 4) (M 27) pi pa
theorem v_begC0 {d ln n : Nat} {p : aPat} {a : Nat → Nat} {pi pa : Nat → Int32} (hv : vPat p) (hl : ln ≤ 3) (hn : n ≤ 6) (ha : ∀ j, j < n → a j < pNx p) : ∀ (k i tb pb : Nat) (r : aRow) (M : lc_M), i + k = n → vRowG tb pb p r → M 25 5 = nI n → (∀ j, j < n → M 28 j = nI (a j)) → patC p M → triC p r M pi pa → ∃ M', lc_val (d + 3) 43 2 [.ref 25, .ref 28, .int (nI ln), .int (nI i)] [] lc_SH M = some (none, lc_SH, M') ∧ (∀ c, c ≠ 26 → c ≠ 27 → M' c = M c) ∧ triC p (begK p ln a k i r) M' pi pa
  | 0, i, tb, pb, r, M, h, hr, hc, ho, hp, ht => by
    refine ⟨M, ?_, fun _ _ _ => rfl, ht⟩
    rw [sg_43_0_2, hc, if_pos (nI_le (by omega) (by omega))]
  | k + 1, i, tb, pb, r, M, h, hr, hc, ho, hp, ht => by
    have hai := ha i (by omega)
    have h8 := hv.2.2.2.1
    have hcan := v_can1 (d := d + 1) (M := M) hp hv hr.2.1 ht hai hl
    rw [sg_43_0_2, hc, if_neg (nI_ge (by omega) (by omega)), if_pos (nI_in (by omega) (by decide)), nI_clamp (by omega), ho i (by omega), hcan, lc_bk1, sg_43_0_21, begK]
    by_cases q : canB p r ln (a i) = true
    · obtain ⟨M1, f1, f2, _, f4⟩ := v_begin1 (d := d + 1) (M := M) hp hv ht hai (can_parts q).1
      obtain ⟨M', e1, e2, e3⟩ := v_begC0 (d := d) hv hl hn ha k (i + 1) tb pb (ringR p r (a i)) M1 (by omega) (vRowG_ring hv hr hai q) (by rw [f2 25 (by decide) (by decide)]; exact hc) (fun j hj => by rw [f2 28 (by decide) (by decide)]; exact ho j hj) (patC_fr hp (fun c c1 c2 => f2 c (by omega) (by omega))) f4
      refine ⟨M', ?_, fun c a1 a2 => by rw [e2 c a1 a2, f2 c a1 a2], by rw [if_pos q]; exact e3⟩
      rw [q, if_neg (show ¬ bI true = 0 by decide), if_pos (nI_in (by omega) (by decide)), nI_clamp (by omega), ho i (by omega), f1, lc_bk0, sg_43_0_34, nI_1]
      exact e1
    · obtain ⟨M', e1, e2, e3⟩ := v_begC0 (d := d) hv hl hn ha k (i + 1) tb pb r M (by omega) hr hc ho hp ht
      refine ⟨M', ?_, e2, by rw [if_neg q]; exact e3⟩
      rw [show canB p r ln (a i) = false by simpa using q, if_pos (show bI false = 0 by decide), lc_it_val, sg_43_0_34, nI_1]
      exact e1
theorem v_begC1 {d ln n : Nat} {p : aPat} {a : Nat → Nat} {pi pa : Nat → Int32} (hv : vPat p) (hl : ln ≤ 3) (hn : n ≤ 6) (ha : ∀ j, j < n → a j < pNx p) : ∀ (k i tb pb : Nat) (r : aRow) (M : lc_M), i + k = n → vRowG tb pb p r → M 25 5 = nI n → (∀ j, j < n → M 29 j = nI (a j)) → patC p M → triC p r M pi pa → ∃ M', lc_val (d + 3) 43 2 [.ref 25, .ref 29, .int (nI ln), .int (nI i)] [] lc_SH M = some (none, lc_SH, M') ∧ (∀ c, c ≠ 26 → c ≠ 27 → M' c = M c) ∧ triC p (begK p ln a k i r) M' pi pa
  | 0, i, tb, pb, r, M, h, hr, hc, ho, hp, ht => by
    refine ⟨M, ?_, fun _ _ _ => rfl, ht⟩
    rw [sg_43_1_2, hc, if_pos (nI_le (by omega) (by omega))]
  | k + 1, i, tb, pb, r, M, h, hr, hc, ho, hp, ht => by
    have hai := ha i (by omega)
    have h8 := hv.2.2.2.1
    have hcan := v_can1 (d := d + 1) (M := M) hp hv hr.2.1 ht hai hl
    rw [sg_43_1_2, hc, if_neg (nI_ge (by omega) (by omega)), if_pos (nI_in (by omega) (by decide)), nI_clamp (by omega), ho i (by omega), hcan, lc_bk1, sg_43_1_21, begK]
    by_cases q : canB p r ln (a i) = true
    · obtain ⟨M1, f1, f2, _, f4⟩ := v_begin1 (d := d + 1) (M := M) hp hv ht hai (can_parts q).1
      obtain ⟨M', e1, e2, e3⟩ := v_begC1 (d := d) hv hl hn ha k (i + 1) tb pb (ringR p r (a i)) M1 (by omega) (vRowG_ring hv hr hai q) (by rw [f2 25 (by decide) (by decide)]; exact hc) (fun j hj => by rw [f2 29 (by decide) (by decide)]; exact ho j hj) (patC_fr hp (fun c c1 c2 => f2 c (by omega) (by omega))) f4
      refine ⟨M', ?_, fun c a1 a2 => by rw [e2 c a1 a2, f2 c a1 a2], by rw [if_pos q]; exact e3⟩
      rw [q, if_neg (show ¬ bI true = 0 by decide), if_pos (nI_in (by omega) (by decide)), nI_clamp (by omega), ho i (by omega), f1, lc_bk0, sg_43_1_34, nI_1]
      exact e1
    · obtain ⟨M', e1, e2, e3⟩ := v_begC1 (d := d) hv hl hn ha k (i + 1) tb pb r M (by omega) hr hc ho hp ht
      refine ⟨M', ?_, e2, by rw [if_neg q]; exact e3⟩
      rw [show canB p r ln (a i) = false by simpa using q, if_pos (show bI false = 0 by decide), lc_it_val, sg_43_1_34, nI_1]
      exact e1
theorem be_none {e : Nat} (h : e < 2 ^ 31) : ¬ beI (some e) = -1 := fun z => nI_pos (n := e) h (by rw [show nI e = -1 from z]; decide)
theorem v_neL {d : Nat} {p : aPat} {r : aRow} {M : lc_M} {mi dn bu : Int32} {pi pa : Nat → Int32} (hv : vPat p) (hT : ∀ x, x < pNx p → rHow r x = 1 → rTill r x < 2 ^ 30) (hp : patC p M) (ht : cRow p r mi (M 26 2) dn bu (M 27) pi pa) : ∀ (k i : Nat), i + k = pNx p → lc_val (d + 1) 11 4 [.ref 26, .int (beI (neF r i)), .int (nI i)] [] lc_SH M = some (some (.int (beI (neF r (pNx p)))), lc_SH, M)
  | 0, i, h => by
    have h8 := hv.2.2.2.1
    obtain rfl : i = pNx p := by omega
    rw [sg_11_0_4, show M 9 3 = nI (pNx p) from hp.2.2.2.1, if_pos (nI_le (by omega) (by omega))]
  | k + 1, i, h => by
    have h8 := hv.2.2.2.1
    have ih := v_neL (d := d) hv hT hp ht k (i + 1) (by omega)
    rw [neF] at ih
    rw [sg_11_0_4, show M 9 3 = nI (pNx p) from hp.2.2.2.1, if_neg (nI_ge (by omega) (by omega))]
    by_cases h1 : rHow r i = 1
    · have hti := hT i (by omega) h1
      have hen : M 27 i = nI (rTill r i) := ht.2.2.2.2.1 i (by omega) (by omega)
      rw [v_hasB1 ht.2.1 h8 (by omega) h1, lc_bk1, sg_11_0_23, if_neg (by decide), lc_it_val, sg_11_0_26]
      rw [if_pos h1] at ih
      cases e : neF r i with
      | none =>
        rw [e] at ih
        rw [if_pos (show beI none = -1 from rfl), sg_11_0_41, if_pos (nI_in (by omega) (by decide)), nI_clamp (by omega), hen, nI_1]
        exact ih
      | some t =>
        rw [e] at ih
        obtain ⟨⟨y, y1, y2, y3⟩, _⟩ := neF_some e
        have hty := hT y (by omega) y2
        rw [if_neg (be_none (by omega)), sg_11_0_31, if_pos (nI_in (by omega) (by decide)), nI_clamp (by omega), hen, show beI (some t) = nI t from rfl]
        have ih' : lc_val (d + 1) 11 4 [.ref 26, .int (beI (if t ≤ rTill r i then some t else some (rTill r i))), .int (nI (i + 1))] [] lc_SH M = some (some (.int (beI (neF r (pNx p)))), lc_SH, M) := ih
        by_cases q : t ≤ rTill r i
        · rw [if_pos q] at ih'
          rw [if_pos (nI_le q (by omega)), nI_1]
          exact ih'
        · rw [if_neg q] at ih'
          rw [if_neg (nI_ge (by omega) (by omega)), lc_it_val, sg_11_0_41, if_pos (nI_in (by omega) (by decide)), nI_clamp (by omega), hen, nI_1]
          exact ih'
    · rw [if_neg h1] at ih
      rw [v_hasB0 ht.2.1 h8 (by omega) h1, lc_bk1, sg_11_0_23, if_pos rfl, nI_1]
      exact ih
theorem v_neC {d : Nat} {p : aPat} {r : aRow} {M : lc_M} {mi dn bu : Int32} {pi pa : Nat → Int32} (hv : vPat p) (hT : ∀ x, x < pNx p → rHow r x = 1 → rTill r x < 2 ^ 30) (hp : patC p M) (ht : cRow p r mi (M 26 2) dn bu (M 27) pi pa) : lc_val (d + 1) 11 0 [.ref 26, .null, .null] [] lc_SH M = some (some (.int (beI (neF r (pNx p)))), lc_SH, M) := by
  rw [sg_11_0_0]
  exact v_neL hv hT hp ht (pNx p) 0 (by omega)
def cmF (p : aPat) (ln n : Nat) (a : Nat → Nat) (T0 lim : Nat) : Nat → aRow → Nat
  | 0, r => rT r - T0
  | k + 1, r => match neF (begK p ln a n 0 r) (pNx p) with
    | none => rT r - T0
    | some e => if e - T0 < lim then cmF p ln n a T0 lim k (jumpR (begK p ln a n 0 r) e) else lim
theorem cmF_tot {p : aPat} {ln n T0 lim : Nat} {a : Nat → Nat} (hv : vPat p) (ha : ∀ j, j < n → a j < pNx p) : ∀ (k tb pb : Nat) (r : aRow), vRowG tb pb p r → T0 ≤ rT r → cmF p ln n a T0 lim k r = (rT r - T0) + totE p ln n a k r ∨ (cmF p ln n a T0 lim k r = lim ∧ lim ≤ (rT r - T0) + totE p ln n a k r)
  | 0, _, _, r, _, _ => Or.inl rfl
  | k + 1, tb, pb, r, hr, h0 => by
    have hb := begK_v (ln := ln) hv ha n 0 r (by omega) hr
    rw [cmF, totE]
    cases e : neF (begK p ln a n 0 r) (pNx p) with
    | none => exact Or.inl rfl
    | some t =>
      obtain ⟨j1, j2, _⟩ := vRowG_jump hv hb e
      rw [begK_T] at j2
      show (if t - T0 < lim then _ else lim) = _ + ((t - rT r) + _) ∨ ((if t - T0 < lim then _ else lim) = lim ∧ lim ≤ _ + ((t - rT r) + _))
      by_cases q : t - T0 < lim
      · have ih := cmF_tot (ln := ln) (T0 := T0) (lim := lim) hv ha k _ _ (jumpR (begK p ln a n 0 r) t) j1 (by show T0 ≤ t; omega)
        rw [if_pos q]
        have eT : rT (jumpR (begK p ln a n 0 r) t) = t := rfl
        rw [eT] at ih
        rcases ih with g | ⟨g, g'⟩
        · left; rw [g]; omega
        · right; exact ⟨g, by omega⟩
      · rw [if_neg q]; right; exact ⟨rfl, by omega⟩
theorem subI {a b : Nat} (h : b ≤ a) : nI a - nI b = nI (a - b) := (Int32.ofNat_sub _ _ h).symm
theorem v_moL {d ln n T0 lim : Nat} {p : aPat} {a : Nat → Nat} {pi pa : Nat → Int32} (hv : vPat p) (hl : ln ≤ 3) (hn : n ≤ 6) (ha : ∀ j, j < n → a j < pNx p) (hlim : lim ≤ 1000000) : ∀ (k i tb pb : Nat) (r : aRow) (M : lc_M) (v4 : Value), i + k = 9 → vRowG tb pb p r → tb + 20 * k ≤ 6000 → T0 ≤ rT r → M 16 1 = nI T0 → M 25 5 = nI n → (∀ j, j < n → M 28 j = nI (a j)) → patC p M → triC p r M pi pa → ∃ M', lc_val (d + 4) 42 13 [.ref 25, .int (nI ln), .int (nI lim), .int (nI i), v4] [] lc_SH M = some (some (.int (nI (cmF p ln n a T0 lim k r))), lc_SH, M') ∧ (∀ c, c ≠ 26 → c ≠ 27 → M' c = M c)
  | 0, i, tb, pb, r, M, v4, h, hr, hb, h0, h16, hc, ho, hp, ht => by
    refine ⟨M, ?_, fun _ _ _ => rfl⟩
    obtain rfl : i = 9 := by omega
    rw [sg_42_0_13, if_pos (by decide), show M 26 1 = nI (rT r) from ht.1, h16, subI h0]
    rfl
  | k + 1, i, tb, pb, r, M, v4, h, hr, hb, h0, h16, hc, ho, hp, ht => by
    have hB := begK_v (ln := ln) hv ha n 0 r (by omega) hr
    obtain ⟨M1, f1, f2, f3⟩ := v_begC0 (d := d) (pi := pi) (pa := pa) hv hl hn ha n 0 tb pb r M (by omega) hr hc ho hp ht
    have hT0 := hB.1
    have hmi : ∀ x, x < pNx p → pMi p x ≤ 20 := fun x hx => (hv.2.2.2.2.2.2.1 x hx).2.2.2.2
    have hTl : ∀ x, x < pNx p → rHow (begK p ln a n 0 r) x = 1 → rTill (begK p ln a n 0 r) x < 2 ^ 30 := fun x hx h1 => by
      have := hB.2.2.1 x hx h1
      have := hmi x hx
      omega
    have hp1 : patC p M1 := patC_fr hp (fun c c1 c2 => f2 c (by omega) (by omega))
    have h161 : M1 16 1 = nI T0 := by rw [f2 16 (by decide) (by decide)]; exact h16
    have pre : lc_val (d + 4) 42 13 [.ref 25, .int (nI ln), .int (nI lim), .int (nI i), v4] [] lc_SH M = lc_val (d + 4) 42 35 [.ref 25, .int (nI ln), .int (nI lim), .int (nI i), v4] [.int (beI (neF (begK p ln a n 0 r) (pNx p)))] lc_SH M1 := by
      rw [sg_42_0_13, if_neg (show ¬ (8 : Int32) < nI i from nI_nlt (a := 8) (by omega) (by omega)), lc_it_val, sg_43_0_0, show (.int 0 : Value) = .int (nI 0) from rfl, f1, lc_bk0, sg_42_0_28, v_neC hv hTl hp1 f3, lc_bk1]
    rw [pre, sg_42_0_35, cmF]
    cases e : neF (begK p ln a n 0 r) (pNx p) with
    | none =>
      refine ⟨M1, ?_, f2⟩
      rw [if_neg (fun z => z rfl), sg_42_0_43, show M1 26 1 = nI (rT (begK p ln a n 0 r)) from f3.1, begK_T, h161, subI h0]
    | some t =>
      obtain ⟨j1, j2, j3⟩ := vRowG_jump hv hB e
      rw [begK_T] at j2 j3
      have hrt := hr.1
      rw [if_pos (be_none (by omega)), sg_42_0_46, show beI (some t) = nI t from rfl, h161, subI (show T0 ≤ t by omega)]
      have c26 : ∀ j, lc_up M1 26 1 (nI t) 26 j = if j = 1 then nI t else M1 26 j := fun j => by rw [up_at, if_pos rfl]
      have upc : ∀ c, c ≠ 26 → lc_up M1 26 1 (nI t) c = M1 c := fun c hc => up_ne hc
      have ht1 : triC p (setT (begK p ln a n 0 r) t) (lc_up M1 26 1 (nI t)) pi pa := by
        obtain ⟨r1, r2, r3, r4, r5, r6, r7⟩ := f3
        exact ⟨rfl, r2, r3, r4, r5, r6, r7⟩
      by_cases q : t - T0 < lim
      · obtain ⟨M2, g1, g2, g3⟩ := v_finish1 (d := d + 1) (p := p) (r := setT (begK p ln a n 0 r) t) (pi := pi) (pa := pa) (M := lc_up M1 26 1 (nI t)) hv hB.2.2.2.2.2.2 (by show t < 2 ^ 30; omega) hTl (patC_fr hp1 (fun c c1 c2 => upc c (by omega))) ht1
        have fr : ∀ c, c ≠ 26 → c ≠ 27 → M2 c = M c := fun c a1 a2 => by rw [g2 c a1, upc c a1, f2 c a1 a2]
        obtain ⟨M', e1, e2⟩ := v_moL (d := d) (T0 := T0) (lim := lim) (pi := pi) (pa := pa) hv hl hn ha hlim k (i + 1) (tb + 20) pb (jumpR (begK p ln a n 0 r) t) M2 (.int (nI t)) (by omega) j1 (by omega) (by show T0 ≤ t; omega) (by rw [fr 16 (by decide) (by decide)]; exact h16) (by rw [fr 25 (by decide) (by decide)]; exact hc) (fun j hj => by rw [fr 28 (by decide) (by decide)]; exact ho j hj) (patC_fr hp (fun c c1 c2 => fr c (by omega) (by omega))) g3
        refine ⟨M', ?_, fun c a1 a2 => by rw [e2 c a1 a2, fr c a1 a2]⟩
        rw [if_pos (nI_lt q (by omega)), g1, lc_bk1, sg_42_0_78, nI_1, e1]
        show some (some (Value.int (nI (cmF p ln n a T0 lim k (jumpR (begK p ln a n 0 r) t)))), lc_SH, M') = some (some (Value.int (nI (if t - T0 < lim then cmF p ln n a T0 lim k (jumpR (begK p ln a n 0 r) t) else lim))), lc_SH, M')
        rw [if_pos q]
      · refine ⟨lc_up M1 26 1 (nI t), ?_, fun c a1 a2 => by rw [upc c a1, f2 c a1 a2]⟩
        rw [if_neg (nI_nlt (by omega) (by omega))]
        show _ = some (some (Value.int (nI (if t - T0 < lim then cmF p ln n a T0 lim k (jumpR (begK p ln a n 0 r) t) else lim))), lc_SH, lc_up M1 26 1 (nI t))
        rw [if_neg q]
/-- one order tried -/
theorem v_tryC {d ln n lim tb pb : Nat} {p : aPat} {r : aRow} {a : Nat → Nat} {pi pa : Nat → Int32} {M : lc_M} (hv : vPat p) (hl : ln ≤ 3) (hn : n ≤ 6) (ha : ∀ j, j < n → a j < pNx p) (hlim : lim ≤ 1000000) (hr : vRowG tb pb p r) (htb : tb ≤ 5000) (hc : M 25 5 = nI n) (ho : ∀ j, j < n → M 28 j = nI (a j)) (hp : patC p M) (hR : cRow p r (M 16 1) (M 16 2) (M 16 3) (M 16 4) (M 17) pi pa) : ∃ (M' : lc_M) (cm : Nat), lc_val (d + 4) 42 0 [.ref 25, .int (nI ln), .int (nI lim), .null, .null] [] lc_SH M = some (some (.int (nI cm)), lc_SH, M') ∧ (cm = totE p ln n a 9 r ∨ (cm = lim ∧ lim ≤ totE p ln n a 9 r)) ∧ (∀ c, c ≠ 26 → c ≠ 27 → M' c = M c) := by
  obtain ⟨M1, f1, f2, f3⟩ := v_copyB (d := d + 2) hv.2.2.2.1 hR
  obtain ⟨M', e1, e2⟩ := v_moL (d := d) (T0 := rT r) (lim := lim) (pi := pi) (pa := pa) hv hl hn ha hlim 9 0 tb pb r M1 .null (by omega) hr (by omega) (Nat.le_refl _) (by rw [f2 16 (by decide) (by decide)]; exact hR.1) (by rw [f2 25 (by decide) (by decide)]; exact hc) (fun j hj => by rw [f2 28 (by decide) (by decide)]; exact ho j hj) (patC_fr hp (fun c c1 c2 => f2 c (by omega) (by omega))) f3
  refine ⟨M', cmF p ln n a (rT r) lim 9 r, ?_, ?_, fun c a1 a2 => by rw [e2 c a1 a2, f2 c a1 a2]⟩
  · rw [sg_42_0_0, f1, lc_bk0, sg_42_0_11]
    exact e1
  · have := cmF_tot (ln := ln) (T0 := rT r) (lim := lim) hv ha 9 tb pb r hr (Nat.le_refl _)
    rw [Nat.sub_self, Nat.zero_add] at this
    exact this
