/-! a minute passes -/
def finB (r : aRow) (x : Nat) : Bool := decide (rHow r x = 1) && decide (rTill r x ≤ rT r)
def leftW (r : aRow) (f : Nat → Bool) : aRow := (rT r, fun x => if f x = true then 0 else rHow r x, rTill r, rPin r, rPaid r)
def doneR (r : aRow) : aRow := (rT r, fun x => if finB r x = true then 2 else rHow r x, rTill r, rPin r, rPaid r)
theorem fin_iff {r : aRow} {x : Nat} : finB r x = true ↔ (rHow r x = 1 ∧ rTill r x ≤ rT r) := by unfold finB; simp
theorem left_same {r : aRow} {i : Nat} (h : ¬ finB r i = true) : leftW r (fun x => decide (x < i) && finB r x) = leftW r (fun x => decide (x < i + 1) && finB r x) := by
  refine congrArg (leftW r) (funext fun x => ?_)
  by_cases e : x = i
  · subst e
    rw [show finB r x = false by simpa using h]
    simp
  · have : (x < i) = (x < i + 1) := by
      apply propext
      constructor
      · intro; omega
      · intro; omega
    simp [this]
theorem left_open {r : aRow} {i : Nat} (h : finB r i = true) : openR (leftW r (fun x => decide (x < i) && finB r x)) i = leftW r (fun x => decide (x < i + 1) && finB r x) := by
  show ((rT r, (fun y => if y = i then 0 else if (decide (y < i) && finB r y) = true then 0 else rHow r y), rTill r, rPin r, rPaid r) : aRow) = (rT r, (fun y => if (decide (y < i + 1) && finB r y) = true then 0 else rHow r y), rTill r, rPin r, rPaid r)
  have hf : (fun y => if y = i then 0 else if (decide (y < i) && finB r y) = true then 0 else rHow r y) = (fun y => if (decide (y < i + 1) && finB r y) = true then 0 else rHow r y) := funext fun y => by
    by_cases e : y = i
    · subst e
      rw [if_pos rfl, if_pos (by simp [h])]
    · rw [if_neg e]
      have : (y < i) = (y < i + 1) := by
        apply propext
        constructor
        · intro; omega
        · intro; omega
      simp [this]
  rw [hf]
theorem left_disj {p : aPat} {r : aRow} {f : Nat → Bool} (h : disjR p r) : disjR p (leftW r f) := by
  have key : ∀ y, (if f y = true then 0 else rHow r y) = 1 → rHow r y = 1 := fun y hy => by
    by_cases e : f y = true
    · rw [if_pos e] at hy; cases hy
    · rw [if_neg e] at hy; exact hy
  exact fun x y hx hy g1 g2 hne => h x y hx hy (key x g1) (key y g2) hne
theorem bs_up1 {f : Nat → Bool} {i : Nat} (h : f i = true) : bs f (i + 1) = bs f i ||| 2 ^ i := by rw [bs, if_pos h]
theorem bs_up0 {f : Nat → Bool} {i : Nat} (h : ¬ f i = true) : bs f (i + 1) = bs f i := by rw [bs, if_neg h]; simp
theorem v_finL0 {d : Nat} {p : aPat} {r : aRow} {pi pa en : Nat → Int32} (hv : vPat p) (hd : disjR p r) (ht : rT r < 2 ^ 30) (htl : ∀ x, x < pNx p → rHow r x = 1 → rTill r x < 2 ^ 30) (he : ∀ x, x < pNx p → rHow r x ≠ 0 → en x = nI (rTill r x)) : ∀ (k i : Nat) (M : lc_M), i + k = pNx p → M 17 = en → cPat p (M 9) (M 10) (M 11) (M 12) (M 13) (M 14) → cRow p (leftW r (fun x => decide (x < i) && finB r x)) (M 16 1) (M 16 2) (M 16 3) (M 16 4) (M 17) pi pa → ∃ M', lc_val (d + 2) 10 4 [.ref 16, .int (nI (bs (finB r) i)), .int (nI i)] [] lc_SH M = some (some (.int (nI (bs (finB r) (pNx p)))), lc_SH, M') ∧ (∀ c, c ≠ 16 → M' c = M c) ∧ cRow p (doneR r) (M' 16 1) (M' 16 2) (M' 16 3) (M' 16 4) (M' 17) pi pa
  | 0, i, M, h, hE, hp, hr => by
    have h8 := hv.2.2.2.1
    obtain ⟨r1, r2, r3, r4, r5, r6, r7⟩ := hr
    obtain rfl : i = pNx p := by omega
    refine ⟨lc_up M 16 3 (M 16 3 ||| nI (bs (finB r) (pNx p))), ?_, fun c hc => up_ne hc, ?_⟩
    · rw [sg_10_0_4, hp.2.2.2.1, if_pos (nI_le (by omega) (by omega))]
    · rw [show lc_up M 16 3 (M 16 3 ||| nI (bs (finB r) (pNx p))) 16 1 = M 16 1 from rfl, show lc_up M 16 3 (M 16 3 ||| nI (bs (finB r) (pNx p))) 16 2 = M 16 2 from rfl, show lc_up M 16 3 (M 16 3 ||| nI (bs (finB r) (pNx p))) 16 3 = M 16 3 ||| nI (bs (finB r) (pNx p)) from rfl, show lc_up M 16 3 (M 16 3 ||| nI (bs (finB r) (pNx p))) 16 4 = M 16 4 from rfl, up_ne (by decide)]
      have one : ∀ y, y < pNx p → ((if finB r y = true then 2 else rHow r y) = 1 ↔ (if (decide (y < pNx p) && finB r y) = true then 0 else rHow r y) = 1) := fun y hy => by
        by_cases e : finB r y = true
        · rw [if_pos e, if_pos (by simp [e, hy])]; decide
        · rw [if_neg e, if_neg (by simp [e])]
      refine ⟨r1, bits_ext r2 one, bits_or r3 (bs_lt _ _) (fun y hy => ?_), bits_ext r4 (fun m hm => ?_), fun y hy hh => ?_, r6, r7⟩
      · show (if finB r y = true then 2 else rHow r y) = 2 ↔ ((if (decide (y < pNx p) && finB r y) = true then 0 else rHow r y) = 2 ∨ (bs (finB r) (pNx p)).testBit y = true)
        rw [bs_bit]
        by_cases e : finB r y = true
        · rw [if_pos e, if_pos (by simp [e, hy])]; simp [e, hy]
        · rw [if_neg e, if_neg (by simp [e])]; simp [e]
      · show (∃ y, y < pNx p ∧ (if finB r y = true then 2 else rHow r y) = 1 ∧ (pA p y = m ∨ pB p y = m)) ↔ (∃ y, y < pNx p ∧ (if (decide (y < pNx p) && finB r y) = true then 0 else rHow r y) = 1 ∧ (pA p y = m ∨ pB p y = m))
        constructor
        · rintro ⟨y, g1, g2, g3⟩; exact ⟨y, g1, (one y g1).mp g2, g3⟩
        · rintro ⟨y, g1, g2, g3⟩; exact ⟨y, g1, (one y g1).mpr g2, g3⟩
      · rw [hE]
        refine he y hy (fun z => ?_)
        have hh' : (if finB r y = true then 2 else rHow r y) ≠ 0 := hh
        by_cases e : finB r y = true
        · have := (fin_iff.mp e).1; omega
        · rw [if_neg e] at hh'; exact hh' z
  | k + 1, i, M, h, hE, hp, hr => by
    have h8 := hv.2.2.2.1
    have hi : rHow (leftW r (fun x => decide (x < i) && finB r x)) i = rHow r i := by
      show (if (decide (i < i) && finB r i) = true then 0 else rHow r i) = _
      rw [if_neg (by simp)]
    by_cases h1 : rHow r i = 1
    · have hti := htl i (by omega) h1
      have start : lc_val (d + 2) 10 4 [.ref 16, .int (nI (bs (finB r) i)), .int (nI i)] [] lc_SH M = lc_val (d + 2) 10 26 [.ref 16, .int (nI (bs (finB r) i)), .int (nI i)] [] lc_SH M := by
        rw [sg_10_0_4, hp.2.2.2.1, if_neg (nI_ge (by omega) (by omega)), lc_it_val, v_hasB1 hr.2.1 h8 (by omega) (by rw [hi]; exact h1), lc_bk1, sg_10_0_23, if_neg (by decide), lc_it_val]
      have hen : M 17 i = nI (rTill r i) := by rw [hE]; exact he i (by omega) (by omega)
      have hm1 : M 16 1 = nI (rT r) := hr.1
      by_cases hf : finB r i = true
      · have hle := (fin_iff.mp hf).2
        obtain ⟨M1, g1, g2, g3, g4⟩ := v_leave0 (d := d) (p := p) hp hv (left_disj hd) hr (x := i) (by omega) (by rw [hi]; exact h1)
        rw [left_open hf] at g4
        obtain ⟨M', e1, e2, e3⟩ := v_finL0 (d := d) (pi := pi) (pa := pa) hv hd ht htl he k (i + 1) M1 (by omega) (by rw [g2 17 (by decide)]; exact hE) (by rw [g2 9 (by decide), g2 10 (by decide), g2 11 (by decide), g2 12 (by decide), g2 13 (by decide), g2 14 (by decide)]; exact hp) (by rw [g3, g2 17 (by decide)]; exact g4)
        refine ⟨M', ?_, fun c hc => by rw [e2 c hc, g2 c hc], e3⟩
        rw [start, sg_10_0_26, if_pos (nI_in (by omega) (by decide)), nI_clamp (by omega), hen, hm1, if_neg (nI_nlt hle (by omega)), g1, lc_bk0, sg_10_0_44, shl_1 i (by omega), nI_or, nI_1, ← bs_up1 hf]
        exact e1
      · have hgt : rT r < rTill r i := by
          rcases Nat.lt_or_ge (rT r) (rTill r i) with z | z
          · exact z
          · exact absurd (fin_iff.mpr ⟨h1, z⟩) hf
        obtain ⟨M', e1, e2, e3⟩ := v_finL0 (d := d) (pi := pi) (pa := pa) hv hd ht htl he k (i + 1) M (by omega) hE hp (by rw [← left_same hf]; exact hr)
        refine ⟨M', ?_, e2, e3⟩
        rw [start, sg_10_0_26, if_pos (nI_in (by omega) (by decide)), nI_clamp (by omega), hen, hm1, if_pos (nI_lt hgt (by omega)), lc_it_val, nI_1, ← bs_up0 hf]
        exact e1
    · have hf : ¬ finB r i = true := fun z => h1 (fin_iff.mp z).1
      obtain ⟨M', e1, e2, e3⟩ := v_finL0 (d := d) (pi := pi) (pa := pa) hv hd ht htl he k (i + 1) M (by omega) hE hp (by rw [← left_same hf]; exact hr)
      refine ⟨M', ?_, e2, e3⟩
      rw [sg_10_0_4, hp.2.2.2.1, if_neg (nI_ge (by omega) (by omega)), lc_it_val, v_hasB0 hr.2.1 h8 (by omega) (by rw [hi]; exact h1), lc_bk1]
      rw [sg_10_0_23, if_pos (by decide), nI_1, ← bs_up0 hf]
      exact e1
theorem v_finish0 {d : Nat} {p : aPat} {r : aRow} {pi pa : Nat → Int32} {M : lc_M} (hv : vPat p) (hd : disjR p r) (ht : rT r < 2 ^ 30) (htl : ∀ x, x < pNx p → rHow r x = 1 → rTill r x < 2 ^ 30) (hp : cPat p (M 9) (M 10) (M 11) (M 12) (M 13) (M 14)) (hr : cRow p r (M 16 1) (M 16 2) (M 16 3) (M 16 4) (M 17) pi pa) : ∃ M', lc_val (d + 2) 10 0 [.ref 16, .null, .null] [] lc_SH M = some (some (.int (nI (bs (finB r) (pNx p)))), lc_SH, M') ∧ (∀ c, c ≠ 16 → M' c = M c) ∧ cRow p (doneR r) (M' 16 1) (M' 16 2) (M' 16 3) (M' 16 4) (M' 17) pi pa := by
  have h0 : leftW r (fun x => decide (x < 0) && finB r x) = r := by
    show ((rT r, (fun y => if (decide (y < 0) && finB r y) = true then 0 else rHow r y), rTill r, rPin r, rPaid r) : aRow) = r
    have hf : (fun y => if (decide (y < 0) && finB r y) = true then 0 else rHow r y) = rHow r := funext fun y => by simp
    rw [hf]
    rfl
  obtain ⟨M', e1, e2, e3⟩ := v_finL0 (d := d) (pi := pi) (pa := pa) hv hd ht htl hr.2.2.2.2.1 (pNx p) 0 M (by omega) rfl hp (by rw [h0]; exact hr)
  refine ⟨M', ?_, e2, e3⟩
  rw [sg_10_0_0]
  exact e1
theorem v_finL1 {d : Nat} {p : aPat} {r : aRow} {pi pa en : Nat → Int32} (hv : vPat p) (hd : disjR p r) (ht : rT r < 2 ^ 30) (htl : ∀ x, x < pNx p → rHow r x = 1 → rTill r x < 2 ^ 30) (he : ∀ x, x < pNx p → rHow r x ≠ 0 → en x = nI (rTill r x)) : ∀ (k i : Nat) (M : lc_M), i + k = pNx p → M 27 = en → cPat p (M 9) (M 10) (M 11) (M 12) (M 13) (M 14) → cRow p (leftW r (fun x => decide (x < i) && finB r x)) (M 26 1) (M 26 2) (M 26 3) (M 26 4) (M 27) pi pa → ∃ M', lc_val (d + 2) 10 4 [.ref 26, .int (nI (bs (finB r) i)), .int (nI i)] [] lc_SH M = some (some (.int (nI (bs (finB r) (pNx p)))), lc_SH, M') ∧ (∀ c, c ≠ 26 → M' c = M c) ∧ cRow p (doneR r) (M' 26 1) (M' 26 2) (M' 26 3) (M' 26 4) (M' 27) pi pa
  | 0, i, M, h, hE, hp, hr => by
    have h8 := hv.2.2.2.1
    obtain ⟨r1, r2, r3, r4, r5, r6, r7⟩ := hr
    obtain rfl : i = pNx p := by omega
    refine ⟨lc_up M 26 3 (M 26 3 ||| nI (bs (finB r) (pNx p))), ?_, fun c hc => up_ne hc, ?_⟩
    · rw [sg_10_1_4, hp.2.2.2.1, if_pos (nI_le (by omega) (by omega))]
    · rw [show lc_up M 26 3 (M 26 3 ||| nI (bs (finB r) (pNx p))) 26 1 = M 26 1 from rfl, show lc_up M 26 3 (M 26 3 ||| nI (bs (finB r) (pNx p))) 26 2 = M 26 2 from rfl, show lc_up M 26 3 (M 26 3 ||| nI (bs (finB r) (pNx p))) 26 3 = M 26 3 ||| nI (bs (finB r) (pNx p)) from rfl, show lc_up M 26 3 (M 26 3 ||| nI (bs (finB r) (pNx p))) 26 4 = M 26 4 from rfl, up_ne (by decide)]
      have one : ∀ y, y < pNx p → ((if finB r y = true then 2 else rHow r y) = 1 ↔ (if (decide (y < pNx p) && finB r y) = true then 0 else rHow r y) = 1) := fun y hy => by
        by_cases e : finB r y = true
        · rw [if_pos e, if_pos (by simp [e, hy])]; decide
        · rw [if_neg e, if_neg (by simp [e])]
      refine ⟨r1, bits_ext r2 one, bits_or r3 (bs_lt _ _) (fun y hy => ?_), bits_ext r4 (fun m hm => ?_), fun y hy hh => ?_, r6, r7⟩
      · show (if finB r y = true then 2 else rHow r y) = 2 ↔ ((if (decide (y < pNx p) && finB r y) = true then 0 else rHow r y) = 2 ∨ (bs (finB r) (pNx p)).testBit y = true)
        rw [bs_bit]
        by_cases e : finB r y = true
        · rw [if_pos e, if_pos (by simp [e, hy])]; simp [e, hy]
        · rw [if_neg e, if_neg (by simp [e])]; simp [e]
      · show (∃ y, y < pNx p ∧ (if finB r y = true then 2 else rHow r y) = 1 ∧ (pA p y = m ∨ pB p y = m)) ↔ (∃ y, y < pNx p ∧ (if (decide (y < pNx p) && finB r y) = true then 0 else rHow r y) = 1 ∧ (pA p y = m ∨ pB p y = m))
        constructor
        · rintro ⟨y, g1, g2, g3⟩; exact ⟨y, g1, (one y g1).mp g2, g3⟩
        · rintro ⟨y, g1, g2, g3⟩; exact ⟨y, g1, (one y g1).mpr g2, g3⟩
      · rw [hE]
        refine he y hy (fun z => ?_)
        have hh' : (if finB r y = true then 2 else rHow r y) ≠ 0 := hh
        by_cases e : finB r y = true
        · have := (fin_iff.mp e).1; omega
        · rw [if_neg e] at hh'; exact hh' z
  | k + 1, i, M, h, hE, hp, hr => by
    have h8 := hv.2.2.2.1
    have hi : rHow (leftW r (fun x => decide (x < i) && finB r x)) i = rHow r i := by
      show (if (decide (i < i) && finB r i) = true then 0 else rHow r i) = _
      rw [if_neg (by simp)]
    by_cases h1 : rHow r i = 1
    · have hti := htl i (by omega) h1
      have start : lc_val (d + 2) 10 4 [.ref 26, .int (nI (bs (finB r) i)), .int (nI i)] [] lc_SH M = lc_val (d + 2) 10 26 [.ref 26, .int (nI (bs (finB r) i)), .int (nI i)] [] lc_SH M := by
        rw [sg_10_1_4, hp.2.2.2.1, if_neg (nI_ge (by omega) (by omega)), lc_it_val, v_hasB1 hr.2.1 h8 (by omega) (by rw [hi]; exact h1), lc_bk1, sg_10_1_23, if_neg (by decide), lc_it_val]
      have hen : M 27 i = nI (rTill r i) := by rw [hE]; exact he i (by omega) (by omega)
      have hm1 : M 26 1 = nI (rT r) := hr.1
      by_cases hf : finB r i = true
      · have hle := (fin_iff.mp hf).2
        obtain ⟨M1, g1, g2, g3, g4⟩ := v_leave1 (d := d) (p := p) hp hv (left_disj hd) hr (x := i) (by omega) (by rw [hi]; exact h1)
        rw [left_open hf] at g4
        obtain ⟨M', e1, e2, e3⟩ := v_finL1 (d := d) (pi := pi) (pa := pa) hv hd ht htl he k (i + 1) M1 (by omega) (by rw [g2 27 (by decide)]; exact hE) (by rw [g2 9 (by decide), g2 10 (by decide), g2 11 (by decide), g2 12 (by decide), g2 13 (by decide), g2 14 (by decide)]; exact hp) (by rw [g3, g2 27 (by decide)]; exact g4)
        refine ⟨M', ?_, fun c hc => by rw [e2 c hc, g2 c hc], e3⟩
        rw [start, sg_10_1_26, if_pos (nI_in (by omega) (by decide)), nI_clamp (by omega), hen, hm1, if_neg (nI_nlt hle (by omega)), g1, lc_bk0, sg_10_1_44, shl_1 i (by omega), nI_or, nI_1, ← bs_up1 hf]
        exact e1
      · have hgt : rT r < rTill r i := by
          rcases Nat.lt_or_ge (rT r) (rTill r i) with z | z
          · exact z
          · exact absurd (fin_iff.mpr ⟨h1, z⟩) hf
        obtain ⟨M', e1, e2, e3⟩ := v_finL1 (d := d) (pi := pi) (pa := pa) hv hd ht htl he k (i + 1) M (by omega) hE hp (by rw [← left_same hf]; exact hr)
        refine ⟨M', ?_, e2, e3⟩
        rw [start, sg_10_1_26, if_pos (nI_in (by omega) (by decide)), nI_clamp (by omega), hen, hm1, if_pos (nI_lt hgt (by omega)), lc_it_val, nI_1, ← bs_up0 hf]
        exact e1
    · have hf : ¬ finB r i = true := fun z => h1 (fin_iff.mp z).1
      obtain ⟨M', e1, e2, e3⟩ := v_finL1 (d := d) (pi := pi) (pa := pa) hv hd ht htl he k (i + 1) M (by omega) hE hp (by rw [← left_same hf]; exact hr)
      refine ⟨M', ?_, e2, e3⟩
      rw [sg_10_1_4, hp.2.2.2.1, if_neg (nI_ge (by omega) (by omega)), lc_it_val, v_hasB0 hr.2.1 h8 (by omega) (by rw [hi]; exact h1), lc_bk1]
      rw [sg_10_1_23, if_pos (by decide), nI_1, ← bs_up0 hf]
      exact e1
theorem v_finish1 {d : Nat} {p : aPat} {r : aRow} {pi pa : Nat → Int32} {M : lc_M} (hv : vPat p) (hd : disjR p r) (ht : rT r < 2 ^ 30) (htl : ∀ x, x < pNx p → rHow r x = 1 → rTill r x < 2 ^ 30) (hp : cPat p (M 9) (M 10) (M 11) (M 12) (M 13) (M 14)) (hr : cRow p r (M 26 1) (M 26 2) (M 26 3) (M 26 4) (M 27) pi pa) : ∃ M', lc_val (d + 2) 10 0 [.ref 26, .null, .null] [] lc_SH M = some (some (.int (nI (bs (finB r) (pNx p)))), lc_SH, M') ∧ (∀ c, c ≠ 26 → M' c = M c) ∧ cRow p (doneR r) (M' 26 1) (M' 26 2) (M' 26 3) (M' 26 4) (M' 27) pi pa := by
  have h0 : leftW r (fun x => decide (x < 0) && finB r x) = r := by
    show ((rT r, (fun y => if (decide (y < 0) && finB r y) = true then 0 else rHow r y), rTill r, rPin r, rPaid r) : aRow) = r
    have hf : (fun y => if (decide (y < 0) && finB r y) = true then 0 else rHow r y) = rHow r := funext fun y => by simp
    rw [hf]
    rfl
  obtain ⟨M', e1, e2, e3⟩ := v_finL1 (d := d) (pi := pi) (pa := pa) hv hd ht htl hr.2.2.2.2.1 (pNx p) 0 M (by omega) rfl hp (by rw [h0]; exact hr)
  refine ⟨M', ?_, e2, e3⟩
  rw [sg_10_1_0]
  exact e1
/-! pins and bills of the calls that end -/
def pinF (p : aPat) (f : Nat → Bool) (pin : Nat → Nat) : Nat → (Nat → Nat)
  | 0 => pin
  | x + 1 => if f x = true then crossP p (pEar p) (pinF p f pin x) x else pinF p f pin x
def paidF (p : aPat) (f : Nat → Bool) (paid : Nat → Nat) : Nat → (Nat → Nat)
  | 0 => paid
  | x + 1 => if f x = true then billP p (paidF p f paid x) x (pMi p x) else paidF p f paid x
def tickR (r : aRow) : aRow := (rT r + 1, rHow r, rTill r, rPin r, rPaid r)
def passR (p : aPat) (r : aRow) : aRow := (rT r + 1, fun x => if finB (tickR r) x = true then 2 else rHow r x, rTill r, pinF p (finB (tickR r)) (rPin r) (pNx p), paidF p (finB (tickR r)) (rPaid r) (pNx p))
theorem pinF_lt {p : aPat} (hv : vPat p) {f : Nat → Bool} {pin : Nat → Nat} (h : ∀ m, m < 6 → pin m < 6) : ∀ x, x ≤ pNx p → ∀ m, m < 6 → pinF p f pin x m < 6
  | 0, _ => h
  | x + 1, hx => by
    rw [pinF]
    split
    · exact crossP_lt hv (by omega) (pinF_lt hv h x (by omega))
    · exact pinF_lt hv h x (by omega)
theorem paidF_le {p : aPat} (hv : vPat p) {f : Nat → Bool} {paid : Nat → Nat} {pb : Nat} (h : ∀ m, m < 6 → paid m ≤ pb) : ∀ x, x ≤ pNx p → ∀ m, m < 6 → paidF p f paid x m ≤ pb + 1980 * x
  | 0, _ => h
  | x + 1, hx => by
    have ih := paidF_le hv (f := f) h x (by omega)
    have hmi := hv.2.2.2.2.2.2.1 x (by omega)
    intro m hm
    rw [paidF]
    split
    · exact Nat.le_trans (billP_le (x := x) (k := pMi p x) hv hmi.2.2.2.2 ih m hm) (Nat.le_of_eq (by rw [Nat.mul_succ, Nat.add_assoc]))
    · exact Nat.le_trans (ih m hm) (Nat.add_le_add_left (Nat.mul_le_mul_left _ (Nat.le_succ x)) pb)
theorem vRowG_pass {tb pb : Nat} {p : aPat} {r : aRow} (hv : vPat p) (h : vRowG tb pb p r) : vRowG (tb + 1) (pb + 15840) p (passR p r) := by
  obtain ⟨h1, h2, h3, h4, h5, h6, h7⟩ := h
  have h8 := hv.2.2.2.1
  have key : ∀ y, (if finB (tickR r) y = true then 2 else rHow r y) = 1 → ¬ finB (tickR r) y = true ∧ rHow r y = 1 := fun y hy => by
    by_cases e : finB (tickR r) y = true
    · rw [if_pos e] at hy; cases hy
    · rw [if_neg e] at hy; exact ⟨e, hy⟩
  refine ⟨by show rT r + 1 ≤ tb + 1; omega, fun y hy => ?_, fun y hy hh => ?_, fun y hy hh => ?_, pinF_lt hv h5 _ (Nat.le_refl _), fun m hm => ?_, fun y z hy hz g1 g2 hne => h7 y z hy hz (key y g1).2 (key z g2).2 hne⟩
  · show (if finB (tickR r) y = true then 2 else rHow r y) ≤ 2
    have := h2 y hy
    split <;> omega
  · obtain ⟨g1, g2⟩ := key y hh
    have g3 := h3 y hy g2
    show rT r + 1 < rTill r y ∧ rTill r y ≤ rT r + 1 + pMi p y
    have : ¬ rTill r y ≤ rT r + 1 := fun z => g1 (fin_iff.mpr ⟨g2, z⟩)
    omega
  · show rTill r y ≤ rT r + 1
    have hh' : (if finB (tickR r) y = true then 2 else rHow r y) = 2 := hh
    by_cases e : finB (tickR r) y = true
    · exact (fin_iff.mp e).2
    · rw [if_neg e] at hh'
      have := h4 y hy hh'
      omega
  · have := paidF_le hv (f := finB (tickR r)) h6 (pNx p) (Nat.le_refl _) m hm
    show paidF p (finB (tickR r)) (rPaid r) (pNx p) m ≤ pb + 15840
    omega
theorem v_endsC {d : Nat} {p : aPat} {f : Nat → Bool} {pin paid : Nat → Nat} (hv : vPat p) : ∀ (k i : Nat) (M : lc_M), i + k = pNx p → cPat p (M 9) (M 10) (M 11) (M 12) (M 13) (M 14) → (∀ m, m < 6 → M 18 m = nI (pinF p f pin i m)) → (∀ m, m < 6 → M 19 m = nI (paidF p f paid i m)) → ∃ M', lc_val (d + 2) 18 23 [.ref 15, .int (nI (bs f (pNx p))), .int (nI i)] [] lc_SH M = some (none, lc_SH, M') ∧ (∀ c, c ≠ 18 → c ≠ 19 → M' c = M c) ∧ (∀ m, m < 6 → M' 18 m = nI (pinF p f pin (pNx p) m)) ∧ ∀ m, m < 6 → M' 19 m = nI (paidF p f paid (pNx p) m)
  | 0, i, M, h, hp, h1, h2 => by
    have h8 := hv.2.2.2.1
    obtain rfl : i = pNx p := by omega
    refine ⟨M, ?_, fun _ _ _ => rfl, h1, h2⟩
    rw [sg_18_0_23, hp.2.2.2.1, if_pos (nI_le (by omega) (by omega))]
  | k + 1, i, M, h, hp, h1, h2 => by
    have h8 := hv.2.2.2.1
    have hb : (bs f (pNx p)).testBit i = f i := by rw [bs_bit]; simp; omega
    by_cases q : f i = true
    · have hear : ∀ m, m < pNm p → M 10 m = nI (pEar p m) ∧ pEar p m ≤ 2 := fun m hm => ⟨hp.2.2.2.2.1 m hm, hv.2.2.2.2.2.1 m hm⟩
      obtain ⟨M1, f1, f2, f3⟩ := v_cross0 (d := d) (x := i) hp hv (by omega) hear h1
      have hp1 : cPat p (M1 9) (M1 10) (M1 11) (M1 12) (M1 13) (M1 14) := by
        rw [f2 9 (by decide), f2 10 (by decide), f2 11 (by decide), f2 12 (by decide), f2 13 (by decide), f2 14 (by decide)]; exact hp
      obtain ⟨M2, g1, g2, g3⟩ := v_bill (d := d + 1) (x := i) (k := pMi p i) hp1 hv (by omega) (by rw [f2 19 (by decide)]; exact h2)
      have hp2 : cPat p (M2 9) (M2 10) (M2 11) (M2 12) (M2 13) (M2 14) := by
        rw [g2 9 (by decide), g2 10 (by decide), g2 11 (by decide), g2 12 (by decide), g2 13 (by decide), g2 14 (by decide)]; exact hp1
      obtain ⟨M', e1, e2, e3, e4⟩ := v_endsC (d := d) (f := f) (pin := pin) (paid := paid) hv k (i + 1) M2 (by omega) hp2 (fun m hm => by rw [g2 18 (by decide), pinF, if_pos q]; exact f3 m hm) (fun m hm => by rw [paidF, if_pos q]; exact g3 m hm)
      refine ⟨M', ?_, fun c a1 a2 => by rw [e2 c a1 a2, g2 c a2, f2 c a1], e3, e4⟩
      rw [sg_18_0_23, hp.2.2.2.1, if_neg (nI_ge (by omega) (by omega)), v_has1 (bs_256 h8) (by omega) (by rw [hb]; exact q), lc_bk1, sg_18_0_39, if_neg (by decide), f1, lc_bk0, sg_18_0_61, if_pos (nI_in (by omega) (by decide)), nI_clamp (by omega), f2 13 (by decide), (hp.2.2.2.2.2 i (by omega)).2.2.1, g1, lc_bk0, sg_18_0_75, nI_1]
      exact e1
    · obtain ⟨M', e1, e2, e3, e4⟩ := v_endsC (d := d) (f := f) (pin := pin) (paid := paid) hv k (i + 1) M (by omega) hp (fun m hm => by rw [pinF, if_neg q]; exact h1 m hm) (fun m hm => by rw [paidF, if_neg q]; exact h2 m hm)
      refine ⟨M', ?_, e2, e3, e4⟩
      rw [sg_18_0_23, hp.2.2.2.1, if_neg (nI_ge (by omega) (by omega)), v_has0 (bs_256 h8) (by omega) (by rw [hb]; exact q), lc_bk1, sg_18_0_39, if_pos rfl, lc_it_val, sg_18_0_75, nI_1]
      exact e1
def passS (S : aSt) : aSt := stW S (passR (sP S) (sR S)) (remU S) (sI S) (sS S)
theorem vStG_pass {tb pb : Nat} {S : aSt} (h : vStG tb pb S) : vStG (tb + 1) (pb + 15840) (passS S) := vStG_row (S := remS S) (vStG_mono (by omega) (by omega) (vStG_rem h)) (vRowG_pass h.1 h.2.1)
theorem v_passC {tb pb d : Nat} {S : aSt} {M : lc_M} (hv : vStG tb pb S) (htb : tb ≤ 5000) (hM : repC S M) : ∃ M', lc_val (d + 3) 18 0 [.ref 15, .null, .null] [] lc_SH M = some (none, lc_SH, M') ∧ repC (stW S (passR (sP S) (sR S)) (sU S) (sI S) (sS S)) M' ∧ ∀ c, 43 ≤ c → M' c = M c := by
  have hr := hv.2.1
  have ne : ∀ c, c ≠ 16 → lc_up M 16 1 (M 16 1 + 1) c = M c := fun c hc => up_ne hc
  have hp1 : cPat (sP S) (lc_up M 16 1 (M 16 1 + 1) 9) (lc_up M 16 1 (M 16 1 + 1) 10) (lc_up M 16 1 (M 16 1 + 1) 11) (lc_up M 16 1 (M 16 1 + 1) 12) (lc_up M 16 1 (M 16 1 + 1) 13) (lc_up M 16 1 (M 16 1 + 1) 14) := by
    rw [ne 9 (by decide), ne 10 (by decide), ne 11 (by decide), ne 12 (by decide), ne 13 (by decide), ne 14 (by decide)]; exact hM.1
  have hr1 : cRow (sP S) (tickR (sR S)) (lc_up M 16 1 (M 16 1 + 1) 16 1) (lc_up M 16 1 (M 16 1 + 1) 16 2) (lc_up M 16 1 (M 16 1 + 1) 16 3) (lc_up M 16 1 (M 16 1 + 1) 16 4) (lc_up M 16 1 (M 16 1 + 1) 17) (lc_up M 16 1 (M 16 1 + 1) 18) (lc_up M 16 1 (M 16 1 + 1) 19) := by
    rw [ne 17 (by decide), ne 18 (by decide), ne 19 (by decide)]
    obtain ⟨z1, z2⟩ := hM.2.1
    refine ⟨?_, z2⟩
    rw [up_at, if_pos rfl, if_pos rfl, z1, nI_1]
    rfl
  obtain ⟨M1, f1, f2, f3⟩ := v_finish0 (d := d) (r := tickR (sR S)) hv.1 hr.2.2.2.2.2.2 (by show rT (sR S) + 1 < 2 ^ 30; have := hr.1; omega) (fun x hx h1 => by have := hr.2.2.1 x hx h1; have h3 := hr.1; have h4 := hv.1.2.2.2.2.2.2.1 x hx; show rTill (sR S) x < 2 ^ 30; omega) hp1 hr1
  obtain ⟨M', e1, e2, e3, e4⟩ := v_endsC (d := d + 1) (f := finB (tickR (sR S))) (pin := rPin (sR S)) (paid := rPaid (sR S)) hv.1 (pNx (sP S)) 0 M1 (by omega) (by rw [f2 9 (by decide), f2 10 (by decide), f2 11 (by decide), f2 12 (by decide), f2 13 (by decide), f2 14 (by decide)]; exact hp1) (by rw [f2 18 (by decide)]; exact hr1.2.2.2.2.2.1) (by rw [f2 19 (by decide)]; exact hr1.2.2.2.2.2.2)
  refine ⟨M', ?_, ?_, fun c hc => by rw [e2 c (by omega) (by omega), f2 c (by omega), ne c (by omega)]⟩
  · rw [sg_18_0_0, f1, lc_bk1, sg_18_0_20]
    exact e1
  · refine repC_row hM (fun c a1 a2 a3 a4 => by rw [e2 c a3 a4, f2 c a1, ne c a1]) ?_
    rw [e2 16 (by decide) (by decide), e2 17 (by decide) (by decide)]
    obtain ⟨q1, q2, q3, q4, q5, q6, q7⟩ := f3
    exact ⟨q1, q2, q3, q4, q5, e3, e4⟩
theorem v_passMinC {tb pb d : Nat} {S : aSt} {M : lc_M} (hv : vStG tb pb S) (htb : tb ≤ 5000) (hM : repC S M) : ∃ M', lc_val (d + 4) 109 0 [.ref 0] [] lc_SH M = some (none, lc_SH, M') ∧ repC (passS S) M' ∧ ∀ c, 43 ≤ c → M' c = M c := by
  obtain ⟨M1, f1, f2, f3⟩ := v_remC (d := d + 1) hv.1.2.2.2.1 hv.2.2.1.1 hM
  obtain ⟨M', g1, g2, g3⟩ := v_passC (d := d) (vStG_rem hv) htb f2
  refine ⟨M', ?_, g2, fun c hc => by rw [g3 c hc, f3 c (by omega) (by omega)]⟩
  rw [sg_109_0_0, f1, lc_bk0, sg_109_0_11, g1, lc_bk0, sg_109_0_18]
/-! the reference's side, and what is known -/
def stepK (p : aPat) (x K : Nat) : Nat := if K.testBit (pA p x) = true ∨ K.testBit (pB p x) = true then K ||| pairN p x else K
def knowL (p : aPat) (f : Nat → Bool) : Nat → Nat → Nat → Nat
  | 0, _, K => K
  | k + 1, i, K => knowL p f k (i + 1) (if f i = true then stepK p i K else K)
def pasR (p : aPat) (r : aRow) (i : Nat) : aRow := (rT r + 1, fun x => if (decide (x < i) && finB (tickR r) x) = true then 2 else rHow r x, rTill r, pinF p (finB (tickR r)) (rPin r) i, paidF p (finB (tickR r)) (rPaid r) i)
theorem stepK_lt {p : aPat} {x K : Nat} (ha : pA p x < 6) (hb : pB p x < 6) (h : K < 64) : stepK p x K < 64 := by
  unfold stepK
  split
  · exact Nat.or_lt_two_pow (n := 6) h (pair_lt ha hb)
  · exact h
theorem pas_same {p : aPat} {r : aRow} {i : Nat} (h : ¬ finB (tickR r) i = true) : pasR p r i = pasR p r (i + 1) := by
  have hf : (fun x => if (decide (x < i) && finB (tickR r) x) = true then 2 else rHow r x) = (fun x => if (decide (x < i + 1) && finB (tickR r) x) = true then 2 else rHow r x) := funext fun y => by
    by_cases e : y = i
    · subst e
      rw [show finB (tickR r) y = false by simpa using h]
      simp
    · have : (y < i) = (y < i + 1) := by
        apply propext
        constructor
        · intro; omega
        · intro; omega
      simp [this]
  unfold pasR
  rw [hf, pinF, if_neg h, paidF, if_neg h]
theorem v_passML {tb pb d at0 : Nat} {p : aPat} {r : aRow} (hv : vPat p) (hvr : vRowG tb pb p r) (htb : tb ≤ 5000) (ha : at0 ≤ 900) : ∀ (k i : Nat) (M : lc_M), i + k = pNx p → cPat p (fun k => M 43 (k + 2)) (M 46) (M 47) (M 48) (M 49) (M 50) → mRowAt p (pasR p r i) (M 44) at0 → ∃ M', lc_val (d + 2) 145 15 [.ref 43, .int (nI at0), .int (nI i)] [] lc_SH M = some (none, lc_SH, M') ∧ (∀ c, c ≠ 43 → c ≠ 44 → M' c = M c) ∧ (∀ j, j ≠ 21 → M' 43 j = M 43 j) ∧ (∀ j, (j < at0 ∨ at0 + 29 ≤ j) → M' 44 j = M 44 j) ∧ mRowAt p (pasR p r (pNx p)) (M' 44) at0 ∧ ∀ K, K < 64 → M 43 21 = nI K → M' 43 21 = nI (knowL p (finB (tickR r)) k i K)
  | 0, i, M, h, hp, hr => by
    have h8 := hv.2.2.2.1
    obtain rfl : i = pNx p := by omega
    refine ⟨M, ?_, fun _ _ _ => rfl, fun _ _ => rfl, fun _ _ => rfl, hr, fun K _ hK => hK⟩
    rw [sg_145_0_15, show M 43 5 = nI (pNx p) from hp.2.2.2.1, if_pos (nI_le (by omega) (by omega))]
  | k + 1, i, M, h, hp, hr => by
    have h8 := hv.2.2.2.1
    have hm6 := hv.2.2.1
    have hab := hv.2.2.2.2.2.2.1 i (by omega)
    have hhow := hvr.2.1 i (by omega)
    have hT := hvr.1
    have hc := hp.2.2.2.2.2 i (by omega)
    have h12 : nI at0 + 12 = nI (at0 + 12) := nI_add at0 12
    have h20 : nI at0 + 20 = nI (at0 + 20) := nI_add at0 20
    have h28 : nI at0 + 28 = nI (at0 + 28) := nI_add at0 28
    obtain ⟨r1, r2, r3, r4, r5⟩ := hr
    have hi : rHow (pasR p r i) i = rHow r i := by
      show (if (decide (i < i) && finB (tickR r) i) = true then 2 else rHow r i) = _
      rw [if_neg (by simp)]
    have e12 : M 44 (at0 + 12 + i) = nI (rHow r i) := by rw [r3 i (by omega), hi]
    have skip : ¬ finB (tickR r) i = true → lc_val (d + 2) 145 15 [.ref 43, .int (nI at0), .int (nI i)] [] lc_SH M = lc_val (d + 2) 145 15 [.ref 43, .int (nI at0), .int (nI (i + 1))] [] lc_SH M → ∃ M', lc_val (d + 2) 145 15 [.ref 43, .int (nI at0), .int (nI i)] [] lc_SH M = some (none, lc_SH, M') ∧ (∀ c, c ≠ 43 → c ≠ 44 → M' c = M c) ∧ (∀ j, j ≠ 21 → M' 43 j = M 43 j) ∧ (∀ j, (j < at0 ∨ at0 + 29 ≤ j) → M' 44 j = M 44 j) ∧ mRowAt p (pasR p r (pNx p)) (M' 44) at0 ∧ ∀ K, K < 64 → M 43 21 = nI K → M' 43 21 = nI (knowL p (finB (tickR r)) (k + 1) i K) := fun hf he => by
      obtain ⟨M', e1, e2, e3, e4, e5, e6⟩ := v_passML (d := d) hv hvr htb ha k (i + 1) M (by omega) hp (by rw [← pas_same hf]; exact ⟨r1, r2, r3, r4, r5⟩)
      exact ⟨M', he.trans e1, e2, e3, e4, e5, fun K hK hk => by rw [knowL, if_neg hf]; exact e6 K hK hk⟩
    have head : lc_val (d + 2) 145 15 [.ref 43, .int (nI at0), .int (nI i)] [] lc_SH M = lc_val (d + 2) 145 23 [.ref 43, .int (nI at0), .int (nI i)] [] lc_SH M := by
      rw [sg_145_0_15, show M 43 5 = nI (pNx p) from hp.2.2.2.1, if_neg (nI_ge (by omega) (by omega)), lc_it_val]
    by_cases h1 : rHow r i = 1
    · have ht := hvr.2.2.1 i (by omega) h1
      have e20 : M 44 (at0 + 20 + i) = nI (rTill r i) := by
        rw [r4 i (by omega), if_neg (by rw [hi]; omega)]
        rfl
      have e28 : M 44 (at0 + 28) = nI (rT r + 1) := r5
      by_cases hf : finB (tickR r) i = true
      · have hle : rTill r i ≤ rT r + 1 := (fin_iff.mp hf).2
        have heq : rTill r i = rT r + 1 := by omega
        -- the crossing is done
        have ne44 : ∀ c, c ≠ 44 → lc_up M 44 (at0 + 12 + i) 2 c = M c := fun c hc => up_ne hc
        have at44 : ∀ j, lc_up M 44 (at0 + 12 + i) 2 44 j = if j = at0 + 12 + i then 2 else M 44 j := fun j => by rw [up_at, if_pos rfl]
        obtain ⟨M2, g1, g2, g3, g4⟩ := v_payM (d := d + 1) (at0 := at0) (p := p) (x := i) (k := pMi p i) (paid := paidF p (finB (tickR r)) (rPaid r) i) (M := lc_up M 44 (at0 + 12 + i) 2) (by rw [ne44 43 (by decide)]; exact hp.2.1) (by rw [ne44 47 (by decide), ne44 48 (by decide)]; exact ⟨hc.1, hc.2.1⟩) hv ha (by omega) (fun m hm => by rw [at44, if_neg (by omega)]; exact r2 m hm)
        obtain ⟨M3, k1, k2, k3, k4⟩ := v_crossM (d := d) (at0 := at0) (p := p) (x := i) (ear := pEar p) (pin := pinF p (finB (tickR r)) (rPin r) i) (M := M2) (by rw [g2 43 (by decide), ne44 43 (by decide)]; exact hp.2.2.1) (by rw [g2 47 (by decide), g2 48 (by decide), ne44 47 (by decide), ne44 48 (by decide)]; exact ⟨hc.1, hc.2.1⟩) hv (by omega) ha (fun m hm => by rw [g2 46 (by decide), ne44 46 (by decide)]; exact ⟨hp.2.2.2.2.1 m hm, hv.2.2.2.2.2.1 m hm⟩) (fun m hm => by rw [g3 _ (by omega), at44, if_neg (by omega)]; exact r1 m hm)
        have e3c : ∀ c, c ≠ 44 → M3 c = M c := fun c hc => by rw [k2 c hc, g2 c hc, ne44 c hc]
        have row3 : ∀ K : lc_M, K 44 = M3 44 → mRowAt p (pasR p r (i + 1)) (K 44) at0 := fun K hK => by
          rw [hK]
          refine ⟨fun m hm => ?_, fun m hm => ?_, fun y hy => ?_, fun y hy => ?_, ?_⟩
          · show _ = nI (pinF p (finB (tickR r)) (rPin r) (i + 1) m)
            rw [pinF, if_pos hf]; exact k4 m hm
          · show _ = nI (paidF p (finB (tickR r)) (rPaid r) (i + 1) m)
            rw [paidF, if_pos hf, k3 _ (by omega)]; exact g4 m hm
          · show _ = nI (if (decide (y < i + 1) && finB (tickR r) y) = true then 2 else rHow r y)
            rw [k3 _ (by omega), g3 _ (by omega), at44]
            by_cases e : y = i
            · rw [if_pos (by omega), if_pos (by rw [e]; simp [hf])]; rfl
            · rw [if_neg (by omega), r3 y hy]
              show nI (if (decide (y < i) && finB (tickR r) y) = true then 2 else rHow r y) = _
              have : (y < i) = (y < i + 1) := by
                apply propext
                constructor
                · intro; omega
                · intro; omega
              simp [this]
          · show _ = if (if (decide (y < i + 1) && finB (tickR r) y) = true then 2 else rHow r y) = 0 then -1 else nI (rTill r y)
            rw [k3 _ (by omega), g3 _ (by omega), at44, if_neg (by omega)]
            by_cases e : y = i
            · rw [if_neg (by rw [e]; simp [hf]), e]; exact e20
            · rw [r4 y hy]
              show (if (if (decide (y < i) && finB (tickR r) y) = true then 2 else rHow r y) = 0 then (-1 : Int32) else nI (rTill r y)) = _
              have : (y < i) = (y < i + 1) := by
                apply propext
                constructor
                · intro; omega
                · intro; omega
              simp [this]
          · rw [k3 _ (by omega), g3 _ (by omega), at44, if_neg (by omega)]; exact e28
        have walk : ∃ v : Int32, lc_val (d + 2) 145 15 [.ref 43, .int (nI at0), .int (nI i)] [] lc_SH M = lc_val (d + 2) 145 15 [.ref 43, .int (nI at0), .int (nI (i + 1))] [] lc_SH (lc_up M3 43 21 v) ∧ ∀ K, K < 64 → M 43 21 = nI K → v = nI (stepK p i K) := by
          have pre : lc_val (d + 2) 145 15 [.ref 43, .int (nI at0), .int (nI i)] [] lc_SH M = lc_back 59 (fun st' Sh' M' => lc_val (d + 2) 145 109 [.ref 43, .int (nI at0), .int (nI i)] st' Sh' M') [.int (M 43 21), .ref 43] (lc_val (d + 1) 118 0 [.int (M 43 21), .int (nI (pA p i))] [] lc_SH M3) := by
            rw [head, sg_145_0_23, h12, nI_add, if_pos (nI_in (by omega) (by decide)), nI_clamp (by omega), e12, h1, if_neg (fun z => z rfl), lc_it_val, sg_145_0_38, h20, nI_add, if_pos (nI_in (by omega) (by decide)), nI_clamp (by omega), e20, sg_145_0_49, h28, if_pos (nI_in (by omega) (by decide)), nI_clamp (by omega), e28, heq, if_neg (fun z => z rfl), lc_it_val, sg_145_0_61, h12, nI_add, if_pos (nI_in (by omega) (by decide)), nI_clamp (by omega), sg_145_0_73, if_pos (nI_in (by omega) (by decide)), nI_clamp (by omega), ne44 49 (by decide), hc.2.2.1, g1, lc_bk0, sg_145_0_85, k1, lc_bk0, sg_145_0_91, if_pos (nI_in (by omega) (by decide)), nI_clamp (by omega), e3c 43 (by decide), e3c 47 (by decide), hc.1]
          have yes : lc_val (d + 2) 145 128 [.ref 43, .int (nI at0), .int (nI i)] [.int (M 43 21), .ref 43] lc_SH M3 = lc_val (d + 2) 145 15 [.ref 43, .int (nI at0), .int (nI (i + 1))] [] lc_SH (lc_up M3 43 21 (M 43 21 ||| nI (pairN p i))) := by
            rw [sg_145_0_128, if_pos (nI_in (by omega) (by decide)), if_pos (nI_in (by omega) (by decide)), nI_clamp (by omega), e3c 47 (by decide), e3c 48 (by decide), hc.1, hc.2.1, shl_1 _ (by omega), shl_1 _ (by omega), nI_or, nI_1]
            rfl
          rw [pre, sg_118_0_0]
          by_cases q1 : ((M 43 21 >>> (nI (pA p i) &&& 31)) &&& 1) = 1
          · refine ⟨M 43 21 ||| nI (pairN p i), ?_, fun K hK hk => ?_⟩
            · rw [if_neg (fun z => z q1)]
              show lc_val (d + 2) 145 109 [.ref 43, .int (nI at0), .int (nI i)] [.int 1, .int (M 43 21), .ref 43] lc_SH M3 = _
              rw [sg_145_0_109, if_pos (by decide), lc_it_val, yes]
            · rw [hk] at q1 ⊢
              rw [stepK, if_pos (Or.inl ((has_b K (by omega) _ (by omega)).mp q1)), nI_or]
          · rw [if_pos q1]
            have pre2 : lc_back 59 (fun st' Sh' M' => lc_val (d + 2) 145 109 [.ref 43, .int (nI at0), .int (nI i)] st' Sh' M') [.int (M 43 21), .ref 43] (some (some (.int 0), lc_SH, M3)) = lc_back 59 (fun st' Sh' M' => lc_val (d + 2) 145 125 [.ref 43, .int (nI at0), .int (nI i)] st' Sh' M') [.int (M 43 21), .ref 43] (lc_val (d + 1) 118 0 [.int (M 43 21), .int (nI (pB p i))] [] lc_SH M3) := by
              show lc_val (d + 2) 145 109 [.ref 43, .int (nI at0), .int (nI i)] [.int 0, .int (M 43 21), .ref 43] lc_SH M3 = _
              rw [sg_145_0_109, if_neg (fun z => z rfl), if_pos (nI_in (by omega) (by decide)), nI_clamp (by omega), e3c 43 (by decide), e3c 48 (by decide), hc.2.1]
            rw [pre2, sg_118_0_0]
            by_cases q2 : ((M 43 21 >>> (nI (pB p i) &&& 31)) &&& 1) = 1
            · refine ⟨M 43 21 ||| nI (pairN p i), ?_, fun K hK hk => ?_⟩
              · rw [if_neg (fun z => z q2)]
                show lc_val (d + 2) 145 125 [.ref 43, .int (nI at0), .int (nI i)] [.int 1, .int (M 43 21), .ref 43] lc_SH M3 = _
                rw [sg_145_0_125, if_neg (by decide), lc_it_val, yes]
              · rw [hk] at q2 ⊢
                rw [stepK, if_pos (Or.inr ((has_b K (by omega) _ (by omega)).mp q2)), nI_or]
            · refine ⟨M 43 21 ||| 0, ?_, fun K hK hk => ?_⟩
              · rw [if_pos q2]
                show lc_val (d + 2) 145 125 [.ref 43, .int (nI at0), .int (nI i)] [.int 0, .int (M 43 21), .ref 43] lc_SH M3 = _
                rw [sg_145_0_125, if_pos rfl, nI_1]
              · rw [hk] at q1 q2 ⊢
                rw [stepK, if_neg (fun z => z.elim (fun z => q1 ((has_b K (by omega) _ (by omega)).mpr z)) (fun z => q2 ((has_b K (by omega) _ (by omega)).mpr z)))]
                show nI K ||| nI 0 = nI K
                rw [nI_or, Nat.or_zero]
        obtain ⟨v, w1, w2⟩ := walk
        obtain ⟨M', e1, e2, e3, e4, e5, e6⟩ := v_passML (d := d) hv hvr htb ha k (i + 1) (lc_up M3 43 21 v) (by omega) (by
          rw [up_ne (c := 46) (by decide), up_ne (c := 47) (by decide), up_ne (c := 48) (by decide), up_ne (c := 49) (by decide), up_ne (c := 50) (by decide), e3c 46 (by decide), e3c 47 (by decide), e3c 48 (by decide), e3c 49 (by decide), e3c 50 (by decide)]
          obtain ⟨z1, z2, z3, z4, z5⟩ := hp
          have zz : ∀ k, k ≠ 21 → lc_up M3 43 21 v 43 k = M 43 k := fun k hk => by rw [up_at, if_pos rfl, if_neg hk, e3c 43 (by decide)]
          exact ⟨(zz 2 (by decide)).trans z1, (zz 3 (by decide)).trans z2, (zz 4 (by decide)).trans z3, (zz 5 (by decide)).trans z4, z5⟩) (row3 _ (up_ne (by decide)))
        refine ⟨M', w1.trans e1, fun c a1 a2 => by rw [e2 c a1 a2, up_ne a1, e3c c a2], fun j hj => by rw [e3 j hj, up_at, if_pos rfl, if_neg hj, e3c 43 (by decide)], fun j hj => by rw [e4 j hj, up_ne (by decide), k3 j (by omega), g3 j (by omega), at44, if_neg (by omega)], e5, fun K hK hk => ?_⟩
        rw [knowL, if_pos hf]
        exact e6 (stepK p i K) (stepK_lt (by omega) (by omega) hK) (by rw [up_at, if_pos rfl, if_pos rfl, w2 K hK hk])
      · have hgt : ¬ rTill r i = rT r + 1 := fun z => hf (fin_iff.mpr ⟨h1, by show rTill r i ≤ rT r + 1; omega⟩)
        refine skip hf ?_
        rw [head, sg_145_0_23, h12, nI_add, if_pos (nI_in (by omega) (by decide)), nI_clamp (by omega), e12, h1, if_neg (fun z => z rfl), lc_it_val, sg_145_0_38, h20, nI_add, if_pos (nI_in (by omega) (by decide)), nI_clamp (by omega), e20, sg_145_0_49, h28, if_pos (nI_in (by omega) (by decide)), nI_clamp (by omega), e28, if_pos (fun z => hgt ((nI_eq (by omega) (by omega)).mp z)), nI_1]
    · have hf : ¬ finB (tickR r) i = true := fun z => h1 (fin_iff.mp z).1
      refine skip hf ?_
      rw [head, sg_145_0_23, h12, nI_add, if_pos (nI_in (by omega) (by decide)), nI_clamp (by omega), e12, if_pos (show ¬ nI (rHow r i) = 1 from fun z => h1 ((nI_eq (b := 1) (by omega) (by decide)).mp z)), nI_1]
theorem pas_end {p : aPat} {r : aRow} : ∀ x, x < pNx p → rHow (pasR p r (pNx p)) x = rHow (passR p r) x := fun x hx => by
  show (if (decide (x < pNx p) && finB (tickR r) x) = true then 2 else rHow r x) = (if finB (tickR r) x = true then 2 else rHow r x)
  simp [hx]
theorem mRowAt_how {p : aPat} {r r' : aRow} {f : Nat → Int32} {b : Nat} (h : mRowAt p r f b) (h1 : rT r = rT r') (h2 : ∀ x, x < pNx p → rHow r x = rHow r' x) (h3 : rTill r = rTill r') (h4 : rPin r = rPin r') (h5 : rPaid r = rPaid r') : mRowAt p r' f b := by
  obtain ⟨a1, a2, a3, a4, a5⟩ := h
  rw [h4] at a1; rw [h5] at a2; rw [h1] at a5; rw [h3] at a4
  exact ⟨a1, a2, fun x hx => by rw [← h2 x hx]; exact a3 x hx, fun x hx => by rw [← h2 x hx]; exact a4 x hx, a5⟩
theorem v_passM {tb pb d at0 : Nat} {p : aPat} {r : aRow} {M : lc_M} (hv : vPat p) (hvr : vRowG tb pb p r) (htb : tb ≤ 5000) (ha : at0 ≤ 900) (hp : cPat p (fun k => M 43 (k + 2)) (M 46) (M 47) (M 48) (M 49) (M 50)) (hr : mRowAt p r (M 44) at0) : ∃ M', lc_val (d + 2) 145 0 [.ref 43, .int (nI at0), .null] [] lc_SH M = some (none, lc_SH, M') ∧ (∀ c, c ≠ 43 → c ≠ 44 → M' c = M c) ∧ (∀ j, j ≠ 21 → M' 43 j = M 43 j) ∧ (∀ j, (j < at0 ∨ at0 + 29 ≤ j) → M' 44 j = M 44 j) ∧ mRowAt p (passR p r) (M' 44) at0 ∧ ∀ K, K < 64 → M 43 21 = nI K → M' 43 21 = nI (knowL p (finB (tickR r)) (pNx p) 0 K) := by
  have h8 := hv.2.2.2.1
  have hT := hvr.1
  have h28 : nI at0 + 28 = nI (at0 + 28) := nI_add at0 28
  have ne : ∀ c, c ≠ 44 → lc_up M 44 (at0 + 28) (nI (rT r + 1)) c = M c := fun c hc => up_ne hc
  have at44 : ∀ j, lc_up M 44 (at0 + 28) (nI (rT r + 1)) 44 j = if j = at0 + 28 then nI (rT r + 1) else M 44 j := fun j => by rw [up_at, if_pos rfl]
  obtain ⟨r1, r2, r3, r4, r5⟩ := hr
  obtain ⟨M', e1, e2, e3, e4, e5, e6⟩ := v_passML (d := d) hv hvr htb ha (pNx p) 0 (lc_up M 44 (at0 + 28) (nI (rT r + 1))) (by omega) (by rw [ne 43 (by decide), ne 46 (by decide), ne 47 (by decide), ne 48 (by decide), ne 49 (by decide), ne 50 (by decide)]; exact hp) (by
    refine ⟨fun m hm => by rw [at44, if_neg (by omega)]; exact r1 m hm, fun m hm => by rw [at44, if_neg (by omega)]; exact r2 m hm, fun y hy => ?_, fun y hy => ?_, by rw [at44, if_pos rfl]; rfl⟩
    · show _ = nI (if (decide (y < 0) && finB (tickR r) y) = true then 2 else rHow r y)
      rw [at44, if_neg (by omega), if_neg (by simp)]; exact r3 y hy
    · show _ = if (if (decide (y < 0) && finB (tickR r) y) = true then 2 else rHow r y) = 0 then -1 else nI (rTill r y)
      rw [at44, if_neg (by omega), if_neg (show ¬ (decide (y < 0) && finB (tickR r) y) = true by simp)]; exact r4 y hy)
  refine ⟨M', ?_, fun c a1 a2 => by rw [e2 c a1 a2, ne c a2], fun j hj => by rw [e3 j hj, ne 43 (by decide)], fun j hj => by rw [e4 j hj, at44, if_neg (by omega)], mRowAt_how e5 rfl pas_end rfl rfl rfl, fun K hK hk => e6 K hK (by rw [ne 43 (by decide)]; exact hk)⟩
  rw [sg_145_0_0, h28, if_pos (nI_in (by omega) (by decide)), if_pos (nI_in (by omega) (by decide)), nI_clamp (by omega), r5, nI_1]
  exact e1
theorem v_passM0 {tb pb d : Nat} {S : aSt} {M : lc_M} (hv : vStG tb pb S) (htb : tb ≤ 5000) (hM : repM S M) : ∃ M', lc_val (d + 2) 145 0 [.ref 43, .int 0, .null] [] lc_SH M = some (none, lc_SH, M') ∧ repM (stW S (passR (sP S) (sR S)) (sU S) (sI S) (sS S)) M' ∧ ∀ c, c ≠ 43 → c ≠ 44 → M' c = M c := by
  obtain ⟨M', e1, e2, e3, e4, e5, _⟩ := v_passM (d := d) (at0 := 0) hv.1 hv.2.1 htb (by decide) hM.1 hM.2.1
  exact ⟨M', e1, repM_row hv.1.2.2.2.1 hM e2 e3 (fun j hj => e4 j (by omega)) e5, e2⟩
