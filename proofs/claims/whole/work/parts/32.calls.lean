/-! calls: may one begin, begin, leave, bill -/
theorem repC_row {S : aSt} {M M' : lc_M} {r : aRow} (h : repC S M) (e : ∀ c, c ≠ 16 → c ≠ 17 → c ≠ 18 → c ≠ 19 → M' c = M c) (hr : cRow (sP S) r (M' 16 1) (M' 16 2) (M' 16 3) (M' 16 4) (M' 17) (M' 18) (M' 19)) : repC (stW S r (sU S) (sI S) (sS S)) M' := by
  refine repC_W h (fun c hc => e c (by omega) (by omega) (by omega) (by omega)) hr ?_ ?_ ?_
  · rw [e 20 (by decide) (by decide) (by decide) (by decide), e 21 (by decide) (by decide) (by decide) (by decide)]; exact h.2.2.1
  · rw [e 22 (by decide) (by decide) (by decide) (by decide), e 23 (by decide) (by decide) (by decide) (by decide), e 24 (by decide) (by decide) (by decide) (by decide)]; exact h.2.2.2.1
  · rw [e 0 (by decide) (by decide) (by decide) (by decide)]; exact h.2.2.2.2.2.2.2.2
theorem repM_row {S : aSt} {M M' : lc_M} {r : aRow} (hx : pNx (sP S) ≤ 8) (h : repM S M) (e : ∀ c, c ≠ 43 → c ≠ 44 → M' c = M c) (e3 : ∀ k, k ≠ 21 → M' 43 k = M 43 k) (e4 : ∀ j, 29 ≤ j → M' 44 j = M 44 j) (hr : mRowAt (sP S) r (M' 44) 0) : repM (stW S r (sU S) (sI S) (sS S)) M' := by
  refine repM_W h (fun c hc => e c (by omega) (by omega)) (fun k hk => e3 k (by omega)) hr ⟨?_, fun j t ht => ?_⟩ ⟨fun i hi => ?_, fun i t q hi hq => ?_⟩ ?_
  · rw [e3 22 (by decide)]; exact h.2.2.1.1
  · exact mRowAt_fr hx (h.2.2.1.2 j t ht) (fun i a1 a2 => e4 i (by omega))
  · rw [e 45 (by decide) (by decide)]; exact h.2.2.2.1.1 i hi
  · obtain ⟨g1, g2⟩ := h.2.2.2.1.2 i t q hi hq
    exact ⟨mRowAt_fr hx g1 (fun j a1 a2 => e4 j (by omega)), by rw [e4 _ (by omega)]; exact g2⟩
  · rw [e4 29 (by omega)]; exact h.2.2.2.2.2.2.2.2
def busyP (p : aPat) (r : aRow) (m : Nat) : Prop := ∃ x, x < pNx p ∧ rHow r x = 1 ∧ (pA p x = m ∨ pB p x = m)
def busyB (p : aPat) (r : aRow) (m : Nat) : Bool := (List.range (pNx p)).any (fun x => enB p r m x)
theorem busy_iff {p : aPat} {r : aRow} {m : Nat} : busyB p r m = true ↔ busyP p r m := by
  unfold busyB busyP
  rw [List.any_eq_true]
  constructor
  · rintro ⟨x, hx, he⟩
    simp only [enB, Bool.and_eq_true, Bool.or_eq_true, decide_eq_true_eq] at he
    exact ⟨x, List.mem_range.mp hx, he.1, he.2⟩
  · rintro ⟨x, hx, h1, h2⟩
    refine ⟨x, List.mem_range.mpr hx, ?_⟩
    simp only [enB, Bool.and_eq_true, Bool.or_eq_true, decide_eq_true_eq]
    exact ⟨h1, h2⟩
theorem coF_busy {p : aPat} {r : aRow} {m : Nat} (hx : pNx p ≤ 8) : (0 ≤ coF (enB p r m) (pNx p)) ↔ busyB p r m = true := by
  have up : ∀ n, n ≤ pNx p → (∃ x, x < n ∧ enB p r m x = true) → 0 ≤ coF (enB p r m) n := by
    intro n
    induction n with
    | zero => rintro _ ⟨x, h, _⟩; omega
    | succ n ih =>
      rintro hn ⟨x, h, he⟩
      rw [coF]
      by_cases q : enB p r m n = true
      · rw [if_pos q]; exact nI_pos' (by omega)
      · rw [if_neg q]
        refine ih (by omega) ⟨x, ?_, he⟩
        rcases Nat.lt_succ_iff_lt_or_eq.mp h with h | h
        · exact h
        · exact absurd (h ▸ he) q
  constructor
  · intro h
    cases q : busyB p r m with
    | true => rfl
    | false =>
      exfalso
      rw [coF_none (fun x hx => by
        cases e : enB p r m x with
        | false => rfl
        | true =>
          exfalso
          have : busyB p r m = true := List.any_eq_true.mpr ⟨x, List.mem_range.mpr hx, e⟩
          rw [q] at this
          cases this)] at h
      exact absurd h (by decide)
  · intro h
    obtain ⟨x, hx, he⟩ := List.any_eq_true.mp h
    exact up (pNx p) (Nat.le_refl _) ⟨x, List.mem_range.mp hx, he⟩
def behB (p : aPat) (r : aRow) (x : Nat) : Bool := match pBe p x with
  | none => true
  | some q => decide (rHow r q = 2)
def fitL (p : aPat) (r : aRow) (ln x : Nat) : Bool := (!busyB p r (pA p x) && !busyB p r (pB p x)) && decide (on8 (bs (wayB r 1) (pNx p)) < ln)
def canB (p : aPat) (r : aRow) (ln x : Nat) : Bool := (decide (rHow r x = 0) && behB p r x) && fitL p r ln x
def bI (b : Bool) : Int32 := if b = true then 1 else 0
theorem pair_zero {p : aPat} {r : aRow} {x : Nat} {bu : Int32} (h : bitsOf bu 6 (fun m => ∃ x, x < pNx p ∧ rHow r x = 1 ∧ (pA p x = m ∨ pB p x = m))) (ha : pA p x < 6) (hb : pB p x < 6) : (bu &&& nI (pairN p x)) = 0 ↔ (busyB p r (pA p x) = false ∧ busyB p r (pB p x) = false) := by
  obtain ⟨q, rfl, h2, h3⟩ := h
  have hp := pair_lt ha hb
  rw [nI_and, nI_zero_iff (Nat.lt_of_le_of_lt Nat.and_le_left (by omega))]
  have hA : busyB p r (pA p x) = q.testBit (pA p x) := by
    rw [Bool.eq_iff_iff, busy_iff, h3 _ ha]; rfl
  have hB : busyB p r (pB p x) = q.testBit (pB p x) := by
    rw [Bool.eq_iff_iff, busy_iff, h3 _ hb]; rfl
  rw [hA, hB]
  constructor
  · intro h
    constructor
    · have := congrArg (fun z => Nat.testBit z (pA p x)) h
      simp only [Nat.testBit_and, pair_bit, Nat.zero_testBit] at this
      simpa using this
    · have := congrArg (fun z => Nat.testBit z (pB p x)) h
      simp only [Nat.testBit_and, pair_bit, Nat.zero_testBit] at this
      simpa using this
  · rintro ⟨g1, g2⟩
    apply Nat.eq_of_testBit_eq
    intro i
    rw [Nat.testBit_and, pair_bit, Nat.zero_testBit]
    by_cases e1 : pA p x = i
    · rw [← e1, g1]; rfl
    · by_cases e2 : pB p x = i
      · rw [← e2, g2]; rfl
      · simp [e1, e2]
def ringR (p : aPat) (r : aRow) (x : Nat) : aRow := (rT r, fun y => if y = x then 1 else rHow r y, fun y => if y = x then rT r + pMi p x else rTill r y, rPin r, rPaid r)
def openR (r : aRow) (x : Nat) : aRow := (rT r, fun y => if y = x then 0 else rHow r y, rTill r, rPin r, rPaid r)
def disjR (p : aPat) (r : aRow) : Prop := ∀ x y, x < pNx p → y < pNx p → rHow r x = 1 → rHow r y = 1 → x ≠ y → pA p x ≠ pA p y ∧ pA p x ≠ pB p y ∧ pB p x ≠ pA p y ∧ pB p x ≠ pB p y
theorem ru_or_dn {p : aPat} {r : aRow} {mi ru dn bu : Int32} {en pi pa : Nat → Int32} (hh : ∀ x, x < pNx p → rHow r x ≤ 2) (h : cRow p r mi ru dn bu en pi pa) : bitsOf (ru ||| dn) (pNx p) (fun x => rHow r x ≠ 0) := by
  obtain ⟨q, e, h2, h3⟩ := h.2.2.1
  rw [e]
  refine bits_or h.2.1 h2 (fun y hy => ?_)
  rw [h3 y hy]
  have := hh y hy
  constructor
  · intro g; omega
  · intro g; omega
theorem v_can0 {d x ln : Nat} {p : aPat} {r : aRow} {M : lc_M} {mi : Int32} {en pi pa : Nat → Int32} (hp : cPat p (M 9) (M 10) (M 11) (M 12) (M 13) (M 14)) (hv : vPat p) (hh : ∀ x, x < pNx p → rHow r x ≤ 2) (hr : cRow p r mi (M 16 2) (M 16 3) (M 16 4) en pi pa) (hx : x < pNx p) (hl : ln ≤ 3) : lc_val (d + 1) 7 0 [.ref 16, .int (nI x), .int (nI ln), .null] [] lc_SH M = some (some (.int (bI (canB p r ln x))), lc_SH, M) := by
  have h8 := hv.2.2.2.1
  have hm := hv.2.2.1
  have hab := hv.2.2.2.2.2.2.1 x hx
  have hbe := hv.2.2.2.2.2.2.2 x
  have hc := hp.2.2.2.2.2 x hx
  have hru := ru_bs hr
  have tail : ∀ x3 : Int32, (lc_back 59 (fun st' Sh' M' => lc_val (d + 1) 7 54 [.ref 16, .int (nI x), .int (nI ln), .int x3] st' Sh' M') [.int (M 16 4)] (lc_val d 35 0 [.ref 9, .int (nI x)] [] lc_SH M)) = some (some (.int (bI (fitL p r ln x))), lc_SH, M) := fun x3 => by
    have hz := pair_zero (x := x) hr.2.2.2.1 (by omega) (by omega)
    have hlt := on8_le _ (bs_256 (f := wayB r 1) h8)
    rw [v_pair hp hv hx]
    show lc_val (d + 1) 7 54 [.ref 16, .int (nI x), .int (nI ln), .int x3] [.int (nI (pairN p x)), .int (M 16 4)] lc_SH M = _
    rw [sg_7_0_54]
    unfold fitL bI
    by_cases q : (M 16 4 &&& nI (pairN p x)) = 0
    · rw [if_neg (fun z => z q), hru, v_bits (bs_256 h8), lc_bk1, sg_7_0_65]
      obtain ⟨q1, q2⟩ := hz.mp q
      rw [q1, q2]
      by_cases t : on8 (bs (wayB r 1) (pNx p)) < ln
      · rw [if_neg (nI_ge t (by omega)), if_pos (by simp [t])]
      · rw [if_pos (nI_le (by omega) (by omega)), if_neg (by simp [t])]
    · rw [if_pos q]
      by_cases q1 : busyB p r (pA p x) = true
      · rw [q1]; rfl
      · by_cases q2 : busyB p r (pB p x) = true
        · rw [q2, if_neg (by simp)]
        · exact absurd (hz.mpr ⟨by simpa using q1, by simpa using q2⟩) q
  rw [sg_7_0_0, if_pos (nI_in (by omega) (by decide)), nI_clamp (by omega), hc.2.2.2]
  unfold canB
  by_cases h0 : rHow r x = 0
  · rw [v_hasB0 (ru_or_dn hh hr) h8 hx (fun z => z h0), lc_bk1, sg_7_0_23, if_neg (fun z => z rfl), lc_it_val, sg_7_0_26]
    unfold behB
    cases hb : pBe p x with
    | none =>
      rw [if_pos (show beI none = -1 from rfl), tail]
      simp [h0]
    | some q =>
      have hq := hbe q hx hb
      rw [if_neg (fun z => nI_pos (n := q) (by omega) (by rw [show nI q = -1 from z]; decide)), lc_it_val, show beI (some q) = nI q from rfl]
      by_cases h2 : rHow r q = 2
      · rw [v_hasB1 hr.2.2.1 h8 (by omega) h2, lc_bk1, sg_7_0_39, if_neg (by decide), tail]
        simp [h0, h2]
      · rw [v_hasB0 hr.2.2.1 h8 (by omega) h2, lc_bk1, sg_7_0_39, if_pos rfl]
        simp [h0, h2, bI]
  · rw [v_hasB1 (ru_or_dn hh hr) h8 hx h0, lc_bk1, sg_7_0_23, if_pos (by decide)]
    simp [h0, bI]
theorem v_begin0 {d x : Nat} {p : aPat} {r : aRow} {M : lc_M} {pi pa : Nat → Int32} (hp : cPat p (M 9) (M 10) (M 11) (M 12) (M 13) (M 14)) (hv : vPat p) (hr : cRow p r (M 16 1) (M 16 2) (M 16 3) (M 16 4) (M 17) pi pa) (hx : x < pNx p) (h0 : rHow r x = 0) : ∃ M', lc_val (d + 1) 8 0 [.ref 16, .int (nI x)] [] lc_SH M = some (none, lc_SH, M') ∧ (∀ c, c ≠ 16 → c ≠ 17 → M' c = M c) ∧ M' 16 1 = M 16 1 ∧ cRow p (ringR p r x) (M' 16 1) (M' 16 2) (M' 16 3) (M' 16 4) (M' 17) pi pa := by
  have h8 := hv.2.2.2.1
  have hm := hv.2.2.1
  have hab := hv.2.2.2.2.2.2.1 x hx
  have hc := hp.2.2.2.2.2 x hx
  obtain ⟨r1, r2, r3, r4, r5, r6, r7⟩ := hr
  refine ⟨lc_up (lc_up (lc_up M 16 2 (M 16 2 ||| nI (2 ^ x))) 16 4 (M 16 4 ||| nI (pairN p x))) 17 x (nI (rT r + pMi p x)), ?_, fun c h1 h2 => by rw [up_ne h2, up_ne h1, up_ne h1], ?_, ?_⟩
  · rw [sg_8_0_0, shl_1 x (by omega), v_pair (M := lc_up M 16 2 (M 16 2 ||| nI (2 ^ x))) (p := p) (by rw [up_ne (by decide), up_ne (by decide), up_ne (by decide), up_ne (by decide), up_ne (by decide), up_ne (by decide)]; exact hp) hv hx]
    show lc_val (d + 1) 8 25 [.ref 16, .int (nI x)] [.int (nI (pairN p x)), .int (M 16 4), .ref 16] lc_SH (lc_up M 16 2 (M 16 2 ||| nI (2 ^ x))) = _
    rw [sg_8_0_25, if_pos (nI_in (by omega) (by decide)), if_pos (nI_in (by omega) (by decide)), nI_clamp (by omega), up_ne (c := 13) (by decide), hc.2.2.1, show lc_up M 16 2 (M 16 2 ||| nI (2 ^ x)) 16 1 = M 16 1 from rfl, r1, nI_add]
  · rfl
  · have e2 : lc_up (lc_up (lc_up M 16 2 (M 16 2 ||| nI (2 ^ x))) 16 4 (M 16 4 ||| nI (pairN p x))) 17 x (nI (rT r + pMi p x)) 16 2 = M 16 2 ||| nI (2 ^ x) := rfl
    have e3 : lc_up (lc_up (lc_up M 16 2 (M 16 2 ||| nI (2 ^ x))) 16 4 (M 16 4 ||| nI (pairN p x))) 17 x (nI (rT r + pMi p x)) 16 3 = M 16 3 := rfl
    have e4 : lc_up (lc_up (lc_up M 16 2 (M 16 2 ||| nI (2 ^ x))) 16 4 (M 16 4 ||| nI (pairN p x))) 17 x (nI (rT r + pMi p x)) 16 4 = M 16 4 ||| nI (pairN p x) := rfl
    rw [e2, e3, e4]
    refine ⟨r1, bits_or r2 (pow_lt hx) (fun y hy => ?_), bits_ext r3 (fun y hy => ?_), bits_or r4 (pair_lt (by omega) (by omega)) (fun m hm => ?_), fun y hy hh => ?_, r6, r7⟩
    · show (if y = x then 1 else rHow r y) = 1 ↔ _
      rw [bit_one]
      by_cases e : y = x
      · rw [if_pos e]; simp [e]
      · rw [if_neg e]; simp [e]
    · show (if y = x then 1 else rHow r y) = 2 ↔ _
      by_cases e : y = x
      · rw [if_pos e, e, h0]; simp
      · rw [if_neg e]
    · show (∃ y, y < pNx p ∧ (if y = x then 1 else rHow r y) = 1 ∧ (pA p y = m ∨ pB p y = m)) ↔ _
      rw [pair_bit]
      constructor
      · rintro ⟨y, g1, g2, g3⟩
        by_cases e : y = x
        · subst e; right; simpa using g3
        · rw [if_neg e] at g2; exact Or.inl ⟨y, g1, g2, g3⟩
      · rintro (⟨y, g1, g2, g3⟩ | g)
        · refine ⟨y, g1, ?_, g3⟩
          by_cases e : y = x
          · rw [if_pos e]
          · rw [if_neg e]; exact g2
        · exact ⟨x, hx, by rw [if_pos rfl], by simpa using g⟩
    · show lc_up (lc_up (lc_up M 16 2 (M 16 2 ||| nI (2 ^ x))) 16 4 (M 16 4 ||| nI (pairN p x))) 17 x (nI (rT r + pMi p x)) 17 y = nI (if y = x then rT r + pMi p x else rTill r y)
      rw [up_at, if_pos rfl]
      have hh' : (if y = x then 1 else rHow r y) ≠ 0 := hh
      by_cases e : y = x
      · rw [if_pos e, if_pos e]
      · rw [if_neg e, if_neg e, up_ne (by decide), up_ne (by decide)]
        rw [if_neg e] at hh'
        exact r5 y hy hh'
theorem v_leave0 {d x : Nat} {p : aPat} {r : aRow} {M : lc_M} {mi : Int32} {en pi pa : Nat → Int32} (hp : cPat p (M 9) (M 10) (M 11) (M 12) (M 13) (M 14)) (hv : vPat p) (hd : disjR p r) (hr : cRow p r mi (M 16 2) (M 16 3) (M 16 4) en pi pa) (hx : x < pNx p) (h1 : rHow r x = 1) : ∃ M', lc_val (d + 1) 9 0 [.ref 16, .int (nI x)] [] lc_SH M = some (none, lc_SH, M') ∧ (∀ c, c ≠ 16 → M' c = M c) ∧ M' 16 1 = M 16 1 ∧ cRow p (openR r x) mi (M' 16 2) (M' 16 3) (M' 16 4) en pi pa := by
  have h8 := hv.2.2.2.1
  have hm := hv.2.2.1
  have hab := hv.2.2.2.2.2.2.1 x hx
  obtain ⟨r1, r2, r3, r4, r5, r6, r7⟩ := hr
  refine ⟨lc_up (lc_up M 16 2 (M 16 2 &&& (nI (2 ^ x) ^^^ (-1)))) 16 4 (M 16 4 &&& (nI (pairN p x) ^^^ (-1))), ?_, fun c h1 => by rw [up_ne h1, up_ne h1], rfl, ?_⟩
  · rw [sg_9_0_0, shl_1 x (by omega), v_pair (M := lc_up M 16 2 (M 16 2 &&& (nI (2 ^ x) ^^^ (-1)))) (p := p) (by rw [up_ne (by decide), up_ne (by decide), up_ne (by decide), up_ne (by decide), up_ne (by decide), up_ne (by decide)]; exact hp) hv hx]
    show lc_val (d + 1) 9 27 [.ref 16, .int (nI x)] [.int (nI (pairN p x)), .int (M 16 4), .ref 16] lc_SH (lc_up M 16 2 (M 16 2 &&& (nI (2 ^ x) ^^^ (-1)))) = _
    rw [sg_9_0_27]
  · have e2 : lc_up (lc_up M 16 2 (M 16 2 &&& (nI (2 ^ x) ^^^ (-1)))) 16 4 (M 16 4 &&& (nI (pairN p x) ^^^ (-1))) 16 2 = M 16 2 &&& (nI (2 ^ x) ^^^ (-1)) := rfl
    have e3 : lc_up (lc_up M 16 2 (M 16 2 &&& (nI (2 ^ x) ^^^ (-1)))) 16 4 (M 16 4 &&& (nI (pairN p x) ^^^ (-1))) 16 3 = M 16 3 := rfl
    have e4 : lc_up (lc_up M 16 2 (M 16 2 &&& (nI (2 ^ x) ^^^ (-1)))) 16 4 (M 16 4 &&& (nI (pairN p x) ^^^ (-1))) 16 4 = M 16 4 &&& (nI (pairN p x) ^^^ (-1)) := rfl
    rw [e2, e3, e4]
    refine ⟨r1, bits_and r2 h8 (fun y hy => ?_), bits_ext r3 (fun y hy => ?_), bits_and r4 (by decide) (fun m hm => ?_), fun y hy hh => ?_, r6, r7⟩
    · show (if y = x then 0 else rHow r y) = 1 ↔ _
      rw [bit_one]
      by_cases e : y = x
      · rw [if_pos e]; simp [e]
      · rw [if_neg e]; simp [e]
    · show (if y = x then 0 else rHow r y) = 2 ↔ _
      by_cases e : y = x
      · rw [if_pos e, e, h1]; simp
      · rw [if_neg e]
    · show (∃ y, y < pNx p ∧ (if y = x then 0 else rHow r y) = 1 ∧ (pA p y = m ∨ pB p y = m)) ↔ _
      rw [pair_bit]
      constructor
      · rintro ⟨y, g1, g2, g3⟩
        by_cases e : y = x
        · rw [if_pos e] at g2; cases g2
        · rw [if_neg e] at g2
          have hdd := hd x y hx g1 h1 g2 (fun z => e z.symm)
          refine ⟨⟨y, g1, g2, g3⟩, fun z => ?_⟩
          simp only [Bool.or_eq_true, decide_eq_true_eq] at z
          omega
      · rintro ⟨⟨y, g1, g2, g3⟩, g⟩
        refine ⟨y, g1, ?_, g3⟩
        by_cases e : y = x
        · subst e
          exact absurd (by simpa using g3) g
        · rw [if_neg e]; exact g2
    · have hh' : (if y = x then 0 else rHow r y) ≠ 0 := hh
      by_cases e : y = x
      · rw [if_pos e] at hh'; exact absurd rfl hh'
      · rw [if_neg e] at hh'
        exact r5 y hy hh'
theorem v_can1 {d x ln : Nat} {p : aPat} {r : aRow} {M : lc_M} {mi : Int32} {en pi pa : Nat → Int32} (hp : cPat p (M 9) (M 10) (M 11) (M 12) (M 13) (M 14)) (hv : vPat p) (hh : ∀ x, x < pNx p → rHow r x ≤ 2) (hr : cRow p r mi (M 26 2) (M 26 3) (M 26 4) en pi pa) (hx : x < pNx p) (hl : ln ≤ 3) : lc_val (d + 1) 7 0 [.ref 26, .int (nI x), .int (nI ln), .null] [] lc_SH M = some (some (.int (bI (canB p r ln x))), lc_SH, M) := by
  have h8 := hv.2.2.2.1
  have hm := hv.2.2.1
  have hab := hv.2.2.2.2.2.2.1 x hx
  have hbe := hv.2.2.2.2.2.2.2 x
  have hc := hp.2.2.2.2.2 x hx
  have hru := ru_bs hr
  have tail : ∀ x3 : Int32, (lc_back 59 (fun st' Sh' M' => lc_val (d + 1) 7 54 [.ref 26, .int (nI x), .int (nI ln), .int x3] st' Sh' M') [.int (M 26 4)] (lc_val d 35 0 [.ref 9, .int (nI x)] [] lc_SH M)) = some (some (.int (bI (fitL p r ln x))), lc_SH, M) := fun x3 => by
    have hz := pair_zero (x := x) hr.2.2.2.1 (by omega) (by omega)
    have hlt := on8_le _ (bs_256 (f := wayB r 1) h8)
    rw [v_pair hp hv hx]
    show lc_val (d + 1) 7 54 [.ref 26, .int (nI x), .int (nI ln), .int x3] [.int (nI (pairN p x)), .int (M 26 4)] lc_SH M = _
    rw [sg_7_1_54]
    unfold fitL bI
    by_cases q : (M 26 4 &&& nI (pairN p x)) = 0
    · rw [if_neg (fun z => z q), hru, v_bits (bs_256 h8), lc_bk1, sg_7_1_65]
      obtain ⟨q1, q2⟩ := hz.mp q
      rw [q1, q2]
      by_cases t : on8 (bs (wayB r 1) (pNx p)) < ln
      · rw [if_neg (nI_ge t (by omega)), if_pos (by simp [t])]
      · rw [if_pos (nI_le (by omega) (by omega)), if_neg (by simp [t])]
    · rw [if_pos q]
      by_cases q1 : busyB p r (pA p x) = true
      · rw [q1]; rfl
      · by_cases q2 : busyB p r (pB p x) = true
        · rw [q2, if_neg (by simp)]
        · exact absurd (hz.mpr ⟨by simpa using q1, by simpa using q2⟩) q
  rw [sg_7_1_0, if_pos (nI_in (by omega) (by decide)), nI_clamp (by omega), hc.2.2.2]
  unfold canB
  by_cases h0 : rHow r x = 0
  · rw [v_hasB0 (ru_or_dn hh hr) h8 hx (fun z => z h0), lc_bk1, sg_7_1_23, if_neg (fun z => z rfl), lc_it_val, sg_7_1_26]
    unfold behB
    cases hb : pBe p x with
    | none =>
      rw [if_pos (show beI none = -1 from rfl), tail]
      simp [h0]
    | some q =>
      have hq := hbe q hx hb
      rw [if_neg (fun z => nI_pos (n := q) (by omega) (by rw [show nI q = -1 from z]; decide)), lc_it_val, show beI (some q) = nI q from rfl]
      by_cases h2 : rHow r q = 2
      · rw [v_hasB1 hr.2.2.1 h8 (by omega) h2, lc_bk1, sg_7_1_39, if_neg (by decide), tail]
        simp [h0, h2]
      · rw [v_hasB0 hr.2.2.1 h8 (by omega) h2, lc_bk1, sg_7_1_39, if_pos rfl]
        simp [h0, h2, bI]
  · rw [v_hasB1 (ru_or_dn hh hr) h8 hx h0, lc_bk1, sg_7_1_23, if_pos (by decide)]
    simp [h0, bI]
theorem v_begin1 {d x : Nat} {p : aPat} {r : aRow} {M : lc_M} {pi pa : Nat → Int32} (hp : cPat p (M 9) (M 10) (M 11) (M 12) (M 13) (M 14)) (hv : vPat p) (hr : cRow p r (M 26 1) (M 26 2) (M 26 3) (M 26 4) (M 27) pi pa) (hx : x < pNx p) (h0 : rHow r x = 0) : ∃ M', lc_val (d + 1) 8 0 [.ref 26, .int (nI x)] [] lc_SH M = some (none, lc_SH, M') ∧ (∀ c, c ≠ 26 → c ≠ 27 → M' c = M c) ∧ M' 26 1 = M 26 1 ∧ cRow p (ringR p r x) (M' 26 1) (M' 26 2) (M' 26 3) (M' 26 4) (M' 27) pi pa := by
  have h8 := hv.2.2.2.1
  have hm := hv.2.2.1
  have hab := hv.2.2.2.2.2.2.1 x hx
  have hc := hp.2.2.2.2.2 x hx
  obtain ⟨r1, r2, r3, r4, r5, r6, r7⟩ := hr
  refine ⟨lc_up (lc_up (lc_up M 26 2 (M 26 2 ||| nI (2 ^ x))) 26 4 (M 26 4 ||| nI (pairN p x))) 27 x (nI (rT r + pMi p x)), ?_, fun c h1 h2 => by rw [up_ne h2, up_ne h1, up_ne h1], ?_, ?_⟩
  · rw [sg_8_1_0, shl_1 x (by omega), v_pair (M := lc_up M 26 2 (M 26 2 ||| nI (2 ^ x))) (p := p) (by rw [up_ne (by decide), up_ne (by decide), up_ne (by decide), up_ne (by decide), up_ne (by decide), up_ne (by decide)]; exact hp) hv hx]
    show lc_val (d + 1) 8 25 [.ref 26, .int (nI x)] [.int (nI (pairN p x)), .int (M 26 4), .ref 26] lc_SH (lc_up M 26 2 (M 26 2 ||| nI (2 ^ x))) = _
    rw [sg_8_1_25, if_pos (nI_in (by omega) (by decide)), if_pos (nI_in (by omega) (by decide)), nI_clamp (by omega), up_ne (c := 13) (by decide), hc.2.2.1, show lc_up M 26 2 (M 26 2 ||| nI (2 ^ x)) 26 1 = M 26 1 from rfl, r1, nI_add]
  · rfl
  · have e2 : lc_up (lc_up (lc_up M 26 2 (M 26 2 ||| nI (2 ^ x))) 26 4 (M 26 4 ||| nI (pairN p x))) 27 x (nI (rT r + pMi p x)) 26 2 = M 26 2 ||| nI (2 ^ x) := rfl
    have e3 : lc_up (lc_up (lc_up M 26 2 (M 26 2 ||| nI (2 ^ x))) 26 4 (M 26 4 ||| nI (pairN p x))) 27 x (nI (rT r + pMi p x)) 26 3 = M 26 3 := rfl
    have e4 : lc_up (lc_up (lc_up M 26 2 (M 26 2 ||| nI (2 ^ x))) 26 4 (M 26 4 ||| nI (pairN p x))) 27 x (nI (rT r + pMi p x)) 26 4 = M 26 4 ||| nI (pairN p x) := rfl
    rw [e2, e3, e4]
    refine ⟨r1, bits_or r2 (pow_lt hx) (fun y hy => ?_), bits_ext r3 (fun y hy => ?_), bits_or r4 (pair_lt (by omega) (by omega)) (fun m hm => ?_), fun y hy hh => ?_, r6, r7⟩
    · show (if y = x then 1 else rHow r y) = 1 ↔ _
      rw [bit_one]
      by_cases e : y = x
      · rw [if_pos e]; simp [e]
      · rw [if_neg e]; simp [e]
    · show (if y = x then 1 else rHow r y) = 2 ↔ _
      by_cases e : y = x
      · rw [if_pos e, e, h0]; simp
      · rw [if_neg e]
    · show (∃ y, y < pNx p ∧ (if y = x then 1 else rHow r y) = 1 ∧ (pA p y = m ∨ pB p y = m)) ↔ _
      rw [pair_bit]
      constructor
      · rintro ⟨y, g1, g2, g3⟩
        by_cases e : y = x
        · subst e; right; simpa using g3
        · rw [if_neg e] at g2; exact Or.inl ⟨y, g1, g2, g3⟩
      · rintro (⟨y, g1, g2, g3⟩ | g)
        · refine ⟨y, g1, ?_, g3⟩
          by_cases e : y = x
          · rw [if_pos e]
          · rw [if_neg e]; exact g2
        · exact ⟨x, hx, by rw [if_pos rfl], by simpa using g⟩
    · show lc_up (lc_up (lc_up M 26 2 (M 26 2 ||| nI (2 ^ x))) 26 4 (M 26 4 ||| nI (pairN p x))) 27 x (nI (rT r + pMi p x)) 27 y = nI (if y = x then rT r + pMi p x else rTill r y)
      rw [up_at, if_pos rfl]
      have hh' : (if y = x then 1 else rHow r y) ≠ 0 := hh
      by_cases e : y = x
      · rw [if_pos e, if_pos e]
      · rw [if_neg e, if_neg e, up_ne (by decide), up_ne (by decide)]
        rw [if_neg e] at hh'
        exact r5 y hy hh'
theorem v_leave1 {d x : Nat} {p : aPat} {r : aRow} {M : lc_M} {mi : Int32} {en pi pa : Nat → Int32} (hp : cPat p (M 9) (M 10) (M 11) (M 12) (M 13) (M 14)) (hv : vPat p) (hd : disjR p r) (hr : cRow p r mi (M 26 2) (M 26 3) (M 26 4) en pi pa) (hx : x < pNx p) (h1 : rHow r x = 1) : ∃ M', lc_val (d + 1) 9 0 [.ref 26, .int (nI x)] [] lc_SH M = some (none, lc_SH, M') ∧ (∀ c, c ≠ 26 → M' c = M c) ∧ M' 26 1 = M 26 1 ∧ cRow p (openR r x) mi (M' 26 2) (M' 26 3) (M' 26 4) en pi pa := by
  have h8 := hv.2.2.2.1
  have hm := hv.2.2.1
  have hab := hv.2.2.2.2.2.2.1 x hx
  obtain ⟨r1, r2, r3, r4, r5, r6, r7⟩ := hr
  refine ⟨lc_up (lc_up M 26 2 (M 26 2 &&& (nI (2 ^ x) ^^^ (-1)))) 26 4 (M 26 4 &&& (nI (pairN p x) ^^^ (-1))), ?_, fun c h1 => by rw [up_ne h1, up_ne h1], rfl, ?_⟩
  · rw [sg_9_1_0, shl_1 x (by omega), v_pair (M := lc_up M 26 2 (M 26 2 &&& (nI (2 ^ x) ^^^ (-1)))) (p := p) (by rw [up_ne (by decide), up_ne (by decide), up_ne (by decide), up_ne (by decide), up_ne (by decide), up_ne (by decide)]; exact hp) hv hx]
    show lc_val (d + 1) 9 27 [.ref 26, .int (nI x)] [.int (nI (pairN p x)), .int (M 26 4), .ref 26] lc_SH (lc_up M 26 2 (M 26 2 &&& (nI (2 ^ x) ^^^ (-1)))) = _
    rw [sg_9_1_27]
  · have e2 : lc_up (lc_up M 26 2 (M 26 2 &&& (nI (2 ^ x) ^^^ (-1)))) 26 4 (M 26 4 &&& (nI (pairN p x) ^^^ (-1))) 26 2 = M 26 2 &&& (nI (2 ^ x) ^^^ (-1)) := rfl
    have e3 : lc_up (lc_up M 26 2 (M 26 2 &&& (nI (2 ^ x) ^^^ (-1)))) 26 4 (M 26 4 &&& (nI (pairN p x) ^^^ (-1))) 26 3 = M 26 3 := rfl
    have e4 : lc_up (lc_up M 26 2 (M 26 2 &&& (nI (2 ^ x) ^^^ (-1)))) 26 4 (M 26 4 &&& (nI (pairN p x) ^^^ (-1))) 26 4 = M 26 4 &&& (nI (pairN p x) ^^^ (-1)) := rfl
    rw [e2, e3, e4]
    refine ⟨r1, bits_and r2 h8 (fun y hy => ?_), bits_ext r3 (fun y hy => ?_), bits_and r4 (by decide) (fun m hm => ?_), fun y hy hh => ?_, r6, r7⟩
    · show (if y = x then 0 else rHow r y) = 1 ↔ _
      rw [bit_one]
      by_cases e : y = x
      · rw [if_pos e]; simp [e]
      · rw [if_neg e]; simp [e]
    · show (if y = x then 0 else rHow r y) = 2 ↔ _
      by_cases e : y = x
      · rw [if_pos e, e, h1]; simp
      · rw [if_neg e]
    · show (∃ y, y < pNx p ∧ (if y = x then 0 else rHow r y) = 1 ∧ (pA p y = m ∨ pB p y = m)) ↔ _
      rw [pair_bit]
      constructor
      · rintro ⟨y, g1, g2, g3⟩
        by_cases e : y = x
        · rw [if_pos e] at g2; cases g2
        · rw [if_neg e] at g2
          have hdd := hd x y hx g1 h1 g2 (fun z => e z.symm)
          refine ⟨⟨y, g1, g2, g3⟩, fun z => ?_⟩
          simp only [Bool.or_eq_true, decide_eq_true_eq] at z
          omega
      · rintro ⟨⟨y, g1, g2, g3⟩, g⟩
        refine ⟨y, g1, ?_, g3⟩
        by_cases e : y = x
        · subst e
          exact absurd (by simpa using g3) g
        · rw [if_neg e]; exact g2
    · have hh' : (if y = x then 0 else rHow r y) ≠ 0 := hh
      by_cases e : y = x
      · rw [if_pos e] at hh'; exact absurd rfl hh'
      · rw [if_neg e] at hh'
        exact r5 y hy hh'
/-! the reference's side -/
theorem v_canM {d at0 x ln : Nat} {p : aPat} {r : aRow} {M : lc_M} (hp : cPat p (fun k => M 43 (k + 2)) (M 46) (M 47) (M 48) (M 49) (M 50)) (hv : vPat p) (ha : at0 ≤ 900) (hh : ∀ x, x < pNx p → rHow r x ≤ 2) (hr : mRowAt p r (M 44) at0) (hx : x < pNx p) (hl : ln ≤ 3) : lc_val (d + 2) 142 0 [.ref 43, .int (nI at0), .int (nI x), .int (nI ln), .null] [] lc_SH M = some (some (.int (bI (canB p r ln x))), lc_SH, M) := by
  have h8 := hv.2.2.2.1
  have hm := hv.2.2.1
  have hab := hv.2.2.2.2.2.2.1 x hx
  have hbe := hv.2.2.2.2.2.2.2 x
  have hc := hp.2.2.2.2.2 x hx
  have h5 : M 43 5 = nI (pNx p) := hp.2.2.2.1
  have h12 : nI at0 + 12 = nI (at0 + 12) := nI_add at0 12
  have hcall : ∀ m, m < 6 → lc_val (d + 1) 137 0 [.ref 43, .int (nI at0), .int (nI m), .null, .null] [] lc_SH M = some (some (.int (coF (enB p r m) (pNx p))), lc_SH, M) := fun m hm => by
    rw [sg_137_0_0]
    exact v_callM hp hv ha hh hr hm (pNx p) 0 (by omega)
  have hway : lc_val (d + 1) 134 0 [.ref 43, .int (nI at0), .int 1, .null, .null] [] lc_SH M = some (some (.int (nI (bs (wayB r 1) (pNx p)))), lc_SH, M) := by
    rw [sg_134_0_0]
    exact v_inWay (w := 1) (how := rHow r) h5 h8 ha (fun x hx => ⟨hr.2.2.1 x hx, hh x hx⟩) (by decide) (pNx p) 0 (by omega)
  have tail : ∀ s0 : Bool, lc_val (d + 2) 142 34 [.ref 43, .int (nI at0), .int (nI x), .int (nI ln), .null] [.int (bI s0)] lc_SH M = some (some (.int (bI ((decide (rHow r x = 0) && s0) && fitL p r ln x))), lc_SH, M) := fun s0 => by
    have hlt := on8_le _ (bs_256 (f := wayB r 1) h8)
    have hhx := hh x hx
    rw [sg_142_0_34, h12, nI_add, if_pos (nI_in (by omega) (by decide)), nI_clamp (by omega), hr.2.2.1 x hx]
    by_cases h0 : rHow r x = 0
    · rw [h0, if_neg (fun z => z rfl), lc_it_val, sg_142_0_50]
      cases s0 with
      | false => rw [if_pos (by decide)]; rfl
      | true =>
        rw [if_neg (by decide), if_pos (nI_in (by omega) (by decide)), nI_clamp (by omega), hc.1, hcall _ (by omega), lc_bk1, sg_142_0_66]
        unfold fitL
        by_cases q1 : busyB p r (pA p x) = true
        · rw [if_pos ((coF_busy h8).mpr q1), q1]; rfl
        · rw [if_neg (fun z => q1 ((coF_busy h8).mp z)), if_pos (nI_in (by omega) (by decide)), nI_clamp (by omega), hc.2.1, hcall _ (by omega), lc_bk1, sg_142_0_80]
          by_cases q2 : busyB p r (pB p x) = true
          · rw [if_pos ((coF_busy h8).mpr q2), q2]
            simp [bI]
          · rw [if_neg (fun z => q2 ((coF_busy h8).mp z)), hway, lc_bk1, sg_142_0_89, v_ones (bs_256 h8), lc_bk1, sg_142_0_92]
            by_cases t : on8 (bs (wayB r 1) (pNx p)) < ln
            · rw [if_neg (nI_ge t (by omega))]; simp [bI, q1, q2, t]
            · rw [if_pos (nI_le (by omega) (by omega))]; simp [bI, q1, q2, t]
    · rw [if_pos (show ¬ nI (rHow r x) = 0 from fun z => h0 ((nI_eq (b := 0) (by omega) (by decide)).mp z))]
      simp [bI, h0]
  unfold canB behB
  rw [sg_142_0_0, if_pos (nI_in (by omega) (by decide)), nI_clamp (by omega), hc.2.2.2]
  cases hb : pBe p x with
  | none =>
    rw [if_pos (show beI none < 0 by decide)]
    exact tail true
  | some q =>
    have hq := hbe q hx hb
    have hhq := hh q (by omega)
    rw [if_neg (show ¬ beI (some q) < 0 from nI_pos (by omega)), lc_it_val, sg_142_0_9, if_pos (nI_in (by omega) (by decide)), nI_clamp (by omega), hc.2.2.2, hb, show beI (some q) = nI q from rfl, h12, nI_add, if_pos (nI_in (by omega) (by decide)), nI_clamp (by omega), hr.2.2.1 q (by omega)]
    by_cases h2 : rHow r q = 2
    · rw [if_neg (fun z => z (by rw [h2]; rfl))]
      refine Eq.trans (tail true) ?_
      simp [h2]
    · rw [if_pos (show ¬ nI (rHow r q) = 2 from fun z => h2 ((nI_eq (b := 2) (by omega) (by decide)).mp z)), lc_it_val]
      refine Eq.trans (tail false) ?_
      simp [h2]
theorem v_ringM {d at0 x : Nat} {p : aPat} {r : aRow} {M : lc_M} (hp : cPat p (fun k => M 43 (k + 2)) (M 46) (M 47) (M 48) (M 49) (M 50)) (hv : vPat p) (ha : at0 ≤ 900) (hr : mRowAt p r (M 44) at0) (hx : x < pNx p) : ∃ M', lc_val d 143 0 [.ref 43, .int (nI at0), .int (nI x)] [] lc_SH M = some (none, lc_SH, M') ∧ (∀ c, c ≠ 44 → M' c = M c) ∧ (∀ j, (j < at0 ∨ at0 + 28 ≤ j) → M' 44 j = M 44 j) ∧ mRowAt p (ringR p r x) (M' 44) at0 := by
  have h8 := hv.2.2.2.1
  have hc := hp.2.2.2.2.2 x hx
  have h12 : nI at0 + 12 = nI (at0 + 12) := nI_add at0 12
  have h20 : nI at0 + 20 = nI (at0 + 20) := nI_add at0 20
  have h28 : nI at0 + 28 = nI (at0 + 28) := nI_add at0 28
  obtain ⟨r1, r2, r3, r4, r5⟩ := hr
  refine ⟨lc_up (lc_up M 44 (at0 + 12 + x) 1) 44 (at0 + 20 + x) (nI (rT r + pMi p x)), ?_, fun c hc => by rw [up_ne hc, up_ne hc], fun j hj => by rw [up_at, if_pos rfl, if_neg (by omega), up_at, if_pos rfl, if_neg (by omega)], ?_⟩
  · rw [sg_143_0_0, h12, nI_add, if_pos (nI_in (by omega) (by decide)), nI_clamp (by omega), sg_143_0_12, h28, if_pos (nI_in (by omega) (by decide)), if_pos (nI_in (by omega) (by decide)), h20, nI_add, if_pos (nI_in (by omega) (by decide)), nI_clamp (by omega), nI_clamp (by omega), nI_clamp (by omega), up_at, if_pos rfl, if_neg (by omega), r5, up_ne (c := 49) (by decide), hc.2.2.1, nI_add]
  · have g : ∀ j, lc_up (lc_up M 44 (at0 + 12 + x) 1) 44 (at0 + 20 + x) (nI (rT r + pMi p x)) 44 j = if j = at0 + 20 + x then nI (rT r + pMi p x) else if j = at0 + 12 + x then 1 else M 44 j := fun j => by rw [up_at, if_pos rfl, up_at, if_pos rfl]
    refine ⟨fun m hm => by rw [g, if_neg (by omega), if_neg (by omega)]; exact r1 m hm, fun m hm => by rw [g, if_neg (by omega), if_neg (by omega)]; exact r2 m hm, fun y hy => ?_, fun y hy => ?_, by rw [g, if_neg (by omega), if_neg (by omega)]; exact r5⟩
    · show _ = nI (if y = x then 1 else rHow r y)
      rw [g, if_neg (by omega)]
      by_cases e : y = x
      · rw [if_pos e, if_pos (by omega)]; rfl
      · rw [if_neg e, if_neg (by omega)]; exact r3 y hy
    · show _ = if (if y = x then 1 else rHow r y) = 0 then -1 else nI (if y = x then rT r + pMi p x else rTill r y)
      rw [g]
      by_cases e : y = x
      · rw [if_pos (by omega), if_pos e, if_neg (by decide), if_pos e]
      · rw [if_neg (by omega), if_neg (by omega), if_neg e, if_neg e]; exact r4 y hy
/-! bills -/
def billP (p : aPat) (paid : Nat → Nat) (x k : Nat) : Nat → Nat := fun m => if m = pA p x ∨ m = pB p x then paid m + k * pCo p else paid m
theorem v_bill {d x k : Nat} {p : aPat} {M : lc_M} {paid : Nat → Nat} (hp : cPat p (M 9) (M 10) (M 11) (M 12) (M 13) (M 14)) (hv : vPat p) (hx : x < pNx p) (hq : ∀ m, m < 6 → M 19 m = nI (paid m)) : ∃ M', lc_val d 21 0 [.ref 15, .int (nI x), .int (nI k)] [] lc_SH M = some (none, lc_SH, M') ∧ (∀ c, c ≠ 19 → M' c = M c) ∧ ∀ m, m < 6 → M' 19 m = nI (billP p paid x k m) := by
  have h8 := hv.2.2.2.1
  have hm := hv.2.2.1
  have hab := hv.2.2.2.2.2.2.1 x hx
  have hc := hp.2.2.2.2.2 x hx
  have h1 : M 9 1 = nI (pCo p) := hp.2.1
  refine ⟨lc_up (lc_up M 19 (pA p x) (nI (paid (pA p x) + k * pCo p))) 19 (pB p x) (nI (paid (pB p x) + k * pCo p)), ?_, fun c hc => by rw [up_ne hc, up_ne hc], fun m hm => ?_⟩
  · rw [sg_21_0_0, if_pos (nI_in (by omega) (by decide)), nI_clamp (by omega), hc.1, if_pos (nI_in (by omega) (by decide)), if_pos (nI_in (by omega) (by decide)), nI_clamp (by omega), hq _ (by omega), h1, pk_mul, nI_add, sg_21_0_26, if_pos (nI_in (by omega) (by decide)), nI_clamp (by omega), up_ne (c := 12) (by decide), hc.2.1, if_pos (nI_in (by omega) (by decide)), if_pos (nI_in (by omega) (by decide)), nI_clamp (by omega), up_at, if_pos rfl, if_neg (fun z => hab.2.2.1 z.symm), hq _ (by omega), up_ne (c := 9) (by decide), h1, pk_mul, nI_add]
  · rw [up_at, if_pos rfl, up_at, if_pos rfl]
    unfold billP
    by_cases e1 : m = pB p x
    · rw [if_pos e1, if_pos (Or.inr e1), e1]
    · by_cases e2 : m = pA p x
      · rw [if_neg e1, if_pos e2, if_pos (Or.inl e2), e2]
      · rw [if_neg e1, if_neg e2, if_neg (by omega)]
        exact hq m hm
theorem v_payM {d at0 x k : Nat} {p : aPat} {M : lc_M} {paid : Nat → Nat} (hn : M 43 3 = nI (pCo p)) (hab0 : M 47 x = nI (pA p x) ∧ M 48 x = nI (pB p x)) (hv : vPat p) (ha : at0 ≤ 900) (hx : x < pNx p) (hq : ∀ m, m < 6 → M 44 (at0 + 6 + m) = nI (paid m)) : ∃ M', lc_val d 144 0 [.ref 43, .int (nI at0), .int (nI x), .int (nI k)] [] lc_SH M = some (none, lc_SH, M') ∧ (∀ c, c ≠ 44 → M' c = M c) ∧ (∀ j, (j < at0 + 6 ∨ at0 + 12 ≤ j) → M' 44 j = M 44 j) ∧ ∀ m, m < 6 → M' 44 (at0 + 6 + m) = nI (billP p paid x k m) := by
  have h8 := hv.2.2.2.1
  have hm := hv.2.2.1
  have hab := hv.2.2.2.2.2.2.1 x hx
  have h6 : nI at0 + 6 = nI (at0 + 6) := nI_add at0 6
  refine ⟨lc_up (lc_up M 44 (at0 + 6 + pA p x) (nI (paid (pA p x) + pCo p * k))) 44 (at0 + 6 + pB p x) (nI (paid (pB p x) + pCo p * k)), ?_, fun c hc => by rw [up_ne hc, up_ne hc], fun j hj => by rw [up_at, if_pos rfl, if_neg (by omega), up_at, if_pos rfl, if_neg (by omega)], fun m hm => ?_⟩
  · rw [sg_144_0_0, if_pos (nI_in (by omega) (by decide)), nI_clamp (by omega), hab0.1, h6, nI_add, if_pos (nI_in (by omega) (by decide)), if_pos (nI_in (by omega) (by decide)), nI_clamp (by omega), hq _ (by omega), hn, pk_mul, nI_add, sg_144_0_25, if_pos (nI_in (by omega) (by decide)), nI_clamp (by omega), up_ne (c := 48) (by decide), hab0.2, h6, nI_add, if_pos (nI_in (by omega) (by decide)), if_pos (nI_in (by omega) (by decide)), nI_clamp (by omega), up_at, if_pos rfl, if_neg (by omega), hq _ (by omega), up_ne (c := 43) (by decide), hn, pk_mul, nI_add]
  · rw [up_at, if_pos rfl, up_at, if_pos rfl]
    unfold billP
    rw [Nat.mul_comm k]
    by_cases e1 : m = pB p x
    · rw [if_pos (by omega), if_pos (Or.inr e1), e1]
    · by_cases e2 : m = pA p x
      · rw [if_neg (by omega), if_pos (by omega), if_pos (Or.inl e2), e2]
      · rw [if_neg (by omega), if_neg (by omega), if_neg (by omega)]
        exact hq m hm
