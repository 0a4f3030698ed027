/-! what begins, what ends next: one course for both sides -/
def opN (f : Nat → Bool) : Nat → Nat
  | 0 => 0
  | k + 1 => opN f k + (if f k = true then 1 else 0)
theorem opN_mono {f g : Nat → Bool} : ∀ {n : Nat}, (∀ x, x < n → f x = true → g x = true) → opN f n ≤ opN g n
  | 0, _ => Nat.le_refl _
  | n + 1, h => by
    have ih := opN_mono (n := n) (fun x hx => h x (by omega))
    rw [opN, opN]
    by_cases q : f n = true
    · rw [if_pos q, if_pos (h n (by omega) q)]; omega
    · rw [if_neg q]; omega
theorem opN_lt {f g : Nat → Bool} {y : Nat} (hf : ¬ f y = true) (hg : g y = true) : ∀ {n : Nat}, y < n → (∀ x, x < n → f x = true → g x = true) → opN f n < opN g n
  | 0, h, _ => by omega
  | n + 1, hy, h => by
    rw [opN, opN]
    by_cases e : y = n
    · subst e
      have ih := opN_mono (n := y) (fun x hx => h x (by omega))
      rw [if_neg hf, if_pos hg]; omega
    · have ih := opN_lt hf hg (n := n) (by omega) (fun x hx => h x (by omega))
      by_cases q : f n = true
      · rw [if_pos q, if_pos (h n (by omega) q)]; omega
      · rw [if_neg q]; omega
theorem opN_zero {f : Nat → Bool} : ∀ {n : Nat}, (∀ x, x < n → ¬ f x = true) → opN f n = 0
  | 0, _ => rfl
  | n + 1, h => by rw [opN, opN_zero (n := n) (fun x hx => h x (by omega)), if_neg (h n (by omega))]
theorem opN_zero' {f : Nat → Bool} : ∀ {n : Nat}, opN f n = 0 → ∀ x, x < n → ¬ f x = true
  | 0, _, x, hx => by omega
  | n + 1, h, x, hx => by
    rw [opN] at h
    by_cases e : x = n
    · subst e
      intro q
      rw [if_pos q] at h
      omega
    · exact opN_zero' (n := n) (by omega) x (by omega)
theorem opN_congr {f g : Nat → Bool} {n : Nat} (h : ∀ x, x < n → f x = g x) : opN f n = opN g n :=
  Nat.le_antisymm (opN_mono (fun x hx q => by rw [← h x hx]; exact q)) (opN_mono (fun x hx q => by rw [h x hx]; exact q))
theorem opN_le {f : Nat → Bool} : ∀ n, opN f n ≤ n
  | 0 => Nat.le_refl _
  | n + 1 => by
    have := opN_le (f := f) n
    rw [opN]
    split <;> omega
theorem opN_cut {f : Nat → Bool} {n : Nat} : ∀ k, opN (fun x => decide (x < n) && f x) (n + k) = opN f n
  | 0 => opN_congr (fun x hx => by simp; omega)
  | k + 1 => by
    rw [show n + (k + 1) = (n + k) + 1 from rfl, opN, opN_cut k, if_neg (by simp; intro; omega)]
    omega
theorem on8_bs {f : Nat → Bool} {n : Nat} (h : n ≤ 8) : on8 (bs f n) = opN f n := by
  have key : ∀ k, onK (bs f n) k = opN (fun x => decide (x < n) && f x) k := by
    intro k
    induction k with
    | zero => rfl
    | succ k ih => rw [onK, opN, ih, bs_bit]
  unfold on8
  rw [key 8]
  have := opN_cut (f := f) (n := n) (8 - n)
  rwa [show n + (8 - n) = 8 by omega] at this
def brd (r : aRow) : aRow := (rT r, rHow r, rTill r, fun _ => 0, fun _ => 0)
def setT (r : aRow) (t : Nat) : aRow := (t, rHow r, rTill r, rPin r, rPaid r)
def jumpR (r : aRow) (e : Nat) : aRow := doneR (setT r e)
def begK (p : aPat) (ln : Nat) (a : Nat → Nat) : Nat → Nat → aRow → aRow
  | 0, _, r => r
  | k + 1, i, r => begK p ln a k (i + 1) (if canB p r ln (a i) = true then ringR p r (a i) else r)
theorem ring_how {p : aPat} {r : aRow} {x y : Nat} : rHow (ringR p r x) y = if y = x then 1 else rHow r y := rfl
theorem begK_T {p : aPat} {ln : Nat} {a : Nat → Nat} : ∀ (k i : Nat) (r : aRow), rT (begK p ln a k i r) = rT r
  | 0, _, _ => rfl
  | k + 1, i, r => by
    rw [begK, begK_T k (i + 1)]
    split
    · rfl
    · rfl
theorem begK_v {tb pb n : Nat} {p : aPat} {ln : Nat} {a : Nat → Nat} (hv : vPat p) (ha : ∀ j, j < n → a j < pNx p) : ∀ (k i : Nat) (r : aRow), i + k = n → vRowG tb pb p r → vRowG tb pb p (begK p ln a k i r)
  | 0, _, _, _, h => h
  | k + 1, i, r, hk, h => by
    rw [begK]
    refine begK_v hv ha k (i + 1) _ (by omega) ?_
    by_cases q : canB p r ln (a i) = true
    · rw [if_pos q]; exact vRowG_ring hv h (ha i (by omega)) q
    · rw [if_neg q]; exact h
theorem begK_how {p : aPat} {ln : Nat} {a : Nat → Nat} {x : Nat} : ∀ (k i : Nat) (r : aRow), (rHow r x ≠ 0 → rHow (begK p ln a k i r) x = rHow r x) ∧ (rHow r x = 0 → rHow (begK p ln a k i r) x = 0 ∨ rHow (begK p ln a k i r) x = 1)
  | 0, _, _ => ⟨fun _ => rfl, fun h => Or.inl h⟩
  | k + 1, i, r => by
    rw [begK]
    obtain ⟨h1, h2⟩ := begK_how (x := x) k (i + 1) (if canB p r ln (a i) = true then ringR p r (a i) else r)
    by_cases q : canB p r ln (a i) = true
    · rw [if_pos q] at h1 h2 ⊢
      have h0 := (can_parts q).1
      by_cases e : x = a i
      · have hx : rHow (ringR p r (a i)) x = 1 := by rw [ring_how, if_pos e]
        refine ⟨fun z => ?_, fun _ => Or.inr ?_⟩
        · rw [e] at z; exact absurd h0 z
        · rw [h1 (by omega), hx]
      · have hx : rHow (ringR p r (a i)) x = rHow r x := by rw [ring_how, if_neg e]
        rw [hx] at h1 h2
        exact ⟨h1, h2⟩
    · rw [if_neg q] at h1 h2 ⊢
      exact ⟨h1, h2⟩
theorem can_keep {p : aPat} {r : aRow} {ln x y : Nat} (h8 : pNx p ≤ 8) (h0 : rHow r x = 0) (h : canB p r ln y = false) : canB p (ringR p r x) ln y = false := by
  cases q : canB p (ringR p r x) ln y with
  | false => rfl
  | true =>
    exfalso
    have : canB p r ln y = true := by
      unfold canB fitL at q ⊢
      simp only [Bool.and_eq_true, decide_eq_true_eq, Bool.not_eq_true'] at q ⊢
      obtain ⟨⟨q1, q2⟩, ⟨q3, q4⟩, q5⟩ := q
      have busyU : ∀ m, busyB p (ringR p r x) m = false → busyB p r m = false := fun m hm => by
        cases z : busyB p r m with
        | false => rfl
        | true =>
          obtain ⟨t, t1, t2, t3⟩ := busy_iff.mp z
          have : busyB p (ringR p r x) m = true := busy_iff.mpr ⟨t, t1, by rw [ring_how]; split; rfl; exact t2, t3⟩
          rw [hm] at this; cases this
      rw [ring_how] at q1
      have ey : ¬ y = x := fun z => by rw [if_pos z] at q1; cases q1
      rw [if_neg ey] at q1
      refine ⟨⟨q1, ?_⟩, ⟨busyU _ q3, busyU _ q4⟩, ?_⟩
      · unfold behB at q2 ⊢
        cases hb : pBe p y with
        | none => rfl
        | some t =>
          rw [hb] at q2
          simp only [decide_eq_true_eq] at q2 ⊢
          rw [ring_how] at q2
          by_cases e : t = x
          · rw [if_pos e] at q2; cases q2
          · rw [if_neg e] at q2; exact q2
      · rw [on8_bs h8] at q5 ⊢
        have : opN (wayB r 1) (pNx p) ≤ opN (wayB (ringR p r x) 1) (pNx p) := opN_mono (fun t _ ht => by
          unfold wayB at ht ⊢
          simp only [decide_eq_true_eq] at ht ⊢
          rw [ring_how]
          split
          · rfl
          · exact ht)
        omega
    rw [h] at this; cases this
theorem begK_keep {p : aPat} {ln y : Nat} {a : Nat → Nat} (h8 : pNx p ≤ 8) : ∀ (k i : Nat) (r : aRow), canB p r ln y = false → canB p (begK p ln a k i r) ln y = false
  | 0, _, _, h => h
  | k + 1, i, r, h => by
    rw [begK]
    refine begK_keep h8 k (i + 1) _ ?_
    by_cases q : canB p r ln (a i) = true
    · rw [if_pos q]; exact can_keep h8 (can_parts q).1 h
    · rw [if_neg q]; exact h
theorem begK_stable {p : aPat} {ln : Nat} {a : Nat → Nat} (h8 : pNx p ≤ 8) : ∀ (k i : Nat) (r : aRow) (j : Nat), i ≤ j → j < i + k → canB p (begK p ln a k i r) ln (a j) = false
  | 0, _, _, j, h1, h2 => by omega
  | k + 1, i, r, j, h1, h2 => by
    rw [begK]
    by_cases e : j = i
    · subst e
      refine begK_keep h8 k (j + 1) _ ?_
      by_cases q : canB p r ln (a j) = true
      · rw [if_pos q]
        unfold canB
        rw [ring_how, if_pos rfl]
        rfl
      · rw [if_neg q]; simpa using q
    · exact begK_stable h8 k (i + 1) _ j (by omega) (by omega)
theorem begK_id {p : aPat} {ln : Nat} {a : Nat → Nat} : ∀ (k i : Nat) (r : aRow), (∀ j, i ≤ j → j < i + k → canB p r ln (a j) = false) → begK p ln a k i r = r
  | 0, _, _, _ => rfl
  | k + 1, i, r, h => by
    rw [begK, if_neg (by rw [h i (by omega) (by omega)]; decide)]
    exact begK_id k (i + 1) r (fun j h1 h2 => h j (by omega) (by omega))
theorem begK_brd {p : aPat} {ln : Nat} {a : Nat → Nat} : ∀ (k i : Nat) (r : aRow), brd (begK p ln a k i r) = begK p ln a k i (brd r)
  | 0, _, _ => rfl
  | k + 1, i, r => by
    rw [begK, begK, begK_brd k (i + 1)]
    congr 1
    show brd (if canB p r ln (a i) = true then ringR p r (a i) else r) = if canB p r ln (a i) = true then ringR p (brd r) (a i) else brd r
    split
    · rfl
    · rfl
theorem vRowG_brd {tb pb : Nat} {p : aPat} {r : aRow} (h : vRowG tb pb p r) : vRowG tb pb p (brd r) := ⟨h.1, h.2.1, h.2.2.1, h.2.2.2.1, fun _ _ => Nat.zero_lt_succ 5, fun _ _ => Nat.zero_le _, h.2.2.2.2.2.2⟩
/-! which ends next -/
def neF (r : aRow) : Nat → Option Nat
  | 0 => none
  | x + 1 => if rHow r x = 1 then (match neF r x with
    | none => some (rTill r x)
    | some e => if e ≤ rTill r x then some e else some (rTill r x)) else neF r x
theorem neF_none {r : aRow} : ∀ {k : Nat}, neF r k = none → ∀ x, x < k → rHow r x ≠ 1
  | 0, _, x, hx => by omega
  | k + 1, h, x, hx => by
    rw [neF] at h
    by_cases q : rHow r k = 1
    · rw [if_pos q] at h
      cases e : neF r k with
      | none => rw [e] at h; cases h
      | some t =>
        rw [e] at h
        simp only at h
        split at h <;> cases h
    · rw [if_neg q] at h
      by_cases e : x = k
      · rw [e]; exact q
      · exact neF_none h x (by omega)
theorem neF_some {r : aRow} : ∀ {k e : Nat}, neF r k = some e → (∃ x, x < k ∧ rHow r x = 1 ∧ rTill r x = e) ∧ ∀ x, x < k → rHow r x = 1 → e ≤ rTill r x
  | 0, e, h => by cases h
  | k + 1, e, h => by
    rw [neF] at h
    by_cases q : rHow r k = 1
    · rw [if_pos q] at h
      cases hk : neF r k with
      | none =>
        rw [hk] at h
        injection h with h
        have hn := neF_none hk
        refine ⟨⟨k, by omega, q, h⟩, fun x hx h1 => ?_⟩
        by_cases z : x = k
        · rw [z, h]; exact Nat.le_refl _
        · exact absurd h1 (hn x (by omega))
      | some t =>
        rw [hk] at h
        obtain ⟨⟨y, y1, y2, y3⟩, g⟩ := neF_some hk
        simp only at h
        by_cases z : t ≤ rTill r k
        · rw [if_pos z] at h
          injection h with h
          subst h
          refine ⟨⟨y, by omega, y2, y3⟩, fun x hx h1 => ?_⟩
          by_cases w : x = k
          · rw [w]; exact z
          · exact g x (by omega) h1
        · rw [if_neg z] at h
          injection h with h
          refine ⟨⟨k, by omega, q, h⟩, fun x hx h1 => ?_⟩
          by_cases w : x = k
          · rw [w, h]; exact Nat.le_refl _
          · have := g x (by omega) h1; omega
    · rw [if_neg q] at h
      obtain ⟨⟨y, y1, y2, y3⟩, g⟩ := neF_some h
      refine ⟨⟨y, by omega, y2, y3⟩, fun x hx h1 => ?_⟩
      by_cases w : x = k
      · rw [w] at h1; exact absurd h1 q
      · exact g x (by omega) h1
theorem neF_brd {r : aRow} : ∀ k, neF (brd r) k = neF r k
  | 0 => rfl
  | k + 1 => by
    rw [neF, neF, neF_brd k]
    rfl
def nd (p : aPat) (r : aRow) : Nat := opN (fun x => !decide (rHow r x = 2)) (pNx p)
theorem nd_zero {p : aPat} {r : aRow} : nd p r = 0 ↔ ∀ x, x < pNx p → rHow r x = 2 := by
  constructor
  · intro h x hx
    have := opN_zero' h x hx
    simpa using this
  · intro h
    exact opN_zero (fun x hx => by simp [h x hx])
theorem nd_beg {p : aPat} {ln k i : Nat} {a : Nat → Nat} {r : aRow} : nd p (begK p ln a k i r) = nd p r := by
  refine opN_congr (fun x _ => ?_)
  obtain ⟨h1, h2⟩ := begK_how (p := p) (ln := ln) (a := a) (x := x) k i r
  by_cases z : rHow r x = 0
  · rcases h2 z with g | g
    · rw [g, z]
    · rw [g, z]; rfl
  · rw [h1 z]
theorem nd_jump {p : aPat} {r : aRow} {e : Nat} (h : neF r (pNx p) = some e) : nd p (jumpR r e) < nd p r := by
  obtain ⟨⟨y, y1, y2, y3⟩, _⟩ := neF_some h
  have hy : finB (setT r e) y = true := fin_iff.mpr ⟨y2, by show rTill r y ≤ e; omega⟩
  refine opN_lt (y := y) ?_ ?_ y1 (fun x _ hx => ?_)
  · show ¬ (!decide ((if finB (setT r e) y = true then 2 else rHow r y) = 2)) = true
    rw [if_pos hy]; decide
  · simp [y2]
  · have hx' : (!decide ((if finB (setT r e) x = true then 2 else rHow r x) = 2)) = true := hx
    by_cases q : finB (setT r e) x = true
    · rw [if_pos q] at hx'; simp at hx'
    · rw [if_neg q] at hx'; exact hx'
def cov (p : aPat) (n : Nat) (a : Nat → Nat) (r : aRow) : Prop := ∀ x, x < pNx p → rHow r x = 0 → ∃ j, j < n ∧ a j = x
theorem cov_beg {p : aPat} {n ln k i : Nat} {a : Nat → Nat} {r : aRow} (h : cov p n a r) : cov p n a (begK p ln a k i r) := fun x hx h0 => by
  refine h x hx ?_
  obtain ⟨h1, _⟩ := begK_how (p := p) (ln := ln) (a := a) (x := x) k i r
  by_cases z : rHow r x = 0
  · exact z
  · rw [h1 z] at h0; exact h0
theorem cov_jump {p : aPat} {n e : Nat} {a : Nat → Nat} {r : aRow} (h : cov p n a r) : cov p n a (jumpR r e) := fun x hx h0 => by
  refine h x hx ?_
  have h0' : (if finB (setT r e) x = true then 2 else rHow r x) = 0 := h0
  by_cases q : finB (setT r e) x = true
  · rw [if_pos q] at h0'; cases h0'
  · rw [if_neg q] at h0'; exact h0'
/-- as long as something is left, something runs -/
theorem not_stuck {tb pb n ln : Nat} {p : aPat} {a : Nat → Nat} {r : aRow} (hv : vPat p) (hr : vRowG tb pb p r) (hl : 1 ≤ ln) (hc : cov p n a r) (h : neF (begK p ln a n 0 r) (pNx p) = none) : nd p r = 0 := by
  have h8 := hv.2.2.2.1
  have hno := neF_none h
  rw [nd_zero]
  intro x
  induction x using Nat.strongRecOn with
  | ind x ih =>
    intro hx
    obtain ⟨b1, b2⟩ := begK_how (p := p) (ln := ln) (a := a) (x := x) n 0 r
    have h2 := hr.2.1 x hx
    by_cases z : rHow r x = 0
    · exfalso
      obtain ⟨j, j1, j2⟩ := hc x hx z
      have hst := begK_stable (p := p) (ln := ln) (a := a) h8 n 0 r j (by omega) (by omega)
      rw [j2] at hst
      have h0 : rHow (begK p ln a n 0 r) x = 0 := by
        rcases b2 z with g | g
        · exact g
        · exact absurd g (hno x hx)
      have nb : ∀ m, busyB p (begK p ln a n 0 r) m = false := fun m => by
        cases w : busyB p (begK p ln a n 0 r) m with
        | false => rfl
        | true =>
          obtain ⟨t, t1, t2, _⟩ := busy_iff.mp w
          exact absurd t2 (hno t t1)
      have : canB p (begK p ln a n 0 r) ln x = true := by
        unfold canB fitL
        rw [nb, nb, on8_bs h8, opN_zero (fun t ht => by unfold wayB; simp [hno t ht])]
        unfold behB
        cases hb : pBe p x with
        | none => simp [h0]; omega
        | some q =>
          have hq := hv.2.2.2.2.2.2.2 x q hx hb
          have g := ih q hq (by omega)
          have g' := (begK_how (p := p) (ln := ln) (a := a) (x := q) n 0 r).1 (by omega)
          rw [g] at g'
          simp [h0, g']
          omega
      rw [hst] at this
      cases this
    · have := b1 z
      have h1 := hno x hx
      omega
theorem vRowG_jump {tb pb e : Nat} {p : aPat} {r : aRow} (hv : vPat p) (h : vRowG tb pb p r) (he : neF r (pNx p) = some e) : vRowG (tb + 20) pb p (jumpR r e) ∧ rT r < e ∧ e ≤ rT r + 20 := by
  obtain ⟨h1, h2, h3, h4, h5, h6, h7⟩ := h
  obtain ⟨⟨y, y1, y2, y3⟩, g⟩ := neF_some he
  have hy := h3 y y1 y2
  have hmi := hv.2.2.2.2.2.2.1 y y1
  have key : ∀ y, (if finB (setT r e) y = true then 2 else rHow r y) = 1 → ¬ finB (setT r e) y = true ∧ rHow r y = 1 := fun y hy => by
    by_cases q : finB (setT r e) y = true
    · rw [if_pos q] at hy; cases hy
    · rw [if_neg q] at hy; exact ⟨q, hy⟩
  refine ⟨⟨by show e ≤ tb + 20; omega, fun y hy => ?_, fun y hy hh => ?_, fun y hy hh => ?_, h5, h6, fun y z hy hz g1 g2 hne => h7 y z hy hz (key y g1).2 (key z g2).2 hne⟩, by omega, by omega⟩
  · show (if finB (setT r e) y = true then 2 else rHow r y) ≤ 2
    have := h2 y hy
    split <;> omega
  · obtain ⟨g1, g2⟩ := key y hh
    have g3 := h3 y hy g2
    show e < rTill r y ∧ rTill r y ≤ e + pMi p y
    have : ¬ rTill r y ≤ e := fun z => g1 (fin_iff.mpr ⟨g2, z⟩)
    omega
  · show rTill r y ≤ e
    have hh' : (if finB (setT r e) y = true then 2 else rHow r y) = 2 := hh
    by_cases q : finB (setT r e) y = true
    · exact (fin_iff.mp q).2
    · rw [if_neg q] at hh'
      have := h4 y hy hh'
      omega
/-- how long till all is done -/
def totE (p : aPat) (ln n : Nat) (a : Nat → Nat) : Nat → aRow → Nat
  | 0, _ => 0
  | k + 1, r => match neF (begK p ln a n 0 r) (pNx p) with
    | none => 0
    | some e => (e - rT r) + totE p ln n a k (jumpR (begK p ln a n 0 r) e)
theorem totE_le {tb pb n ln : Nat} {p : aPat} {a : Nat → Nat} (hv : vPat p) (ha : ∀ j, j < n → a j < pNx p) : ∀ (k tb : Nat) (r : aRow), vRowG tb pb p r → totE p ln n a k r ≤ 20 * k
  | 0, _, _, _ => Nat.le_refl _
  | k + 1, tb, r, h => by
    rw [totE]
    have hb := begK_v (ln := ln) hv ha n 0 r (by omega) h
    cases e : neF (begK p ln a n 0 r) (pNx p) with
    | none => exact Nat.zero_le _
    | some t =>
      obtain ⟨j1, j2, j3⟩ := vRowG_jump hv hb e
      have ih := totE_le (tb := tb) (pb := pb) (ln := ln) hv ha k (tb + 20) _ j1
      rw [begK_T] at j2 j3
      simp only
      omega
