/-! minute by minute, and by what ends next: the same course -/
def eqR (p : aPat) (r r' : aRow) : Prop := rT r = rT r' ∧ ∀ x, x < pNx p → rHow r x = rHow r' x ∧ rTill r x = rTill r' x
theorem eqR_refl {p : aPat} {r : aRow} : eqR p r r := ⟨rfl, fun _ _ => ⟨rfl, rfl⟩⟩
theorem eqR_trans {p : aPat} {r s t : aRow} (h : eqR p r s) (g : eqR p s t) : eqR p r t := ⟨h.1.trans g.1, fun x hx => ⟨(h.2 x hx).1.trans (g.2 x hx).1, (h.2 x hx).2.trans (g.2 x hx).2⟩⟩
theorem eqR_symm {p : aPat} {r s : aRow} (h : eqR p r s) : eqR p s r := ⟨h.1.symm, fun x hx => ⟨(h.2 x hx).1.symm, (h.2 x hx).2.symm⟩⟩
theorem busy_le {p : aPat} {r r' : aRow} {m : Nat} (h : eqR p r r') (q : busyB p r m = true) : busyB p r' m = true := by
  obtain ⟨x, h1, h2, h3⟩ := busy_iff.mp q
  exact busy_iff.mpr ⟨x, h1, by rw [← (h.2 x h1).1]; exact h2, h3⟩
theorem busy_eq {p : aPat} {r r' : aRow} {m : Nat} (h : eqR p r r') : busyB p r m = busyB p r' m := by
  rw [Bool.eq_iff_iff]
  exact ⟨busy_le h, busy_le (eqR_symm h)⟩
theorem can_eq {p : aPat} {r r' : aRow} {ln x : Nat} (hv : vPat p) (h : eqR p r r') (hx : x < pNx p) : canB p r ln x = canB p r' ln x := by
  have hb : behB p r x = behB p r' x := by
    unfold behB
    cases e : pBe p x with
    | none => rfl
    | some q =>
      have := hv.2.2.2.2.2.2.2 x q hx e
      show decide (rHow r q = 2) = decide (rHow r' q = 2)
      rw [(h.2 q (by omega)).1]
  have hw : bs (wayB r 1) (pNx p) = bs (wayB r' 1) (pNx p) := bs_congr (fun y hy => by unfold wayB; rw [(h.2 y hy).1])
  unfold canB fitL
  rw [hb, hw, busy_eq h, busy_eq h, (h.2 x hx).1]
theorem eqR_ring {p : aPat} {r r' : aRow} {x : Nat} (h : eqR p r r') : eqR p (ringR p r x) (ringR p r' x) := by
  refine ⟨h.1, fun y hy => ⟨?_, ?_⟩⟩
  · show (if y = x then 1 else rHow r y) = (if y = x then 1 else rHow r' y)
    rw [(h.2 y hy).1]
  · show (if y = x then rT r + pMi p x else rTill r y) = (if y = x then rT r' + pMi p x else rTill r' y)
    rw [(h.2 y hy).2, h.1]
theorem eqR_beg {p : aPat} {ln n : Nat} {a : Nat → Nat} (hv : vPat p) (ha : ∀ j, j < n → a j < pNx p) : ∀ (k i : Nat) (r r' : aRow), i + k = n → eqR p r r' → eqR p (begK p ln a k i r) (begK p ln a k i r')
  | 0, _, _, _, _, h => h
  | k + 1, i, r, r', hk, h => by
    rw [begK, begK]
    refine eqR_beg hv ha k (i + 1) _ _ (by omega) ?_
    rw [can_eq hv h (ha i (by omega))]
    by_cases q : canB p r' ln (a i) = true
    · rw [if_pos q, if_pos q]; exact eqR_ring h
    · rw [if_neg q, if_neg q]; exact h
theorem neF_eq {p : aPat} {r r' : aRow} (h : eqR p r r') : ∀ k, k ≤ pNx p → neF r k = neF r' k
  | 0, _ => rfl
  | k + 1, hk => by
    rw [neF, neF, neF_eq h k (by omega), (h.2 k (by omega)).1, (h.2 k (by omega)).2]
theorem nd_eq {p : aPat} {r r' : aRow} (h : eqR p r r') : nd p r = nd p r' := opN_congr (fun x hx => by rw [(h.2 x hx).1])
theorem fin_eqT {p : aPat} {r r' : aRow} {e x : Nat} (h : eqR p r r') (hx : x < pNx p) : finB (setT r e) x = finB (setT r' e) x := by
  show (decide (rHow r x = 1) && decide (rTill r x ≤ e)) = (decide (rHow r' x = 1) && decide (rTill r' x ≤ e))
  rw [(h.2 x hx).1, (h.2 x hx).2]
theorem eqR_jump {p : aPat} {r r' : aRow} {e : Nat} (h : eqR p r r') : eqR p (jumpR r e) (jumpR r' e) := by
  refine ⟨rfl, fun x hx => ⟨?_, (h.2 x hx).2⟩⟩
  show (if finB (setT r e) x = true then 2 else rHow r x) = (if finB (setT r' e) x = true then 2 else rHow r' x)
  rw [fin_eqT h hx, (h.2 x hx).1]
theorem totE_eq {p : aPat} {ln n : Nat} {a : Nat → Nat} (hv : vPat p) (ha : ∀ j, j < n → a j < pNx p) : ∀ (k : Nat) (r r' : aRow), eqR p r r' → totE p ln n a k r = totE p ln n a k r'
  | 0, _, _, _ => rfl
  | k + 1, r, r', h => by
    have hb := eqR_beg (ln := ln) hv ha n 0 r r' (by omega) h
    rw [totE, totE, neF_eq hb (pNx p) (Nat.le_refl _)]
    cases e : neF (begK p ln a n 0 r') (pNx p) with
    | none => rfl
    | some t =>
      show (t - rT r) + totE p ln n a k (jumpR (begK p ln a n 0 r) t) = (t - rT r') + totE p ln n a k (jumpR (begK p ln a n 0 r') t)
      rw [h.1, totE_eq hv ha k _ _ (eqR_jump hb)]
theorem cov_eq {p : aPat} {n : Nat} {a : Nat → Nat} {r r' : aRow} (h : eqR p r r') (hc : cov p n a r) : cov p n a r' := fun x hx h0 => hc x hx (by rw [(h.2 x hx).1]; exact h0)
def mst (p : aPat) (ln n : Nat) (a : Nat → Nat) (r : aRow) : aRow := passR p (begK p ln a n 0 r)
def minT (p : aPat) (ln n : Nat) (a : Nat → Nat) : Nat → aRow → Nat
  | 0, _ => 0
  | f + 1, r => if nd p r = 0 then 0 else 1 + minT p ln n a f (mst p ln n a r)
def goM (p : aPat) (ln n : Nat) (a : Nat → Nat) : Nat → aRow → Nat → Nat
  | 0, _, K => K
  | m + 1, r, K => goM p ln n a m (mst p ln n a r) (knowL p (finB (tickR (begK p ln a n 0 r))) (pNx p) 0 K)
theorem knowL_congr {p : aPat} {f g : Nat → Bool} : ∀ (k i K : Nat), (∀ x, i ≤ x → x < i + k → f x = g x) → knowL p f k i K = knowL p g k i K
  | 0, _, _, _ => rfl
  | k + 1, i, K, h => by
    rw [knowL, knowL, h i (by omega) (by omega)]
    exact knowL_congr k (i + 1) _ (fun x h1 h2 => h x (by omega) (by omega))
theorem knowL_none {p : aPat} {f : Nat → Bool} : ∀ (k i K : Nat), (∀ x, i ≤ x → x < i + k → ¬ f x = true) → knowL p f k i K = K
  | 0, _, _, _ => rfl
  | k + 1, i, K, h => by
    rw [knowL, if_neg (h i (by omega) (by omega))]
    exact knowL_none k (i + 1) _ (fun x h1 h2 => h x (by omega) (by omega))
theorem knowL_lt {p : aPat} {f : Nat → Bool} (hv : vPat p) : ∀ (k i K : Nat), i + k = pNx p → K < 64 → knowL p f k i K < 64
  | 0, _, _, _, h => h
  | k + 1, i, K, hk, h => by
    have hab := hv.2.2.2.2.2.2.1 i (by omega)
    have hm := hv.2.2.1
    rw [knowL]
    refine knowL_lt hv k (i + 1) _ (by omega) ?_
    split
    · exact stepK_lt (by omega) (by omega) h
    · exact h
theorem minT_event {p : aPat} {ln n e : Nat} {a : Nat → Nat} (hv : vPat p) (ha : ∀ j, j < n → a j < pNx p) : ∀ (j tb pb : Nat) (R : aRow), vRowG tb pb p R → nd p R ≠ 0 → neF (begK p ln a n 0 R) (pNx p) = some e → e = rT R + j + 1 → ∃ R' : aRow, eqR p R' (jumpR (begK p ln a n 0 R) e) ∧ vRowG (tb + (j + 1)) (pb + 15840 * (j + 1)) p R' ∧ (∀ f, minT p ln n a (f + (j + 1)) R = (j + 1) + minT p ln n a f R') ∧ (∀ m K, goM p ln n a (m + (j + 1)) R K = goM p ln n a m R' (knowL p (finB (setT (begK p ln a n 0 R) e)) (pNx p) 0 K)) ∧ (∀ m K, m ≤ j → goM p ln n a m R K = K)
  | 0, tb, pb, R, hR, hnd, hne, he => by
    have hb := begK_v (ln := ln) hv ha n 0 R (by omega) hR
    have hT : e = rT (begK p ln a n 0 R) + 1 := by rw [begK_T]; exact he
    refine ⟨mst p ln n a R, ?_, vRowG_pass hv hb, fun f => ?_, fun m K => ?_, fun m K hm => ?_⟩
    · subst hT
      exact ⟨rfl, fun _ _ => ⟨rfl, rfl⟩⟩
    · rw [show f + (0 + 1) = f + 1 from rfl, minT, if_neg hnd]
    · rw [show m + (0 + 1) = m + 1 from rfl, goM]
      subst hT
      rfl
    · obtain rfl : m = 0 := by omega
      rfl
  | j + 1, tb, pb, R, hR, hnd, hne, he => by
    have h8 := hv.2.2.2.1
    have hb := begK_v (ln := ln) hv ha n 0 R (by omega) hR
    have hTB : rT (begK p ln a n 0 R) = rT R := begK_T n 0 R
    obtain ⟨_, hmin⟩ := neF_some hne
    have nofin : ∀ x, x < pNx p → ¬ finB (tickR (begK p ln a n 0 R)) x = true := fun x hx q => by
      obtain ⟨q1, q2⟩ := fin_iff.mp q
      have h1 := hmin x hx q1
      have q2' : rTill (begK p ln a n 0 R) x ≤ rT (begK p ln a n 0 R) + 1 := q2
      omega
    have e1 : eqR p (mst p ln n a R) (setT (begK p ln a n 0 R) (rT R + 1)) := by
      refine ⟨by show rT (begK p ln a n 0 R) + 1 = rT R + 1; rw [hTB], fun x hx => ⟨?_, rfl⟩⟩
      show (if finB (tickR (begK p ln a n 0 R)) x = true then 2 else rHow (begK p ln a n 0 R) x) = rHow (begK p ln a n 0 R) x
      rw [if_neg (nofin x hx)]
    have e2 : begK p ln a n 0 (setT (begK p ln a n 0 R) (rT R + 1)) = setT (begK p ln a n 0 R) (rT R + 1) := begK_id n 0 _ (fun i _ h2 => begK_stable (p := p) (ln := ln) (a := a) h8 n 0 R i (by omega) h2)
    have e3 := eqR_beg (ln := ln) hv ha n 0 _ _ (by omega) e1
    rw [e2] at e3
    have ne3 : neF (setT (begK p ln a n 0 R) (rT R + 1)) (pNx p) = some e := by
      have : ∀ k, neF (setT (begK p ln a n 0 R) (rT R + 1)) k = neF (begK p ln a n 0 R) k := fun k => by
        induction k with
        | zero => rfl
        | succ k ih => rw [neF, neF, ih]; rfl
      rw [this]; exact hne
    have nd1 : nd p (mst p ln n a R) ≠ 0 := by
      rw [nd_eq e1]
      show nd p (begK p ln a n 0 R) ≠ 0
      rw [nd_beg]; exact hnd
    have T1 : rT (mst p ln n a R) = rT R + 1 := e1.1
    obtain ⟨R', g1, g2, g3, g4, g5⟩ := minT_event (ln := ln) hv ha j (tb + 1) (pb + 15840) (mst p ln n a R) (vRowG_pass hv hb) nd1 (by rw [neF_eq e3 (pNx p) (Nat.le_refl _)]; exact ne3) (by omega)
    have kn : ∀ K, knowL p (finB (tickR (begK p ln a n 0 R))) (pNx p) 0 K = K := fun K => knowL_none _ _ _ (fun x _ h2 => nofin x (by omega))
    refine ⟨R', eqR_trans g1 (eqR_trans (eqR_jump e3) eqR_refl), ?_, fun f => ?_, fun m K => ?_, fun m K hm => ?_⟩
    · rw [show tb + (j + 1 + 1) = tb + 1 + (j + 1) by omega, show pb + 15840 * (j + 1 + 1) = pb + 15840 + 15840 * (j + 1) by rw [Nat.mul_succ]; omega]
      exact g2
    · rw [show f + (j + 1 + 1) = (f + (j + 1)) + 1 from rfl, minT, if_neg hnd, g3 f]
      omega
    · rw [show m + (j + 1 + 1) = (m + (j + 1)) + 1 from rfl, goM, kn, g4 m K]
      refine congrArg (goM p ln n a m R') (knowL_congr _ _ _ (fun x _ h2 => ?_))
      exact (fin_eqT (p := p) (e := e) e3 (show x < pNx p by omega)).trans rfl
    · cases m with
      | zero => rfl
      | succ m => rw [goM, kn]; exact g5 m K (by omega)
theorem neF_done {p : aPat} {ln n : Nat} {a : Nat → Nat} {R : aRow} (h : nd p R = 0) : neF (begK p ln a n 0 R) (pNx p) = none := by
  cases e : neF (begK p ln a n 0 R) (pNx p) with
  | none => rfl
  | some t =>
    exfalso
    obtain ⟨⟨x, h1, h2, _⟩, _⟩ := neF_some e
    have h3 := nd_zero.mp h x h1
    have := (begK_how (p := p) (ln := ln) (a := a) (x := x) n 0 R).1 (by omega)
    omega
theorem minT_tot {p : aPat} {ln n : Nat} {a : Nat → Nat} (hv : vPat p) (ha : ∀ j, j < n → a j < pNx p) (hl : 1 ≤ ln) : ∀ (k tb pb f : Nat) (R : aRow), vRowG tb pb p R → cov p n a R → nd p R ≤ k → totE p ln n a k R ≤ f → minT p ln n a f R = totE p ln n a k R
  | 0, tb, pb, f, R, hR, hc, hk, hf => by
    have h0 : nd p R = 0 := by omega
    rw [totE]
    cases f with
    | zero => rfl
    | succ f => rw [minT, if_pos h0]
  | k + 1, tb, pb, f, R, hR, hc, hk, hf => by
    by_cases h0 : nd p R = 0
    · rw [totE, neF_done h0]
      cases f with
      | zero => rfl
      | succ f => rw [minT, if_pos h0]
    · rw [totE] at hf ⊢
      cases e : neF (begK p ln a n 0 R) (pNx p) with
      | none => exact absurd (not_stuck hv hR hl hc e) h0
      | some t =>
        rw [e] at hf
        have hb := begK_v (ln := ln) hv ha n 0 R (by omega) hR
        obtain ⟨_, j2, _⟩ := vRowG_jump hv hb e
        rw [begK_T] at j2
        obtain ⟨R', g1, g2, g3, _, _⟩ := minT_event (ln := ln) hv ha (t - rT R - 1) tb pb R hR h0 e (by omega)
        have hf' : (t - rT R) + totE p ln n a k (jumpR (begK p ln a n 0 R) t) ≤ f := hf
        have hn := nd_jump e
        rw [nd_beg] at hn
        have ih := minT_tot hv ha hl k _ _ (f - (t - rT R)) R' g2 (cov_eq (eqR_symm g1) (cov_jump (cov_beg hc))) (by rw [nd_eq g1]; omega) (by rw [totE_eq hv ha k _ _ g1]; omega)
        have := g3 (f - (t - rT R))
        rw [show f - (t - rT R) + (t - rT R - 1 + 1) = f by omega] at this
        rw [this, ih, totE_eq hv ha k _ _ g1]
        show t - rT R - 1 + 1 + _ = (t - rT R) + _
        omega
def goE (p : aPat) (ln n : Nat) (a : Nat → Nat) (L : Nat) : Nat → aRow → Nat → Nat
  | 0, _, K => K
  | k + 1, r, K => match neF (begK p ln a n 0 r) (pNx p) with
    | none => K
    | some e => if e ≤ L then goE p ln n a L k (jumpR (begK p ln a n 0 r) e) (knowL p (finB (setT (begK p ln a n 0 r) e)) (pNx p) 0 K) else K
theorem goE_eq {p : aPat} {ln n L : Nat} {a : Nat → Nat} (hv : vPat p) (ha : ∀ j, j < n → a j < pNx p) : ∀ (k K : Nat) (r r' : aRow), eqR p r r' → goE p ln n a L k r K = goE p ln n a L k r' K
  | 0, _, _, _, _ => rfl
  | k + 1, K, r, r', h => by
    have hb := eqR_beg (ln := ln) hv ha n 0 r r' (by omega) h
    rw [goE, goE, neF_eq hb (pNx p) (Nat.le_refl _)]
    cases e : neF (begK p ln a n 0 r') (pNx p) with
    | none => rfl
    | some t =>
      show (if t ≤ L then _ else K) = (if t ≤ L then _ else K)
      by_cases q : t ≤ L
      · rw [if_pos q, if_pos q, knowL_congr _ _ _ (fun x _ hx => fin_eqT hb (by omega)), goE_eq hv ha k _ _ _ (eqR_jump hb)]
      · rw [if_neg q, if_neg q]
theorem goM_done {p : aPat} {ln n : Nat} {a : Nat → Nat} : ∀ (m K : Nat) (R : aRow), nd p R = 0 → goM p ln n a m R K = K
  | 0, _, _, _ => rfl
  | m + 1, K, R, h => by
    have hh : ∀ x, x < pNx p → rHow (begK p ln a n 0 R) x = 2 := fun x hx => by
      have h3 := nd_zero.mp h x hx
      have := (begK_how (p := p) (ln := ln) (a := a) (x := x) n 0 R).1 (by omega)
      omega
    rw [goM, knowL_none _ _ _ (fun x _ hx q => by
      have q1 : rHow (begK p ln a n 0 R) x = 1 := (fin_iff.mp q).1
      rw [hh x (by omega)] at q1
      cases q1)]
    refine goM_done m K _ (nd_zero.mpr (fun x hx => ?_))
    show (if finB (tickR (begK p ln a n 0 R)) x = true then 2 else rHow (begK p ln a n 0 R) x) = 2
    split
    · rfl
    · exact hh x hx
theorem goM_E {p : aPat} {ln n L : Nat} {a : Nat → Nat} (hv : vPat p) (ha : ∀ j, j < n → a j < pNx p) (hl : 1 ≤ ln) : ∀ (k tb pb K : Nat) (R : aRow), vRowG tb pb p R → cov p n a R → nd p R ≤ k → rT R ≤ L → goM p ln n a (L - rT R) R K = goE p ln n a L k R K
  | 0, tb, pb, K, R, hR, hc, hk, hL => by rw [goE, goM_done _ _ _ (by omega)]
  | k + 1, tb, pb, K, R, hR, hc, hk, hL => by
    by_cases h0 : nd p R = 0
    · rw [goE, neF_done h0, goM_done _ _ _ h0]
    · rw [goE]
      cases e : neF (begK p ln a n 0 R) (pNx p) with
      | none => exact absurd (not_stuck hv hR hl hc e) h0
      | some t =>
        have hb := begK_v (ln := ln) hv ha n 0 R (by omega) hR
        obtain ⟨_, j2, _⟩ := vRowG_jump hv hb e
        rw [begK_T] at j2
        obtain ⟨R', g1, g2, _, g4, g5⟩ := minT_event (ln := ln) hv ha (t - rT R - 1) tb pb R hR h0 e (by omega)
        show _ = if t ≤ L then _ else K
        by_cases q : t ≤ L
        · have hn := nd_jump e
          rw [nd_beg] at hn
          have TR : rT R' = t := g1.1
          have ih := goM_E (L := L) hv ha hl k _ _ (knowL p (finB (setT (begK p ln a n 0 R) t)) (pNx p) 0 K) R' g2 (cov_eq (eqR_symm g1) (cov_jump (cov_beg hc))) (by rw [nd_eq g1]; omega) (by omega)
          rw [if_pos q, show L - rT R = (L - t) + (t - rT R - 1 + 1) by omega, g4 (L - t) K, ← goE_eq hv ha k _ _ _ g1, ← ih, TR]
        · rw [if_neg q]
          exact g5 (L - rT R) K (by omega)
