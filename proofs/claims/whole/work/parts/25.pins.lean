/-! pins: change, cross, lay (gen6.py) -/
def nextR (nm b : Nat) : Nat := if b + 1 < nm then b + 1 else 0
def swapP (pin : Nat → Nat) (a w : Nat) : Nat → Nat := fun m => if m = w then pin a else if m = a then pin w else pin m
def crossP (p : aPat) (ear pin : Nat → Nat) (x : Nat) : Nat → Nat := if ear (pA p x) = 1 ∨ ear (pB p x) = 1 then pin else if ear (pA p x) = 2 ∨ ear (pB p x) = 2 then swapP pin (pA p x) (nextR (pNm p) (pB p x)) else swapP pin (pA p x) (pB p x)
theorem nextR_lt {nm b : Nat} (h : b < nm) : nextR nm b < nm := by unfold nextR; split <;> omega
theorem swapP_lt {pin : Nat → Nat} {a w : Nat} (ha : a < 6) (hw : w < 6) (hp : ∀ m, m < 6 → pin m < 6) : ∀ m, m < 6 → swapP pin a w m < 6 := by
  intro m hm
  unfold swapP
  split
  · exact hp a ha
  · split
    · exact hp w hw
    · exact hp m hm
theorem crossP_lt {p : aPat} (hv : vPat p) {ear pin : Nat → Nat} {x : Nat} (hx : x < pNx p) (hp : ∀ m, m < 6 → pin m < 6) : ∀ m, m < 6 → crossP p ear pin x m < 6 := by
  have hm6 := hv.2.2.1
  have hab := hv.2.2.2.2.2.2.1 x hx
  have hn := nextR_lt hab.2.1
  unfold crossP
  split
  · exact hp
  · split
    · exact swapP_lt (by omega) (by omega) hp
    · exact swapP_lt (by omega) (by omega) hp
/-- all is done from the beginning, but for a set -/
def layP (p : aPat) (ear : Nat → Nat) (s : Nat) : Nat → (Nat → Nat)
  | 0 => fun m => m
  | x + 1 => if s.testBit x = true then layP p ear s x else crossP p ear (layP p ear s x) x
theorem layP_lt {p : aPat} (hv : vPat p) {ear : Nat → Nat} {s : Nat} : ∀ (x : Nat), x ≤ pNx p → ∀ m, m < 6 → layP p ear s x m < 6
  | 0, _ => fun m hm => hm
  | x + 1, h => by
    have ih := layP_lt hv (ear := ear) (s := s) x (by omega)
    rw [layP]
    split
    · exact ih
    · exact crossP_lt hv (by omega) ih
theorem v_swap18 {d a w : Nat} {M : lc_M} {pin : Nat → Nat} (ha : a < 6) (hw : w < 6) (hp : ∀ m, m < 6 → M 18 m = nI (pin m)) : ∃ M', lc_val d 107 0 [.ref 18, .int (nI a), .int (nI w), .null] [] lc_SH M = some (none, lc_SH, M') ∧ (∀ c, c ≠ 18 → M' c = M c) ∧ ∀ m, m < 6 → M' 18 m = nI (swapP pin a w m) := by
  refine ⟨lc_up (lc_up M 18 a (M 18 w)) 18 w (M 18 a), ?_, fun c hc => by rw [up_ne hc, up_ne hc], fun m hm => ?_⟩
  · rw [sg_107_0_0, if_pos (nI_in (by omega) (by decide)), nI_clamp (by omega), sg_107_0_4, if_pos (nI_in (by omega) (by decide)), if_pos (nI_in (by omega) (by decide)), sg_107_0_10, if_pos (nI_in (by omega) (by decide)), nI_clamp (by omega), nI_clamp (by omega)]
  · rw [up_at, if_pos rfl, up_at, if_pos rfl]
    unfold swapP
    by_cases h1 : m = w
    · rw [if_pos h1, if_pos h1]; exact hp a ha
    · rw [if_neg h1, if_neg h1]
      by_cases h2 : m = a
      · rw [if_pos h2, if_pos h2]; exact hp w hw
      · rw [if_neg h2, if_neg h2]; exact hp m hm
theorem v_swap28 {d a w : Nat} {M : lc_M} {pin : Nat → Nat} (ha : a < 6) (hw : w < 6) (hp : ∀ m, m < 6 → M 28 m = nI (pin m)) : ∃ M', lc_val d 107 0 [.ref 28, .int (nI a), .int (nI w), .null] [] lc_SH M = some (none, lc_SH, M') ∧ (∀ c, c ≠ 28 → M' c = M c) ∧ ∀ m, m < 6 → M' 28 m = nI (swapP pin a w m) := by
  refine ⟨lc_up (lc_up M 28 a (M 28 w)) 28 w (M 28 a), ?_, fun c hc => by rw [up_ne hc, up_ne hc], fun m hm => ?_⟩
  · rw [sg_107_1_0, if_pos (nI_in (by omega) (by decide)), nI_clamp (by omega), sg_107_1_4, if_pos (nI_in (by omega) (by decide)), if_pos (nI_in (by omega) (by decide)), sg_107_1_10, if_pos (nI_in (by omega) (by decide)), nI_clamp (by omega), nI_clamp (by omega)]
  · rw [up_at, if_pos rfl, up_at, if_pos rfl]
    unfold swapP
    by_cases h1 : m = w
    · rw [if_pos h1, if_pos h1]; exact hp a ha
    · rw [if_neg h1, if_neg h1]
      by_cases h2 : m = a
      · rw [if_pos h2, if_pos h2]; exact hp w hw
      · rw [if_neg h2, if_neg h2]; exact hp m hm
theorem v_swap31 {d a w : Nat} {M : lc_M} {pin : Nat → Nat} (ha : a < 6) (hw : w < 6) (hp : ∀ m, m < 6 → M 31 m = nI (pin m)) : ∃ M', lc_val d 107 0 [.ref 31, .int (nI a), .int (nI w), .null] [] lc_SH M = some (none, lc_SH, M') ∧ (∀ c, c ≠ 31 → M' c = M c) ∧ ∀ m, m < 6 → M' 31 m = nI (swapP pin a w m) := by
  refine ⟨lc_up (lc_up M 31 a (M 31 w)) 31 w (M 31 a), ?_, fun c hc => by rw [up_ne hc, up_ne hc], fun m hm => ?_⟩
  · rw [sg_107_2_0, if_pos (nI_in (by omega) (by decide)), nI_clamp (by omega), sg_107_2_4, if_pos (nI_in (by omega) (by decide)), if_pos (nI_in (by omega) (by decide)), sg_107_2_10, if_pos (nI_in (by omega) (by decide)), nI_clamp (by omega), nI_clamp (by omega)]
  · rw [up_at, if_pos rfl, up_at, if_pos rfl]
    unfold swapP
    by_cases h1 : m = w
    · rw [if_pos h1, if_pos h1]; exact hp a ha
    · rw [if_neg h1, if_neg h1]
      by_cases h2 : m = a
      · rw [if_pos h2, if_pos h2]; exact hp w hw
      · rw [if_neg h2, if_neg h2]; exact hp m hm
theorem v_cross0 {d x : Nat} {p : aPat} {M : lc_M} {ear pin : Nat → Nat} (hp : cPat p (M 9) (M 10) (M 11) (M 12) (M 13) (M 14)) (hv : vPat p) (hx : x < pNx p) (he : ∀ m, m < pNm p → M 10 m = nI (ear m) ∧ ear m ≤ 2) (hq : ∀ m, m < 6 → M 18 m = nI (pin m)) : ∃ M', lc_val (d + 1) 37 0 [.ref 9, .int (nI x), .ref 10, .ref 18, .null, .null, .null] [] lc_SH M = some (none, lc_SH, M') ∧ (∀ c, c ≠ 18 → M' c = M c) ∧ ∀ m, m < 6 → M' 18 m = nI (crossP p ear pin x m) := by
  have h8 := hv.2.2.2.1
  have hm6 := hv.2.2.1
  have hab := hv.2.2.2.2.2.2.1 x hx
  have hc := hp.2.2.2.2.2 x hx
  have ea := he (pA p x) hab.1
  have eb := he (pB p x) hab.2.1
  have start : lc_val (d + 1) 37 0 [.ref 9, .int (nI x), .ref 10, .ref 18, .null, .null, .null] [] lc_SH M = lc_val (d + 1) 37 16 [.ref 9, .int (nI x), .ref 10, .ref 18, .int (nI (pA p x)), .int (nI (pB p x)), .null] [] lc_SH M := by
    rw [sg_37_0_0, if_pos (nI_in (by omega) (by decide)), nI_clamp (by omega), hc.1, sg_37_0_8, if_pos (nI_in (by omega) (by decide)), nI_clamp (by omega), hc.2.1]
  rw [start, sg_37_0_16, if_pos (nI_in (by omega) (by decide)), nI_clamp (by omega), ea.1]
  have ne1 : ∀ {q : Nat}, q ≤ 2 → ¬ q = 1 → ¬ nI q = 1 := fun hq h z => h ((nI_eq (b := 1) (by omega) (by decide)).mp z)
  have ne2 : ∀ {q : Nat}, q ≤ 2 → ¬ q = 2 → ¬ nI q = 2 := fun hq h z => h ((nI_eq (b := 2) (by omega) (by decide)).mp z)
  by_cases d1 : ear (pA p x) = 1
  · rw [d1, if_pos (show nI 1 = 1 from rfl)]
    exact ⟨M, rfl, fun _ _ => rfl, fun m hm => by rw [hq m hm, crossP, if_pos (Or.inl d1)]⟩
  · rw [if_neg (ne1 ea.2 d1), lc_it_val, sg_37_0_24, if_pos (nI_in (by omega) (by decide)), nI_clamp (by omega), eb.1]
    by_cases d2 : ear (pB p x) = 1
    · rw [d2, if_neg (show ¬ ¬ nI 1 = 1 from fun z => z rfl)]
      exact ⟨M, rfl, fun _ _ => rfl, fun m hm => by rw [hq m hm, crossP, if_pos (Or.inr d2)]⟩
    · have hnd : ¬ (ear (pA p x) = 1 ∨ ear (pB p x) = 1) := fun z => z.elim d1 d2
      rw [if_pos (ne1 eb.2 d2), lc_it_val, sg_37_0_33, if_pos (nI_in (by omega) (by decide)), nI_clamp (by omega), ea.1]
      have mir : (ear (pA p x) = 2 ∨ ear (pB p x) = 2) → ∃ M', lc_val (d + 1) 37 54 [.ref 9, .int (nI x), .ref 10, .ref 18, .int (nI (pA p x)), .int (nI (pB p x)), .null] [.int 1] lc_SH M = some (none, lc_SH, M') ∧ (∀ c, c ≠ 18 → M' c = M c) ∧ ∀ m, m < 6 → M' 18 m = nI (crossP p ear pin x m) := by
        intro hmi
        have hn := nextR_lt hab.2.1
        obtain ⟨M', e1, e2, e3⟩ := v_swap18 (d := d) (M := M) (pin := pin) (a := pA p x) (w := nextR (pNm p) (pB p x)) (by omega) (by omega) hq
        refine ⟨M', ?_, e2, fun m hm => by rw [e3 m hm, crossP, if_neg hnd, if_pos hmi]⟩
        have hr : lc_val d 38 0 [.ref 9, .int (nI (pB p x))] [] lc_SH M = some (some (.int (nI (nextR (pNm p) (pB p x)))), lc_SH, M) := by
          rw [sg_38_0_0, hp.2.2.1, nI_1]
          unfold nextR
          by_cases hb : pB p x + 1 < pNm p
          · rw [if_neg (nI_ge hb (by omega)), if_pos hb]
          · rw [if_pos (nI_le (by omega) (by omega)), if_neg hb]; rfl
        rw [sg_37_0_54, if_neg (by decide), hr, lc_bk1, sg_37_0_70, e1, lc_bk0, sg_37_0_78]
      by_cases m1 : ear (pA p x) = 2
      · rw [m1, if_pos (show nI 2 = 2 from rfl)]
        exact mir (Or.inl m1)
      · rw [if_neg (ne2 ea.2 m1), lc_it_val, sg_37_0_41, if_pos (nI_in (by omega) (by decide)), nI_clamp (by omega), eb.1]
        by_cases m2 : ear (pB p x) = 2
        · rw [m2, if_neg (show ¬ ¬ nI 2 = 2 from fun z => z rfl)]
          exact mir (Or.inr m2)
        · obtain ⟨M', e1, e2, e3⟩ := v_swap18 (d := d) (M := M) (pin := pin) (a := pA p x) (w := pB p x) (by omega) (by omega) hq
          refine ⟨M', ?_, e2, fun m hm => by rw [e3 m hm, crossP, if_neg hnd, if_neg (fun z => z.elim m1 m2)]⟩
          rw [if_pos (ne2 eb.2 m2), lc_it_val, sg_37_0_54, if_pos (by decide), lc_it_val, e1, lc_bk0]
          try rw [lc_it_val]
          rw [sg_37_0_78]
theorem v_cross1 {d x : Nat} {p : aPat} {M : lc_M} {ear pin : Nat → Nat} (hp : cPat p (M 9) (M 10) (M 11) (M 12) (M 13) (M 14)) (hv : vPat p) (hx : x < pNx p) (he : ∀ m, m < pNm p → M 10 m = nI (ear m) ∧ ear m ≤ 2) (hq : ∀ m, m < 6 → M 31 m = nI (pin m)) : ∃ M', lc_val (d + 1) 37 0 [.ref 9, .int (nI x), .ref 10, .ref 31, .null, .null, .null] [] lc_SH M = some (none, lc_SH, M') ∧ (∀ c, c ≠ 31 → M' c = M c) ∧ ∀ m, m < 6 → M' 31 m = nI (crossP p ear pin x m) := by
  have h8 := hv.2.2.2.1
  have hm6 := hv.2.2.1
  have hab := hv.2.2.2.2.2.2.1 x hx
  have hc := hp.2.2.2.2.2 x hx
  have ea := he (pA p x) hab.1
  have eb := he (pB p x) hab.2.1
  have start : lc_val (d + 1) 37 0 [.ref 9, .int (nI x), .ref 10, .ref 31, .null, .null, .null] [] lc_SH M = lc_val (d + 1) 37 16 [.ref 9, .int (nI x), .ref 10, .ref 31, .int (nI (pA p x)), .int (nI (pB p x)), .null] [] lc_SH M := by
    rw [sg_37_1_0, if_pos (nI_in (by omega) (by decide)), nI_clamp (by omega), hc.1, sg_37_1_8, if_pos (nI_in (by omega) (by decide)), nI_clamp (by omega), hc.2.1]
  rw [start, sg_37_1_16, if_pos (nI_in (by omega) (by decide)), nI_clamp (by omega), ea.1]
  have ne1 : ∀ {q : Nat}, q ≤ 2 → ¬ q = 1 → ¬ nI q = 1 := fun hq h z => h ((nI_eq (b := 1) (by omega) (by decide)).mp z)
  have ne2 : ∀ {q : Nat}, q ≤ 2 → ¬ q = 2 → ¬ nI q = 2 := fun hq h z => h ((nI_eq (b := 2) (by omega) (by decide)).mp z)
  by_cases d1 : ear (pA p x) = 1
  · rw [d1, if_pos (show nI 1 = 1 from rfl)]
    exact ⟨M, rfl, fun _ _ => rfl, fun m hm => by rw [hq m hm, crossP, if_pos (Or.inl d1)]⟩
  · rw [if_neg (ne1 ea.2 d1), lc_it_val, sg_37_1_24, if_pos (nI_in (by omega) (by decide)), nI_clamp (by omega), eb.1]
    by_cases d2 : ear (pB p x) = 1
    · rw [d2, if_neg (show ¬ ¬ nI 1 = 1 from fun z => z rfl)]
      exact ⟨M, rfl, fun _ _ => rfl, fun m hm => by rw [hq m hm, crossP, if_pos (Or.inr d2)]⟩
    · have hnd : ¬ (ear (pA p x) = 1 ∨ ear (pB p x) = 1) := fun z => z.elim d1 d2
      rw [if_pos (ne1 eb.2 d2), lc_it_val, sg_37_1_33, if_pos (nI_in (by omega) (by decide)), nI_clamp (by omega), ea.1]
      have mir : (ear (pA p x) = 2 ∨ ear (pB p x) = 2) → ∃ M', lc_val (d + 1) 37 54 [.ref 9, .int (nI x), .ref 10, .ref 31, .int (nI (pA p x)), .int (nI (pB p x)), .null] [.int 1] lc_SH M = some (none, lc_SH, M') ∧ (∀ c, c ≠ 31 → M' c = M c) ∧ ∀ m, m < 6 → M' 31 m = nI (crossP p ear pin x m) := by
        intro hmi
        have hn := nextR_lt hab.2.1
        obtain ⟨M', e1, e2, e3⟩ := v_swap31 (d := d) (M := M) (pin := pin) (a := pA p x) (w := nextR (pNm p) (pB p x)) (by omega) (by omega) hq
        refine ⟨M', ?_, e2, fun m hm => by rw [e3 m hm, crossP, if_neg hnd, if_pos hmi]⟩
        have hr : lc_val d 38 0 [.ref 9, .int (nI (pB p x))] [] lc_SH M = some (some (.int (nI (nextR (pNm p) (pB p x)))), lc_SH, M) := by
          rw [sg_38_0_0, hp.2.2.1, nI_1]
          unfold nextR
          by_cases hb : pB p x + 1 < pNm p
          · rw [if_neg (nI_ge hb (by omega)), if_pos hb]
          · rw [if_pos (nI_le (by omega) (by omega)), if_neg hb]; rfl
        rw [sg_37_1_54, if_neg (by decide), hr, lc_bk1, sg_37_1_70, e1, lc_bk0, sg_37_1_78]
      by_cases m1 : ear (pA p x) = 2
      · rw [m1, if_pos (show nI 2 = 2 from rfl)]
        exact mir (Or.inl m1)
      · rw [if_neg (ne2 ea.2 m1), lc_it_val, sg_37_1_41, if_pos (nI_in (by omega) (by decide)), nI_clamp (by omega), eb.1]
        by_cases m2 : ear (pB p x) = 2
        · rw [m2, if_neg (show ¬ ¬ nI 2 = 2 from fun z => z rfl)]
          exact mir (Or.inr m2)
        · obtain ⟨M', e1, e2, e3⟩ := v_swap31 (d := d) (M := M) (pin := pin) (a := pA p x) (w := pB p x) (by omega) (by omega) hq
          refine ⟨M', ?_, e2, fun m hm => by rw [e3 m hm, crossP, if_neg hnd, if_neg (fun z => z.elim m1 m2)]⟩
          rw [if_pos (ne2 eb.2 m2), lc_it_val, sg_37_1_54, if_pos (by decide), lc_it_val, e1, lc_bk0]
          try rw [lc_it_val]
          rw [sg_37_1_78]
theorem v_cross2 {d x : Nat} {p : aPat} {M : lc_M} {ear pin : Nat → Nat} (hp : cPat p (M 9) (M 10) (M 11) (M 12) (M 13) (M 14)) (hv : vPat p) (hx : x < pNx p) (he : ∀ m, m < pNm p → M 32 m = nI (ear m) ∧ ear m ≤ 2) (hq : ∀ m, m < 6 → M 31 m = nI (pin m)) : ∃ M', lc_val (d + 1) 37 0 [.ref 9, .int (nI x), .ref 32, .ref 31, .null, .null, .null] [] lc_SH M = some (none, lc_SH, M') ∧ (∀ c, c ≠ 31 → M' c = M c) ∧ ∀ m, m < 6 → M' 31 m = nI (crossP p ear pin x m) := by
  have h8 := hv.2.2.2.1
  have hm6 := hv.2.2.1
  have hab := hv.2.2.2.2.2.2.1 x hx
  have hc := hp.2.2.2.2.2 x hx
  have ea := he (pA p x) hab.1
  have eb := he (pB p x) hab.2.1
  have start : lc_val (d + 1) 37 0 [.ref 9, .int (nI x), .ref 32, .ref 31, .null, .null, .null] [] lc_SH M = lc_val (d + 1) 37 16 [.ref 9, .int (nI x), .ref 32, .ref 31, .int (nI (pA p x)), .int (nI (pB p x)), .null] [] lc_SH M := by
    rw [sg_37_2_0, if_pos (nI_in (by omega) (by decide)), nI_clamp (by omega), hc.1, sg_37_2_8, if_pos (nI_in (by omega) (by decide)), nI_clamp (by omega), hc.2.1]
  rw [start, sg_37_2_16, if_pos (nI_in (by omega) (by decide)), nI_clamp (by omega), ea.1]
  have ne1 : ∀ {q : Nat}, q ≤ 2 → ¬ q = 1 → ¬ nI q = 1 := fun hq h z => h ((nI_eq (b := 1) (by omega) (by decide)).mp z)
  have ne2 : ∀ {q : Nat}, q ≤ 2 → ¬ q = 2 → ¬ nI q = 2 := fun hq h z => h ((nI_eq (b := 2) (by omega) (by decide)).mp z)
  by_cases d1 : ear (pA p x) = 1
  · rw [d1, if_pos (show nI 1 = 1 from rfl)]
    exact ⟨M, rfl, fun _ _ => rfl, fun m hm => by rw [hq m hm, crossP, if_pos (Or.inl d1)]⟩
  · rw [if_neg (ne1 ea.2 d1), lc_it_val, sg_37_2_24, if_pos (nI_in (by omega) (by decide)), nI_clamp (by omega), eb.1]
    by_cases d2 : ear (pB p x) = 1
    · rw [d2, if_neg (show ¬ ¬ nI 1 = 1 from fun z => z rfl)]
      exact ⟨M, rfl, fun _ _ => rfl, fun m hm => by rw [hq m hm, crossP, if_pos (Or.inr d2)]⟩
    · have hnd : ¬ (ear (pA p x) = 1 ∨ ear (pB p x) = 1) := fun z => z.elim d1 d2
      rw [if_pos (ne1 eb.2 d2), lc_it_val, sg_37_2_33, if_pos (nI_in (by omega) (by decide)), nI_clamp (by omega), ea.1]
      have mir : (ear (pA p x) = 2 ∨ ear (pB p x) = 2) → ∃ M', lc_val (d + 1) 37 54 [.ref 9, .int (nI x), .ref 32, .ref 31, .int (nI (pA p x)), .int (nI (pB p x)), .null] [.int 1] lc_SH M = some (none, lc_SH, M') ∧ (∀ c, c ≠ 31 → M' c = M c) ∧ ∀ m, m < 6 → M' 31 m = nI (crossP p ear pin x m) := by
        intro hmi
        have hn := nextR_lt hab.2.1
        obtain ⟨M', e1, e2, e3⟩ := v_swap31 (d := d) (M := M) (pin := pin) (a := pA p x) (w := nextR (pNm p) (pB p x)) (by omega) (by omega) hq
        refine ⟨M', ?_, e2, fun m hm => by rw [e3 m hm, crossP, if_neg hnd, if_pos hmi]⟩
        have hr : lc_val d 38 0 [.ref 9, .int (nI (pB p x))] [] lc_SH M = some (some (.int (nI (nextR (pNm p) (pB p x)))), lc_SH, M) := by
          rw [sg_38_0_0, hp.2.2.1, nI_1]
          unfold nextR
          by_cases hb : pB p x + 1 < pNm p
          · rw [if_neg (nI_ge hb (by omega)), if_pos hb]
          · rw [if_pos (nI_le (by omega) (by omega)), if_neg hb]; rfl
        rw [sg_37_2_54, if_neg (by decide), hr, lc_bk1, sg_37_2_70, e1, lc_bk0, sg_37_2_78]
      by_cases m1 : ear (pA p x) = 2
      · rw [m1, if_pos (show nI 2 = 2 from rfl)]
        exact mir (Or.inl m1)
      · rw [if_neg (ne2 ea.2 m1), lc_it_val, sg_37_2_41, if_pos (nI_in (by omega) (by decide)), nI_clamp (by omega), eb.1]
        by_cases m2 : ear (pB p x) = 2
        · rw [m2, if_neg (show ¬ ¬ nI 2 = 2 from fun z => z rfl)]
          exact mir (Or.inr m2)
        · obtain ⟨M', e1, e2, e3⟩ := v_swap31 (d := d) (M := M) (pin := pin) (a := pA p x) (w := pB p x) (by omega) (by omega) hq
          refine ⟨M', ?_, e2, fun m hm => by rw [e3 m hm, crossP, if_neg hnd, if_neg (fun z => z.elim m1 m2)]⟩
          rw [if_pos (ne2 eb.2 m2), lc_it_val, sg_37_2_54, if_pos (by decide), lc_it_val, e1, lc_bk0]
          try rw [lc_it_val]
          rw [sg_37_2_78]
theorem v_lay0A {d : Nat} {s : Int32} : ∀ (k i : Nat) (M : lc_M), i + k = 6 → (∀ m, m < i → M 31 m = nI m) → ∃ M', lc_val (d + 1) 72 2 [.ref 30, .int s, .ref 10, .int (nI i)] [] lc_SH M = lc_val (d + 1) 72 23 [.ref 30, .int s, .ref 10, .int (nI 0)] [] lc_SH M' ∧ (∀ c, c ≠ 31 → M' c = M c) ∧ ∀ m, m < 6 → M' 31 m = nI m
  | 0, i, M, h, hf => by
    refine ⟨M, ?_, fun _ _ => rfl, fun m hm => hf m (by omega)⟩
    rw [sg_72_0_2, if_pos (show (6 : Int32) ≤ nI i from nI_le (a := 6) (by omega) (by omega)), lc_it_val]
    rfl
  | k + 1, i, M, h, hf => by
    obtain ⟨M', e1, e2, e3⟩ := v_lay0A (d := d) (s := s) k (i + 1) (lc_up M 31 i (nI i)) (by omega) (fun m hm => by
      rw [up_at, if_pos rfl]
      by_cases q : m = i
      · rw [if_pos q, q]
      · rw [if_neg q]; exact hf m (by omega))
    refine ⟨M', ?_, fun c hc => by rw [e2 c hc, up_ne hc], e3⟩
    rw [sg_72_0_2, if_neg (show ¬ (6 : Int32) ≤ nI i from nI_ge (b := 6) (by omega) (by decide)), if_pos (nI_in (by omega) (by decide)), nI_clamp (by omega), nI_1, e1]
theorem v_lay0B {d s : Nat} {p : aPat} {ear : Nat → Nat} (hv : vPat p) (hs : s < 256) : ∀ (k i : Nat) (M : lc_M), i + k = pNx p → cPat p (M 9) (M 10) (M 11) (M 12) (M 13) (M 14) → (∀ m, m < pNm p → M 10 m = nI (ear m) ∧ ear m ≤ 2) → (∀ m, m < 6 → M 31 m = nI (layP p ear s i m)) → ∃ M', lc_val (d + 2) 72 23 [.ref 30, .int (nI s), .ref 10, .int (nI i)] [] lc_SH M = some (none, lc_SH, M') ∧ (∀ c, c ≠ 31 → M' c = M c) ∧ ∀ m, m < 6 → M' 31 m = nI (layP p ear s (pNx p) m)
  | 0, i, M, h, hp, he, hq => by
    have h8 := hv.2.2.2.1
    refine ⟨M, ?_, fun _ _ => rfl, fun m hm => by rw [hq m hm, show i = pNx p by omega]⟩
    rw [sg_72_0_23, hp.2.2.2.1, if_pos (nI_le (by omega) (by omega))]
  | k + 1, i, M, h, hp, he, hq => by
    have h8 := hv.2.2.2.1
    rw [sg_72_0_23, hp.2.2.2.1, if_neg (nI_ge (by omega) (by omega))]
    by_cases ht : s.testBit i = true
    · obtain ⟨M', e1, e2, e3⟩ := v_lay0B (d := d) hv hs k (i + 1) M (by omega) hp he (fun m hm => by rw [hq m hm, layP, if_pos ht])
      refine ⟨M', ?_, e2, e3⟩
      rw [v_has1 hs (by omega) ht, lc_bk1, sg_72_0_39, if_pos (by decide), lc_it_val, sg_72_0_55, nI_1, e1]
    · obtain ⟨M1, f1, f2, f3⟩ := v_cross1 (d := d) hp hv (x := i) (by omega) he hq
      obtain ⟨M', e1, e2, e3⟩ := v_lay0B (d := d) hv hs k (i + 1) M1 (by omega) (by rw [f2 9 (by decide), f2 10 (by decide), f2 11 (by decide), f2 12 (by decide), f2 13 (by decide), f2 14 (by decide)]; exact hp) (by rw [f2 10 (by decide)]; exact he) (fun m hm => by rw [f3 m hm, layP, if_neg ht])
      refine ⟨M', ?_, fun c hc => by rw [e2 c hc, f2 c hc], e3⟩
      rw [v_has0 hs (by omega) ht, lc_bk1, sg_72_0_39, if_neg (by decide), f1, lc_bk0, sg_72_0_55, nI_1, e1]
/-- the class lays all but a set -/
theorem v_lay0 {d s : Nat} {p : aPat} {ear : Nat → Nat} {M : lc_M} (hv : vPat p) (hs : s < 256) (hp : cPat p (M 9) (M 10) (M 11) (M 12) (M 13) (M 14)) (he : ∀ m, m < pNm p → M 10 m = nI (ear m) ∧ ear m ≤ 2) : ∃ M', lc_val (d + 2) 72 0 [.ref 30, .int (nI s), .ref 10, .null] [] lc_SH M = some (none, lc_SH, M') ∧ (∀ c, c ≠ 31 → M' c = M c) ∧ ∀ m, m < 6 → M' 31 m = nI (layP p ear s (pNx p) m) := by
  obtain ⟨M1, f1, f2, f3⟩ := v_lay0A (d := d + 1) (s := nI s) 6 0 M (by omega) (fun m hm => by omega)
  obtain ⟨M', e1, e2, e3⟩ := v_lay0B (d := d) hv hs (pNx p) 0 M1 (by omega) (by rw [f2 9 (by decide), f2 10 (by decide), f2 11 (by decide), f2 12 (by decide), f2 13 (by decide), f2 14 (by decide)]; exact hp) (by rw [f2 10 (by decide)]; exact he) (fun m hm => f3 m hm)
  exact ⟨M', by rw [sg_72_0_0]; exact f1.trans e1, fun c hc => by rw [e2 c hc, f2 c hc], e3⟩
theorem v_lay1A {d : Nat} {s : Int32} : ∀ (k i : Nat) (M : lc_M), i + k = 6 → (∀ m, m < i → M 31 m = nI m) → ∃ M', lc_val (d + 1) 72 2 [.ref 30, .int s, .ref 32, .int (nI i)] [] lc_SH M = lc_val (d + 1) 72 23 [.ref 30, .int s, .ref 32, .int (nI 0)] [] lc_SH M' ∧ (∀ c, c ≠ 31 → M' c = M c) ∧ ∀ m, m < 6 → M' 31 m = nI m
  | 0, i, M, h, hf => by
    refine ⟨M, ?_, fun _ _ => rfl, fun m hm => hf m (by omega)⟩
    rw [sg_72_1_2, if_pos (show (6 : Int32) ≤ nI i from nI_le (a := 6) (by omega) (by omega)), lc_it_val]
    rfl
  | k + 1, i, M, h, hf => by
    obtain ⟨M', e1, e2, e3⟩ := v_lay1A (d := d) (s := s) k (i + 1) (lc_up M 31 i (nI i)) (by omega) (fun m hm => by
      rw [up_at, if_pos rfl]
      by_cases q : m = i
      · rw [if_pos q, q]
      · rw [if_neg q]; exact hf m (by omega))
    refine ⟨M', ?_, fun c hc => by rw [e2 c hc, up_ne hc], e3⟩
    rw [sg_72_1_2, if_neg (show ¬ (6 : Int32) ≤ nI i from nI_ge (b := 6) (by omega) (by decide)), if_pos (nI_in (by omega) (by decide)), nI_clamp (by omega), nI_1, e1]
theorem v_lay1B {d s : Nat} {p : aPat} {ear : Nat → Nat} (hv : vPat p) (hs : s < 256) : ∀ (k i : Nat) (M : lc_M), i + k = pNx p → cPat p (M 9) (M 10) (M 11) (M 12) (M 13) (M 14) → (∀ m, m < pNm p → M 32 m = nI (ear m) ∧ ear m ≤ 2) → (∀ m, m < 6 → M 31 m = nI (layP p ear s i m)) → ∃ M', lc_val (d + 2) 72 23 [.ref 30, .int (nI s), .ref 32, .int (nI i)] [] lc_SH M = some (none, lc_SH, M') ∧ (∀ c, c ≠ 31 → M' c = M c) ∧ ∀ m, m < 6 → M' 31 m = nI (layP p ear s (pNx p) m)
  | 0, i, M, h, hp, he, hq => by
    have h8 := hv.2.2.2.1
    refine ⟨M, ?_, fun _ _ => rfl, fun m hm => by rw [hq m hm, show i = pNx p by omega]⟩
    rw [sg_72_1_23, hp.2.2.2.1, if_pos (nI_le (by omega) (by omega))]
  | k + 1, i, M, h, hp, he, hq => by
    have h8 := hv.2.2.2.1
    rw [sg_72_1_23, hp.2.2.2.1, if_neg (nI_ge (by omega) (by omega))]
    by_cases ht : s.testBit i = true
    · obtain ⟨M', e1, e2, e3⟩ := v_lay1B (d := d) hv hs k (i + 1) M (by omega) hp he (fun m hm => by rw [hq m hm, layP, if_pos ht])
      refine ⟨M', ?_, e2, e3⟩
      rw [v_has1 hs (by omega) ht, lc_bk1, sg_72_1_39, if_pos (by decide), lc_it_val, sg_72_1_55, nI_1, e1]
    · obtain ⟨M1, f1, f2, f3⟩ := v_cross2 (d := d) hp hv (x := i) (by omega) he hq
      obtain ⟨M', e1, e2, e3⟩ := v_lay1B (d := d) hv hs k (i + 1) M1 (by omega) (by rw [f2 9 (by decide), f2 10 (by decide), f2 11 (by decide), f2 12 (by decide), f2 13 (by decide), f2 14 (by decide)]; exact hp) (by rw [f2 32 (by decide)]; exact he) (fun m hm => by rw [f3 m hm, layP, if_neg ht])
      refine ⟨M', ?_, fun c hc => by rw [e2 c hc, f2 c hc], e3⟩
      rw [v_has0 hs (by omega) ht, lc_bk1, sg_72_1_39, if_neg (by decide), f1, lc_bk0, sg_72_1_55, nI_1, e1]
/-- the class lays all but a set -/
theorem v_lay1 {d s : Nat} {p : aPat} {ear : Nat → Nat} {M : lc_M} (hv : vPat p) (hs : s < 256) (hp : cPat p (M 9) (M 10) (M 11) (M 12) (M 13) (M 14)) (he : ∀ m, m < pNm p → M 32 m = nI (ear m) ∧ ear m ≤ 2) : ∃ M', lc_val (d + 2) 72 0 [.ref 30, .int (nI s), .ref 32, .null] [] lc_SH M = some (none, lc_SH, M') ∧ (∀ c, c ≠ 31 → M' c = M c) ∧ ∀ m, m < 6 → M' 31 m = nI (layP p ear s (pNx p) m) := by
  obtain ⟨M1, f1, f2, f3⟩ := v_lay1A (d := d + 1) (s := nI s) 6 0 M (by omega) (fun m hm => by omega)
  obtain ⟨M', e1, e2, e3⟩ := v_lay1B (d := d) hv hs (pNx p) 0 M1 (by omega) (by rw [f2 9 (by decide), f2 10 (by decide), f2 11 (by decide), f2 12 (by decide), f2 13 (by decide), f2 14 (by decide)]; exact hp) (by rw [f2 32 (by decide)]; exact he) (fun m hm => f3 m hm)
  exact ⟨M', by rw [sg_72_1_0]; exact f1.trans e1, fun c hc => by rw [e2 c hc, f2 c hc], e3⟩
