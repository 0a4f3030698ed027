/-! town -/
def row0 : aRow := (0, fun _ => 0, fun _ => 0, fun m => m, fun _ => 0)
def newS (S : aSt) (D : aPat) : aSt := (D, row0, [], fun _ => none, [], -1, [], [], sS S)
def errS (S : aSt) (w : Nat) : aSt := (sP S, sR S, sU S, sI S, [], nI w, sL S, sB S, sS S)
theorem vSt_new {n : Nat} {S : aSt} {D : aPat} (h : vSt n S) (hD : vPat D) : vSt (n + 1) (newS S D) := by
  refine ⟨hD, ⟨Nat.zero_le _, fun _ _ => Nat.zero_le _, fun x _ z => absurd (show (0 : Nat) = 1 from z) (by decide), fun x _ z => absurd (show (0 : Nat) = 2 from z) (by decide), fun m hm => hm, fun _ _ => Nat.zero_le _, fun x y _ _ z _ _ => absurd (show (0 : Nat) = 1 from z) (by decide)⟩, ⟨Nat.zero_le _, fun r hr => by cases hr⟩, fun i r q z => (by cases z), ⟨Nat.zero_le _, fun c hc => by cases hc⟩, ⟨Nat.zero_le _, fun c hc => by cases hc⟩, ⟨Nat.zero_le _, fun c hc => by cases hc⟩, h.2.2.2.2.2.2.2⟩
theorem vSt_err {n : Nat} {S : aSt} {w : Nat} (h : vSt n S) : vSt (n + 1) (errS S w) := by
  obtain ⟨h1, h2, h3, h4, _, h6, h7, h8⟩ := vSt_up h
  exact ⟨h1, h2, h3, h4, ⟨Nat.zero_le _, fun c hc => by cases hc⟩, h6, h7, h8⟩
theorem bits0 {n : Nat} {P : Nat → Prop} (h : ∀ x, x < n → ¬ P x) : bitsOf 0 n P := ⟨0, rfl, Nat.two_pow_pos n, fun x hx => by
  rw [Nat.zero_testBit]
  exact ⟨fun z => (by cases z), fun z => absurd z (h x hx)⟩⟩
theorem cpy_in {f g : Nat → Int32} {n j : Nat} (h : j < n) : va_cpy f g 0 0 n j = f j := by
  unfold va_cpy
  rw [if_pos (by omega), show 0 + (j - 0) = j by omega]
theorem v_copyP {d : Nat} {D : aPat} {M : lc_M} (hv : vPat D) (hD : patD D M) : ∃ M', lc_val (d + 1) 30 0 [.ref 9, .ref 3] [] lc_SH M = some (none, lc_SH, M') ∧ (∀ c, (c < 9 ∨ 14 < c) → M' c = M c) ∧ patC D M' := by
  have hm := hv.2.2.1
  have hx := hv.2.2.2.1
  obtain ⟨q1, q2, q3, q4, q5, q6⟩ := hD
  refine ⟨_, by rw [sg_30_0_0, sg_30_0_24, sg_30_0_47, sg_30_0_77], fun c hc => by rw [set_ne (by omega), set_ne (by omega), set_ne (by omega), set_ne (by omega), set_ne (by omega), up_ne (by omega), up_ne (by omega), up_ne (by omega), up_ne (by omega)], ?_⟩
  refine ⟨q1, q2, q3, q4, fun m hmm => ?_, fun x hxx => ?_⟩
  · rw [set_ne (by decide), set_ne (by decide), set_ne (by decide), set_ne (by decide), set_eq, cpy_in (by omega)]
    exact q5 m hmm
  · obtain ⟨a1, a2, a3, a4⟩ := q6 x hxx
    refine ⟨?_, ?_, ?_, ?_⟩
    · rw [set_ne (by decide), set_ne (by decide), set_ne (by decide), set_eq, cpy_in (by omega)]
      exact a1
    · rw [set_ne (by decide), set_ne (by decide), set_eq, cpy_in (by omega)]
      exact a2
    · rw [set_ne (by decide), set_eq, cpy_in (by omega)]
      exact a3
    · rw [set_eq, cpy_in (by omega)]
      exact a4
theorem v_begL {d : Nat} : ∀ (k i : Nat) (M : lc_M), i + k = 6 → (∀ m, m < i → M 18 m = nI m ∧ M 19 m = 0) → ∃ M', lc_val (d + 1) 17 9 [.ref 15, .int (nI i)] [] lc_SH M = some (none, lc_SH, M') ∧ (∀ c, c ≠ 18 → c ≠ 19 → M' c = M c) ∧ ∀ m, m < 6 → M' 18 m = nI m ∧ M' 19 m = 0
  | 0, i, M, h, hp => by
    obtain rfl : i = 6 := by omega
    refine ⟨M, ?_, fun _ _ _ => rfl, hp⟩
    rw [sg_17_0_9, if_pos (by decide)]
  | k + 1, i, M, h, hp => by
    obtain ⟨M', e1, e2, e3⟩ := v_begL (d := d) k (i + 1) (lc_up (lc_up M 18 i (nI i)) 19 i 0) (by omega) (fun m hm => by
      constructor
      · rw [up_ne (by decide), up_at, if_pos rfl]
        by_cases e : m = i
        · rw [if_pos e, e]
        · rw [if_neg e]; exact (hp m (by omega)).1
      · rw [up_at, if_pos rfl]
        by_cases e : m = i
        · rw [if_pos e]
        · rw [if_neg e, up_ne (by decide)]; exact (hp m (by omega)).2)
    refine ⟨M', ?_, fun c a1 a2 => by rw [e2 c a1 a2, up_ne a2, up_ne a1], e3⟩
    rw [sg_17_0_9, if_neg (show ¬ (6 : Int32) ≤ nI i from nI_ge (b := 6) (by omega) (by decide)), lc_it_val, sg_17_0_15, if_pos (nI_in (by omega) (by decide)), if_pos (nI_in (by omega) (by decide)), nI_clamp (by omega), nI_1]
    exact e1
theorem v_begin {d : Nat} {M : lc_M} : ∃ M', lc_val (d + 2) 17 0 [.ref 15, .null] [] lc_SH M = some (none, lc_SH, M') ∧ (∀ c, c ≠ 16 → c ≠ 18 → c ≠ 19 → M' c = M c) ∧ (M' 16 1 = 0 ∧ M' 16 2 = 0 ∧ M' 16 3 = 0 ∧ M' 16 4 = 0) ∧ ∀ m, m < 6 → M' 18 m = nI m ∧ M' 19 m = 0 := by
  obtain ⟨M', e1, e2, e3⟩ := v_begL (d := d + 1) 6 0 (lc_up (lc_up (lc_up (lc_up M 16 1 0) 16 2 0) 16 3 0) 16 4 0) (by omega) (fun m hm => by omega)
  refine ⟨M', ?_, fun c a1 a2 a3 => by rw [e2 c a2 a3, up_ne a1, up_ne a1, up_ne a1, up_ne a1], by rw [e2 16 (by decide) (by decide)]; exact ⟨rfl, rfl, rfl, rfl⟩, e3⟩
  rw [sg_17_0_0, sg_1_0_0, lc_bk0, sg_17_0_7]
  exact e1
theorem v_townC {n : Nat} {S : aSt} {t : Nat → Nat} {L : Nat} {M : lc_M} (hv : vSt n S) (hL : L ≤ 200) (ht : ∀ j, j < L → t j ≤ 255) (hx : txC t L M) (hM : repC S M) : (match paP t L 200 D0 0 with
    | .inl e => ∃ M', lc_val 8 75 0 [.ref 0] [] lc_SH M = some (some (.int ((-10) - nI e.1)), lc_SH, M') ∧ repC (errS S e.2) M' ∧ ∀ c, 43 ≤ c → M' c = M c
    | .inr D => ∃ M', lc_val 8 75 0 [.ref 0] [] lc_SH M = some (some (.int (nI (pNm D))), lc_SH, M') ∧ repC (newS S D) M' ∧ ∀ c, 43 ≤ c → M' c = M c) := by
  obtain ⟨M1, f1, f2, f3, f4⟩ := v_readC (d := 3) hL ht hx
  have hok := paP_ok (t := t) (L := L) 200 D0 0 vPat_D0 (Nat.zero_le _)
  obtain ⟨r1, r2, r3, r4, r5, r6, r7, r8, r9⟩ := hM
  cases hp : paP t L 200 D0 0 with
  | inl e =>
    rw [hp] at f4 hok
    obtain ⟨g1, g2⟩ := f4
    obtain ⟨o1, o2, o3⟩ := hok
    refine ⟨M1, ?_, ?_, fun c hc => f2 c (by omega) (by omega)⟩
    · rw [sg_75_0_0, f1, lc_bk0, sg_75_0_11, g1, if_neg (nI_ne0 (by omega) (by omega))]
    · unfold repC
      rw [f2 9 (by decide) (by decide), f2 10 (by decide) (by decide), f2 11 (by decide) (by decide), f2 12 (by decide) (by decide), f2 13 (by decide) (by decide), f2 14 (by decide) (by decide), f2 16 (by decide) (by decide), f2 17 (by decide) (by decide), f2 18 (by decide) (by decide), f2 19 (by decide) (by decide), f2 20 (by decide) (by decide), f2 21 (by decide) (by decide), f2 22 (by decide) (by decide), f2 23 (by decide) (by decide), f2 24 (by decide) (by decide), f2 33 (by decide) (by decide), f2 34 (by decide) (by decide), f2 35 (by decide) (by decide), f2 36 (by decide) (by decide), f2 37 (by decide) (by decide), f2 38 (by decide) (by decide), f2 0 (by decide) (by decide)]
      exact ⟨r1, r2, r3, r4, ⟨f3, fun j c hj => by cases hj⟩, g2, r7, r8, r9⟩
  | inr D =>
    rw [hp] at f4 hok
    obtain ⟨g1, g2, g3⟩ := f4
    obtain ⟨M2, k1, k2, k3⟩ := v_copyP (d := 6) hok g3
    obtain ⟨M3, y1, y2, ⟨y3, y4, y5, y6⟩, y7⟩ := v_begin (d := 5) (M := M2)
    have fr : ∀ c, c ≠ 1 → (c < 3 ∨ 14 < c) → c ≠ 16 → c ≠ 18 → c ≠ 19 → c ≠ 20 → c ≠ 22 → c ≠ 33 → c ≠ 36 → lc_up (lc_up (lc_up (lc_up (lc_up M3 20 1 0) 20 2 0) 22 2 0) 33 3 0) 36 3 0 c = M c := fun c a1 a2 a3 a4 a5 a6 a7 a8 a9 => by rw [up_ne a9, up_ne a8, up_ne a7, up_ne a6, up_ne a6, y2 c a3 a4 a5, k2 c (by omega), f2 c a1 (by omega)]
    have frP : ∀ c, c ≠ 16 → c ≠ 18 → c ≠ 19 → c ≠ 20 → c ≠ 22 → c ≠ 33 → c ≠ 36 → lc_up (lc_up (lc_up (lc_up (lc_up M3 20 1 0) 20 2 0) 22 2 0) 33 3 0) 36 3 0 c = M2 c := fun c a3 a4 a5 a6 a7 a8 a9 => by rw [up_ne a9, up_ne a8, up_ne a7, up_ne a6, up_ne a6, y2 c a3 a4 a5]
    refine ⟨lc_up (lc_up (lc_up (lc_up (lc_up M3 20 1 0) 20 2 0) 22 2 0) 33 3 0) 36 3 0, ?_, ?_, fun c hc => fr c (by omega) (by omega) (by omega) (by omega) (by omega) (by omega) (by omega) (by omega) (by omega)⟩
    · rw [sg_75_0_0, f1, lc_bk0, sg_75_0_11, if_pos g1, lc_it_val, k1, lc_bk0, sg_75_0_43, y1, lc_bk0, sg_75_0_50, sg_66_0_0, lc_bk0, sg_75_0_57, sg_13_0_0, lc_bk0, sg_75_0_64, sg_25_0_0, lc_bk0, sg_75_0_71, sg_25_1_0, lc_bk0, sg_75_0_78, frP 9 (by decide) (by decide) (by decide) (by decide) (by decide) (by decide) (by decide), k3.2.2.1]
    · have c16 : lc_up (lc_up (lc_up (lc_up (lc_up M3 20 1 0) 20 2 0) 22 2 0) 33 3 0) 36 3 0 16 = M3 16 := by rw [up_ne (by decide), up_ne (by decide), up_ne (by decide), up_ne (by decide), up_ne (by decide)]
      have c18 : lc_up (lc_up (lc_up (lc_up (lc_up M3 20 1 0) 20 2 0) 22 2 0) 33 3 0) 36 3 0 18 = M3 18 := by rw [up_ne (by decide), up_ne (by decide), up_ne (by decide), up_ne (by decide), up_ne (by decide)]
      have c19 : lc_up (lc_up (lc_up (lc_up (lc_up M3 20 1 0) 20 2 0) 22 2 0) 33 3 0) 36 3 0 19 = M3 19 := by rw [up_ne (by decide), up_ne (by decide), up_ne (by decide), up_ne (by decide), up_ne (by decide)]
      have c1 : lc_up (lc_up (lc_up (lc_up (lc_up M3 20 1 0) 20 2 0) 22 2 0) 33 3 0) 36 3 0 1 = M1 1 := by rw [frP 1 (by decide) (by decide) (by decide) (by decide) (by decide) (by decide) (by decide), k2 1 (by decide)]
      have e33 : M3 33 = M 33 := by rw [y2 33 (by decide) (by decide) (by decide), k2 33 (by decide), f2 33 (by decide) (by decide)]
      have e36 : M3 36 = M 36 := by rw [y2 36 (by decide) (by decide) (by decide), k2 36 (by decide), f2 36 (by decide) (by decide)]
      refine ⟨patC_fr k3 (fun c c1 c2 => frP c (by omega) (by omega) (by omega) (by omega) (by omega) (by omega) (by omega)), ?_, ?_, ?_, ?_, ?_, ?_, ?_, ?_⟩
      · rw [c16, c18, c19, y3, y4, y5, y6]
        exact ⟨rfl, bits0 (fun x _ z => absurd (show (0 : Nat) = 1 from z) (by decide)), bits0 (fun x _ z => absurd (show (0 : Nat) = 2 from z) (by decide)), bits0 (fun m _ ⟨x, _, z, _⟩ => absurd (show (0 : Nat) = 1 from z) (by decide)), fun x _ z => absurd (show (0 : Nat) = 0 from rfl) z, fun m hm => (y7 m hm).1, fun m hm => (y7 m hm).2⟩
      · exact ⟨0, by decide, rfl, rfl, fun j r hj => by cases hj⟩
      · exact ⟨bits0 (fun i _ z => by cases z), fun i r q _ z => by cases z⟩
      · exact ⟨by rw [c1]; exact f3, fun j c hj => by cases hj⟩
      · rw [c1]; exact g2
      · exact ⟨(show lc_up (lc_up (lc_up (lc_up (lc_up M3 20 1 0) 20 2 0) 22 2 0) 33 3 0) 36 3 0 33 0 = M3 33 0 from rfl).trans (by rw [e33]; exact r7.1), rfl, fun j x y hj => by cases hj⟩
      · exact ⟨(show lc_up (lc_up (lc_up (lc_up (lc_up M3 20 1 0) 20 2 0) 22 2 0) 33 3 0) 36 3 0 36 0 = M3 36 0 from rfl).trans (by rw [e36]; exact r8.1), rfl, fun j x y hj => by cases hj⟩
      · rw [fr 0 (by decide) (by decide) (by decide) (by decide) (by decide) (by decide) (by decide) (by decide) (by decide)]; exact r9
/-! the reference takes what was told -/
theorem v_take1 {d : Nat} : ∀ (k i : Nat) (M : lc_M), i + k = 6 → ∃ M', lc_val d 130 34 [.ref 43, .int (nI i)] [] lc_SH M = lc_val d 130 80 [.ref 43, .int 0] [] lc_SH M' ∧ (∀ c, c ≠ 44 → c ≠ 46 → M' c = M c) ∧ (∀ j, M' 46 j = if i ≤ j ∧ j < 6 then M 46 (6 + j) else M 46 j) ∧ ∀ j, M' 44 j = if i ≤ j ∧ j < 6 then nI j else if 6 + i ≤ j ∧ j < 12 then 0 else M 44 j
  | 0, i, M, h => by
    obtain rfl : i = 6 := by omega
    refine ⟨M, ?_, fun _ _ _ => rfl, fun j => by rw [if_neg (by omega)], fun j => by rw [if_neg (by omega), if_neg (by omega)]⟩
    rw [sg_130_0_34, if_pos (by decide)]
  | k + 1, i, M, h => by
    have h6 : (6 : Int32) + nI i = nI (6 + i) := nI_add 6 i
    obtain ⟨M', e1, e2, e3, e4⟩ := v_take1 (d := d) k (i + 1) (lc_up (lc_up (lc_up M 46 i (M 46 (6 + i))) 44 i (nI i)) 44 (6 + i) 0) (by omega)
    refine ⟨M', ?_, fun c a1 a2 => by rw [e2 c a1 a2, up_ne a1, up_ne a1, up_ne a2], fun j => ?_, fun j => ?_⟩
    · rw [sg_130_0_34, if_neg (show ¬ (6 : Int32) ≤ nI i from nI_ge (b := 6) (by omega) (by decide)), lc_it_val, sg_130_0_40, h6, if_pos (nI_in (by omega) (by decide)), if_pos (nI_in (by omega) (by decide)), nI_clamp (by omega), nI_clamp (by omega), sg_130_0_55, if_pos (nI_in (by omega) (by decide)), nI_clamp (by omega), sg_130_0_62, h6, if_pos (nI_in (by omega) (by decide)), nI_clamp (by omega), nI_1]
      exact e1
    · have u : ∀ x, lc_up (lc_up (lc_up M 46 i (M 46 (6 + i))) 44 i (nI i)) 44 (6 + i) 0 46 x = if x = i then M 46 (6 + i) else M 46 x := fun x => by rw [up_ne (by decide), up_ne (by decide), up_at, if_pos rfl]
      rw [e3, u, u]
      by_cases e : j = i
      · rw [if_neg (by omega), if_pos e, if_pos (by omega), e]
      · rw [if_neg e]
        by_cases q : i + 1 ≤ j ∧ j < 6
        · rw [if_pos q, if_neg (by omega), if_pos (by omega)]
        · rw [if_neg q, if_neg (by omega)]
    · have u : ∀ x, lc_up (lc_up (lc_up M 46 i (M 46 (6 + i))) 44 i (nI i)) 44 (6 + i) 0 44 x = if x = 6 + i then 0 else if x = i then nI i else M 44 x := fun x => by rw [up_at, if_pos rfl, up_at, if_pos rfl, up_ne (by decide)]
      rw [e4, u]
      by_cases e : j = i
      · rw [if_neg (by omega), if_neg (by omega), if_neg (by omega), if_pos e, if_pos (by omega), e]
      · by_cases e' : j = 6 + i
        · rw [if_neg (by omega), if_neg (by omega), if_pos e', if_neg (by omega), if_pos (by omega)]
        · rw [if_neg e', if_neg e]
          by_cases q : i + 1 ≤ j ∧ j < 6
          · rw [if_pos q, if_pos (by omega)]
          · rw [if_neg q, if_neg (show ¬ (i ≤ j ∧ j < 6) by omega)]
            by_cases q2 : 6 + (i + 1) ≤ j ∧ j < 12
            · rw [if_pos q2, if_pos (by omega)]
            · rw [if_neg q2, if_neg (by omega)]
def sh8 (f g : Nat → Int32) (i : Nat) : Prop := ∀ j, f j = if i ≤ j ∧ j < 8 then g (8 + j) else g j
theorem sh8_step {f g g' : Nat → Int32} {i : Nat} (hi : i < 8) (h : sh8 f g' (i + 1)) (u : ∀ x, g' x = if x = i then g (8 + i) else g x) : sh8 f g i := fun j => by
  rw [h j, u, u]
  by_cases e : j = i
  · rw [if_neg (by omega), if_pos e, if_pos (by omega), e]
  · rw [if_neg e]
    by_cases q : i + 1 ≤ j ∧ j < 8
    · rw [if_pos q, if_neg (by omega), if_pos (by omega)]
    · rw [if_neg q, if_neg (by omega)]
theorem v_take2 {d : Nat} : ∀ (k i : Nat) (M : lc_M), i + k = 8 → ∃ M', lc_val d 130 80 [.ref 43, .int (nI i)] [] lc_SH M = lc_val d 130 172 [.ref 43, .int 8] [] lc_SH M' ∧ (∀ c, c ≠ 44 → (c < 47 ∨ 50 < c) → M' c = M c) ∧ (sh8 (M' 47) (M 47) i ∧ sh8 (M' 48) (M 48) i ∧ sh8 (M' 49) (M 49) i ∧ sh8 (M' 50) (M 50) i) ∧ ∀ j, M' 44 j = if 12 + i ≤ j ∧ j < 20 then 0 else if 20 + i ≤ j ∧ j < 28 then -1 else M 44 j
  | 0, i, M, h => by
    obtain rfl : i = 8 := by omega
    refine ⟨M, ?_, fun _ _ _ => rfl, ⟨fun j => by rw [if_neg (by omega)], fun j => by rw [if_neg (by omega)], fun j => by rw [if_neg (by omega)], fun j => by rw [if_neg (by omega)]⟩, fun j => by rw [if_neg (by omega), if_neg (by omega)]⟩
    rw [sg_130_0_80, if_pos (by decide)]
    rfl
  | k + 1, i, M, h => by
    have h8 : (8 : Int32) + nI i = nI (8 + i) := nI_add 8 i
    have h12 : (12 : Int32) + nI i = nI (12 + i) := nI_add 12 i
    have h20 : (20 : Int32) + nI i = nI (20 + i) := nI_add 20 i
    generalize hK : lc_up (lc_up (lc_up (lc_up (lc_up (lc_up M 47 i (M 47 (8 + i))) 48 i (M 48 (8 + i))) 49 i (M 49 (8 + i))) 50 i (M 50 (8 + i))) 44 (12 + i) 0) 44 (20 + i) (-1) = K
    obtain ⟨M', e1, e2, ⟨s1, s2, s3, s4⟩, e4⟩ := v_take2 (d := d) k (i + 1) K (by omega)
    have hKc : ∀ c, c ≠ 44 → (c < 47 ∨ 50 < c) → K c = M c := fun c a1 a2 => by rw [← hK, up_ne a1, up_ne a1, up_ne (by omega), up_ne (by omega), up_ne (by omega), up_ne (by omega)]
    refine ⟨M', ?_, fun c a1 a2 => by rw [e2 c a1 a2, hKc c a1 a2], ⟨sh8_step (by omega) s1 (fun x => ?_), sh8_step (by omega) s2 (fun x => ?_), sh8_step (by omega) s3 (fun x => ?_), sh8_step (by omega) s4 (fun x => ?_)⟩, fun j => ?_⟩
    · rw [sg_130_0_80, if_neg (show ¬ (8 : Int32) ≤ nI i from nI_ge (b := 8) (by omega) (by decide)), sg_130_0_86, h8, if_pos (nI_in (by omega) (by decide)), if_pos (nI_in (by omega) (by decide)), nI_clamp (by omega), nI_clamp (by omega), sg_130_0_101, h8, if_pos (nI_in (by omega) (by decide)), if_pos (nI_in (by omega) (by decide)), nI_clamp (by omega), nI_clamp (by omega), sg_130_0_116, h8, if_pos (nI_in (by omega) (by decide)), if_pos (nI_in (by omega) (by decide)), nI_clamp (by omega), nI_clamp (by omega), sg_130_0_131, h8, if_pos (nI_in (by omega) (by decide)), if_pos (nI_in (by omega) (by decide)), nI_clamp (by omega), nI_clamp (by omega), sg_130_0_146, h12, if_pos (nI_in (by omega) (by decide)), nI_clamp (by omega), sg_130_0_156, h20, if_pos (nI_in (by omega) (by decide)), nI_clamp (by omega), nI_1]
      rw [up_ne (c := 48) (by decide), up_ne (c := 49) (by decide), up_ne (c := 49) (by decide), up_ne (c := 50) (by decide), up_ne (c := 50) (by decide), up_ne (c := 50) (by decide), hK]
      exact e1
    · rw [← hK, up_ne (by decide), up_ne (by decide), up_ne (by decide), up_ne (by decide), up_ne (by decide), up_at, if_pos rfl]
    · rw [← hK, up_ne (by decide), up_ne (by decide), up_ne (by decide), up_ne (by decide), up_at, if_pos rfl, up_ne (by decide)]
    · rw [← hK, up_ne (by decide), up_ne (by decide), up_ne (by decide), up_at, if_pos rfl, up_ne (by decide), up_ne (by decide)]
    · rw [← hK, up_ne (by decide), up_ne (by decide), up_at, if_pos rfl, up_ne (by decide), up_ne (by decide), up_ne (by decide)]
    · have u : ∀ x, K 44 x = if x = 20 + i then -1 else if x = 12 + i then 0 else M 44 x := fun x => by rw [← hK, up_at, if_pos rfl, up_at, if_pos rfl, up_ne (by decide), up_ne (by decide), up_ne (by decide), up_ne (by decide)]
      rw [e4, u]
      by_cases e : j = 12 + i
      · rw [if_neg (by omega), if_neg (by omega), if_neg (by omega), if_pos e, if_pos (by omega)]
      · by_cases e' : j = 20 + i
        · rw [if_neg (by omega), if_neg (by omega), if_pos e', if_neg (by omega), if_pos (by omega)]
        · rw [if_neg e', if_neg e]
          by_cases q : 12 + (i + 1) ≤ j ∧ j < 20
          · rw [if_pos q, if_pos (by omega)]
          · rw [if_neg q, if_neg (show ¬ (12 + i ≤ j ∧ j < 20) by omega)]
            by_cases q2 : 20 + (i + 1) ≤ j ∧ j < 28
            · rw [if_pos q2, if_pos (by omega)]
            · rw [if_neg q2, if_neg (by omega)]
theorem v_takeM {d : Nat} {S : aSt} {D : aPat} {M : lc_M} (hv : vPat D) (hD : patE D M) (h16 : M 43 16 = 0) (h20 : M 43 20 = -1) (h29 : M 44 29 = nI (sS S)) : ∃ M', lc_val d 130 0 [.ref 43, .null] [] lc_SH M = some (none, lc_SH, M') ∧ repM (newS S D) M' ∧ ∀ c, c < 43 → M' c = M c := by
  have hm := hv.2.2.1
  have hx := hv.2.2.2.1
  obtain ⟨q1, q2, q3, q4, q5, q6⟩ := hD
  have q1' : M 43 6 = nI (pLn D) := q1
  have q2' : M 43 7 = nI (pCo D) := q2
  have q3' : M 43 8 = nI (pNm D) := q3
  have q4' : M 43 9 = nI (pNx D) := q4
  generalize hA : lc_up (lc_up (lc_up (lc_up M 43 2 (M 43 6)) 43 3 (M 43 7)) 43 4 (M 43 8)) 43 5 (M 43 9) = A
  have hAc : ∀ c, c ≠ 43 → A c = M c := fun c hc => by rw [← hA, up_ne hc, up_ne hc, up_ne hc, up_ne hc]
  have a2 : A 43 2 = nI (pLn D) := by rw [← hA, ← q1']; rfl
  have a3 : A 43 3 = nI (pCo D) := by rw [← hA, ← q2']; rfl
  have a4 : A 43 4 = nI (pNm D) := by rw [← hA, ← q3']; rfl
  have a5 : A 43 5 = nI (pNx D) := by rw [← hA, ← q4']; rfl
  have a16 : A 43 16 = 0 := by rw [← hA, ← h16]; rfl
  have a20 : A 43 20 = -1 := by rw [← hA, ← h20]; rfl
  obtain ⟨B, b1, b2, b3, b4⟩ := v_take1 (d := d) 6 0 A (by omega)
  obtain ⟨C, c1, c2, ⟨s1, s2, s3, s4⟩, c4⟩ := v_take2 (d := d) 8 0 B (by omega)
  have C43 : C 43 = A 43 := by rw [c2 43 (by decide) (by decide), b2 43 (by decide) (by decide)]
  have C46 : C 46 = B 46 := c2 46 (by decide) (by decide)
  generalize hE : lc_up (lc_up (lc_up (lc_up (lc_up (lc_up C 44 28 0) 43 28 0) 43 32 0) 43 22 0) 45 0 0) 45 1 0 = E
  have hEc : ∀ c, c ≠ 43 → c ≠ 44 → c ≠ 45 → E c = C c := fun c x1 x2 x3 => by rw [← hE, up_ne x3, up_ne x3, up_ne x1, up_ne x1, up_ne x1, up_ne x2]
  have E43 : ∀ k, k ≠ 22 → k ≠ 28 → k ≠ 32 → E 43 k = A 43 k := fun k x1 x2 x3 => by rw [← hE, up_ne (by decide), up_ne (by decide), up_at, if_pos rfl, if_neg x1, up_at, if_pos rfl, if_neg x3, up_at, if_pos rfl, if_neg x2, up_ne (by decide), C43]
  have E44 : ∀ j, E 44 j = if j = 28 then 0 else C 44 j := fun j => by rw [← hE, up_ne (by decide), up_ne (by decide), up_ne (by decide), up_ne (by decide), up_ne (by decide), up_at, if_pos rfl]
  have B44 : ∀ j, 12 ≤ j → B 44 j = M 44 j := fun j hj => by rw [b4, if_neg (by omega), if_neg (by omega), hAc 44 (by decide)]
  refine ⟨E, ?_, ⟨?_, ?_, ?_, ?_, ?_, ?_, ?_, ?_, ?_⟩, fun c hc => by rw [hEc c (by omega) (by omega) (by omega), c2 c (by omega) (by omega), b2 c (by omega) (by omega), hAc c (by omega)]⟩
  · rw [sg_130_0_0, hA, show (.int 0 : Value) = .int (nI 0) from rfl, b1, show (.int 0 : Value) = .int (nI 0) from rfl, c1, sg_130_0_172, sg_130_0_190, sg_130_0_202, hE]
  · refine ⟨(E43 2 (by decide) (by decide) (by decide)).trans a2, (E43 3 (by decide) (by decide) (by decide)).trans a3, (E43 4 (by decide) (by decide) (by decide)).trans a4, (E43 5 (by decide) (by decide) (by decide)).trans a5, fun m hmm => ?_, fun x hxx => ?_⟩
    · have hmm' : m < pNm D := hmm
      rw [hEc 46 (by decide) (by decide) (by decide), C46, b3, if_pos (by omega), hAc 46 (by decide)]
      exact q5 m hmm
    · have hxx' : x < pNx D := hxx
      obtain ⟨y1, y2, y3, y4⟩ := q6 x hxx
      refine ⟨?_, ?_, ?_, ?_⟩
      · rw [hEc 47 (by decide) (by decide) (by decide), s1 x, if_pos (by omega), b2 47 (by decide) (by decide), hAc 47 (by decide)]; exact y1
      · rw [hEc 48 (by decide) (by decide) (by decide), s2 x, if_pos (by omega), b2 48 (by decide) (by decide), hAc 48 (by decide)]; exact y2
      · rw [hEc 49 (by decide) (by decide) (by decide), s3 x, if_pos (by omega), b2 49 (by decide) (by decide), hAc 49 (by decide)]; exact y3
      · rw [hEc 50 (by decide) (by decide) (by decide), s4 x, if_pos (by omega), b2 50 (by decide) (by decide), hAc 50 (by decide)]; exact y4
  · refine ⟨fun m hmm => ?_, fun m hmm => ?_, fun x hxx => ?_, fun x hxx => ?_, ?_⟩
    · rw [E44, if_neg (by omega), c4, if_neg (by omega), if_neg (by omega), b4, if_pos (by omega), Nat.zero_add]
      rfl
    · rw [E44, if_neg (by omega), c4, if_neg (by omega), if_neg (by omega), b4, if_neg (by omega), if_pos (by omega)]
      rfl
    · have hxx' : x < pNx D := hxx
      rw [E44, if_neg (by omega), c4, if_pos (by omega)]
      rfl
    · have hxx' : x < pNx D := hxx
      rw [E44, if_neg (by omega), c4, if_neg (by omega), if_pos (by omega)]
      rfl
    · rw [E44, if_pos rfl]
      rfl
  · exact ⟨by rw [← hE]; rfl, fun j r hj => by cases hj⟩
  · refine ⟨fun i hi => ?_, fun i r q _ z => by cases z⟩
    show E 45 i = 0
    rw [← hE]
    by_cases e : i = 0
    · rw [e]; rfl
    · obtain rfl : i = 1 := by omega
      rfl
  · exact ⟨(E43 16 (by decide) (by decide) (by decide)).trans a16, fun j c hj => by cases hj⟩
  · exact (E43 20 (by decide) (by decide) (by decide)).trans a20
  · exact ⟨by rw [← hE]; rfl, fun j x y hj => by cases hj⟩
  · exact ⟨by rw [← hE]; rfl, fun j x y hj => by cases hj⟩
  · rw [E44, if_neg (by decide), c4, if_neg (by decide), if_neg (by decide), B44 29 (by decide)]
    exact h29
theorem patE_16 {D : aPat} {M : lc_M} {v : Int32} (h : patE D M) : patE D (lc_up M 43 16 v) := by
  have u : ∀ k, k ≠ 16 → lc_up M 43 16 v 43 k = M 43 k := fun k hk => by rw [up_at, if_pos rfl, if_neg hk]
  unfold patE at h ⊢
  rw [up_ne (c := 46) (by decide), up_ne (c := 47) (by decide), up_ne (c := 48) (by decide), up_ne (c := 49) (by decide), up_ne (c := 50) (by decide)]
  obtain ⟨q1, q2, q3, q4, q5⟩ := h
  exact ⟨(u 6 (by decide)).trans q1, (u 7 (by decide)).trans q2, (u 8 (by decide)).trans q3, (u 9 (by decide)).trans q4, q5⟩
theorem v_townM {n : Nat} {S : aSt} {t : Nat → Nat} {L : Nat} {M : lc_M} (hv : vSt n S) (hL : L ≤ 200) (ht : ∀ j, j < L → t j ≤ 255) (hx : txM t L M) (hM : repM S M) : (match paP t L 200 D0 0 with
    | .inl e => ∃ M', lc_val 8 129 0 [.ref 43] [] lc_SH M = some (some (.int ((-10) - nI e.1)), lc_SH, M') ∧ repM (errS S e.2) M' ∧ ∀ c, c < 43 → M' c = M c
    | .inr D => ∃ M', lc_val 8 129 0 [.ref 43] [] lc_SH M = some (some (.int (nI (pNm D))), lc_SH, M') ∧ repM (newS S D) M' ∧ ∀ c, c < 43 → M' c = M c) := by
  have h8 := hv.1.2.2.2.1
  have h6 := hv.1.2.2.1
  have hok := paP_ok (t := t) (L := L) 200 D0 0 vPat_D0 (Nat.zero_le _)
  generalize hA : lc_up (lc_up (lc_up (lc_up (lc_up (lc_up (lc_up M 43 17 0) 43 19 0) 43 20 (-1)) 43 6 0) 43 7 0) 43 8 0) 43 9 0 = A
  have frA : frT A M := by rw [← hA]; exact frT_trans (frT_43 (by decide)) (frT_trans (frT_43 (by decide)) (frT_trans (frT_43 (by decide)) (frT_trans (frT_43 (by decide)) (frT_trans (frT_43 (by decide)) (frT_trans (frT_43 (by decide)) (frT_43 (by decide)))))))
  have rmA : RM t L 0 A := ⟨⟨(frA.2.1 16 (by decide)).trans hx.1, fun j hj => by rw [frA.1 51 (by decide) (by decide)]; exact hx.2 j hj⟩, by rw [← hA]; rfl, by rw [← hA]; rfl, by rw [← hA]; rfl⟩
  have pdA : patE D0 A := by
    rw [← hA]
    exact ⟨rfl, rfl, rfl, rfl, fun m hm => absurd hm (Nat.not_lt_zero m), fun x hx => absurd hx (Nat.not_lt_zero x)⟩
  obtain ⟨B, f1, f2, f3⟩ := v_loM (d := 3) hL ht 200 0 D0 A (by omega) (by omega) vPat_D0 rmA pdA
  have frB : frT B M := frT_trans f2 frA
  have pre : lc_val 8 129 0 [.ref 43] [] lc_SH M = lc_val 8 129 99 [.ref 43] [] lc_SH B := by
    rw [sg_129_0_0, hA]
    exact f1
  have u : ∀ k, lc_up B 43 16 0 43 k = if k = 16 then 0 else B 43 k := fun k => by rw [up_at, if_pos rfl]
  have uc : ∀ c, c ≠ 43 → lc_up B 43 16 0 c = B c := fun c hc => up_ne hc
  cases hp : paP t L 200 D0 0 with
  | inl e =>
    rw [hp] at f3 hok
    obtain ⟨g1, g2⟩ := f3
    obtain ⟨o1, o2, o3⟩ := hok
    refine ⟨lc_up B 43 16 0, ?_, ?_, fun c hc => by rw [uc c (by omega), frB.1 c (by omega) (by omega)]⟩
    · rw [pre, sg_129_0_99, g1, if_neg (nI_nle (by omega) (by omega))]
    · obtain ⟨r1, r2, r3, r4, r5, r6, r7, r8, r9⟩ := hM
      have e43 : ∀ k, (k < 6 ∨ (9 < k ∧ k < 16) ∨ 20 < k) → lc_up B 43 16 0 43 k = M 43 k := fun k hk => by rw [u, if_neg (by omega), frB.2.1 k (by omega)]
      have ec : ∀ c, c ≠ 43 → (c < 46 ∨ 50 < c) → lc_up B 43 16 0 c = M c := fun c h1 h2 => by rw [uc c h1, frB.1 c h1 h2]
      obtain ⟨z1, z2, z3, z4, z5, z6⟩ := r1
      refine ⟨⟨(e43 2 (by decide)).trans z1, (e43 3 (by decide)).trans z2, (e43 4 (by decide)).trans z3, (e43 5 (by decide)).trans z4, fun m hm => ?_, fun x hxx => ?_⟩, ?_, ⟨?_, ?_⟩, ⟨?_, ?_⟩, ⟨?_, fun j c hj => by cases hj⟩, ?_, ?_, ?_, ?_⟩
      · have hm' : m < pNm (sP S) := hm
        rw [uc 46 (by decide), frB.2.2.1 m (by omega)]; exact z5 m hm
      · have hx' : x < pNx (sP S) := hxx
        obtain ⟨w1, w2, w3, w4⟩ := frB.2.2.2 x (by omega)
        rw [uc 47 (by decide), uc 48 (by decide), uc 49 (by decide), uc 50 (by decide), w1, w2, w3, w4]
        exact z6 x hxx
      · rw [ec 44 (by decide) (by decide)]; exact r2
      · rw [e43 22 (by decide)]; exact r3.1
      · rw [ec 44 (by decide) (by decide)]; exact r3.2
      · rw [ec 45 (by decide) (by decide)]; exact r4.1
      · rw [ec 44 (by decide) (by decide)]; exact r4.2
      · rw [u, if_pos rfl]; rfl
      · rw [u, if_neg (by decide)]; exact g2
      · rw [e43 28 (by decide), ec 54 (by decide) (by decide), ec 55 (by decide) (by decide)]; exact r7
      · rw [e43 32 (by decide), ec 57 (by decide) (by decide), ec 58 (by decide) (by decide)]; exact r8
      · rw [ec 44 (by decide) (by decide)]; exact r9
  | inr D =>
    rw [hp] at f3 hok
    obtain ⟨g1, g2, g3⟩ := f3
    have pdU : patE D (lc_up B 43 16 0) := patE_16 g3
    obtain ⟨E, e1, e2, e3⟩ := v_takeM (d := 7) (S := S) (M := lc_up B 43 16 0) hok pdU (by rw [u, if_pos rfl]) (by rw [u, if_neg (by decide)]; exact g2) (by rw [uc 44 (by decide), frB.1 44 (by decide) (by decide)]; exact hM.2.2.2.2.2.2.2.2)
    refine ⟨E, ?_, e2, fun c hc => by rw [e3 c hc, uc c (by omega), frB.1 c (by omega) (by omega)]⟩
    rw [pre, sg_129_0_99, g1, if_pos (by decide), lc_it_val, e1, lc_bk0, sg_129_0_123, show E 43 4 = nI (pNm D) from e2.1.2.2.1]
theorem op_town : opOK 75 129 [] := by
  intro n S hn hv
  have hL : (sX S).length ≤ 200 := hv.2.2.2.2.1.1
  have htx : ∀ j, j < (sX S).length → (sX S)[j]? = some ((sX S).getD j 0) := fun j hj => by
    rw [List.getD_eq_getElem?_getD, List.getElem?_eq_getElem hj]
    rfl
  have ht : ∀ j, j < (sX S).length → (fun j => (sX S).getD j 0) j ≤ 255 := fun j hj => hv.2.2.2.2.1.2 _ (List.mem_of_getElem? (htx j hj))
  have hok := paP_ok (t := fun j => (sX S).getD j 0) (L := (sX S).length) 200 D0 0 vPat_D0 (Nat.zero_le _)
  have hC : ∀ M, repC S M → txC (fun j => (sX S).getD j 0) (sX S).length M := fun M hM => ⟨hM.2.2.2.2.1.1, fun j hj => hM.2.2.2.2.1.2 j _ (htx j hj)⟩
  have hMm : ∀ M, repM S M → txM (fun j => (sX S).getD j 0) (sX S).length M := fun M hM => ⟨hM.2.2.2.2.1.1, fun j hj => hM.2.2.2.2.1.2 j _ (htx j hj)⟩
  cases hp : paP (fun j => (sX S).getD j 0) (sX S).length 200 D0 0 with
  | inl e =>
    refine ⟨(-10) - nI e.1, errS S e.2, vSt_err hv, fun M hM => ?_, fun M hM => ?_⟩
    · have := v_townC hv hL ht (hC M hM) hM
      rw [hp] at this
      exact this
    · have := v_townM hv hL ht (hMm M hM) hM
      rw [hp] at this
      exact this
  | inr D =>
    rw [hp] at hok
    refine ⟨nI (pNm D), newS S D, vSt_new hv hok, fun M hM => ?_, fun M hM => ?_⟩
    · have := v_townC hv hL ht (hC M hM) hM
      rw [hp] at this
      exact this
    · have := v_townM hv hL ht (hMm M hM) hM
      rw [hp] at this
      exact this
