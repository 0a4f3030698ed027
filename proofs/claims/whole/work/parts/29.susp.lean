/-! the suspects: which calls went wrong, which surely, which pin to look at -/
def onK (s : Nat) : Nat → Nat
  | 0 => 0
  | x + 1 => onK s x + (if Nat.testBit s x = true then 1 else 0)
def on8 (s : Nat) : Nat := onK s 8
def bcA (a0 : Int32) : Int32 := (((a0 - ((((Int32.toUInt32 a0) >>> ((Int32.toUInt32 1) &&& Int32.toUInt32 31)).toInt32) &&& 1431655765)) &&& 858993459) + ((((Int32.toUInt32 (a0 - ((((Int32.toUInt32 a0) >>> ((Int32.toUInt32 1) &&& Int32.toUInt32 31)).toInt32) &&& 1431655765))) >>> ((Int32.toUInt32 2) &&& Int32.toUInt32 31)).toInt32) &&& 858993459))
def bcB (x0 : Int32) : Int32 := (((x0 + (((Int32.toUInt32 x0) >>> ((Int32.toUInt32 4) &&& Int32.toUInt32 31)).toInt32)) &&& 252645135) + (((Int32.toUInt32 ((x0 + (((Int32.toUInt32 x0) >>> ((Int32.toUInt32 4) &&& Int32.toUInt32 31)).toInt32)) &&& 252645135)) >>> ((Int32.toUInt32 8) &&& Int32.toUInt32 31)).toInt32))
def bcC (x0 : Int32) : Int32 := ((x0 + (((Int32.toUInt32 x0) >>> ((Int32.toUInt32 16) &&& Int32.toUInt32 31)).toInt32)) &&& 63)
theorem bc8 : ∀ s, s < 256 → bcC (bcB (bcA (nI s))) = nI (on8 s) := by decide +kernel
theorem on8_le : ∀ s, s < 256 → on8 s ≤ 8 := by decide +kernel
theorem v_bits {d s : Nat} {M : lc_M} (hs : s < 256) : lc_val d 189 0 [.int (nI s)] [] lc_SH M = some (some (.int (nI (on8 s))), lc_SH, M) := by
  rw [sg_189_0_0, sg_189_0_24, sg_189_0_41]
  exact congrArg (fun z => some (some (Value.int z), lc_SH, M)) (bc8 s hs)
theorem v_onesL {d s : Nat} {M : lc_M} (hs : s < 256) : ∀ (k x : Nat), x + k = 8 → lc_val d 119 4 [.int (nI s), .int (nI (onK s x)), .int (nI x)] [] lc_SH M = some (some (.int (nI (on8 s))), lc_SH, M)
  | 0, x, h => by
    rw [sg_119_0_4, if_pos (show (8 : Int32) ≤ nI x from nI_le (a := 8) (by omega) (by omega)), show x = 8 by omega]
    rfl
  | k + 1, x, h => by
    rw [sg_119_0_4, if_neg (show ¬ (8 : Int32) ≤ nI x from nI_ge (b := 8) (by omega) (by decide)), has_v s hs x (by omega), nI_add, nI_1]
    exact v_onesL hs k (x + 1) (by omega)
theorem v_ones {d s : Nat} {M : lc_M} (hs : s < 256) : lc_val d 119 0 [.int (nI s), .null, .null] [] lc_SH M = some (some (.int (nI (on8 s))), lc_SH, M) := by
  rw [sg_119_0_0]
  exact v_onesL hs 8 0 (by decide)
/-- the pins that lie if the calls of a set went wrong; does it fit -/
abbrev layS (S : aSt) (s : Nat) : Nat → Nat := layP (sP S) (pEar (sP S)) s (pNx (sP S))
def fitB (S : aSt) (s : Nat) : Bool := soB (layS S s) (sL S)
def susB (S : aSt) (w s : Nat) : Bool := decide (on8 s = w) && fitB S s
def susW (S : aSt) (w : Nat) : Nat → Nat → List Nat
  | 0, _ => []
  | k + 1, s => if susB S w s = true then s :: susW S w k (s + 1) else susW S w k (s + 1)
def susU (S : aSt) : Nat → Nat → List Nat
  | 0, _ => []
  | f + 1, w => susW S w (2 ^ pNx (sP S)) 0 ++ susU S f (w + 1)
def susL (S : aSt) : List Nat := susU S 3 0
/-! how many there can be -/
def cntW (w : Nat) : Nat → Nat
  | 0 => 0
  | s + 1 => cntW w s + (if on8 s = w then 1 else 0)
def cwW : Nat → Nat
  | 0 => 0
  | w + 1 => cwW w + cntW w 256
theorem cntW_mono {w s : Nat} : ∀ k, cntW w s ≤ cntW w (s + k)
  | 0 => Nat.le_refl _
  | k + 1 => Nat.le_trans (cntW_mono k) (Nat.le_add_right _ _)
theorem cntW_le {w s : Nat} (h : s ≤ 256) : cntW w s ≤ cntW w 256 := by
  have := cntW_mono (w := w) (s := s) (256 - s)
  rwa [show s + (256 - s) = 256 by omega] at this
theorem cntW_lt {w s : Nat} (h : s < 256) (e : on8 s = w) : cntW w s < cntW w 256 := by
  have := cntW_le (w := w) (s := s + 1) (by omega)
  rw [cntW, if_pos e] at this
  omega
theorem cwW_37 : ∀ w, w < 4 → cwW w ≤ 37 := by decide +kernel
/-! the class's side -/
def susC (S : aSt) (l : List Nat) (M : lc_M) : Prop := M 39 6 = nI l.length ∧ ∀ j s, l[j]? = some s → M 40 j = nI s ∧ ∀ m, m < 6 → M 41 (j * 6 + m) = nI (layS S s m)
theorem v_addFit {S : aSt} {n d s : Nat} {l : List Nat} {M : lc_M} (hv : vSt n S) (hs : s < 256) (hl : l.length < 37) (hM : repC S M) (hS : susC S l M) : ∃ M', lc_val (d + 4) 62 0 [.ref 39, .int (nI s)] [] lc_SH M = some (none, lc_SH, M') ∧ repC S M' ∧ (∀ c, 43 ≤ c → M' c = M c) ∧ susC S (if fitB S s = true then l ++ [s] else l) M' := by
  obtain ⟨M1, f1, f2, f3⟩ := v_lay0 (d := d) (M := M) hv.1 (s := s) hs hM.1 (earsC hv hM)
  have hM1 := repC_31 hM f2
  have hlt : ∀ m, m < 6 → layS S s m < 6 := layP_lt hv.1 _ (Nat.le_refl _)
  have hfo := liesC (d := d + 3) (M := M1) (pin := layS S s) hv hM1.2.2.2.2.2.2.1.2 (fun m hm => ⟨f3 m hm, hlt m hm⟩)
  have hso := fo_so (pin := layS S s) (sL S) 0 (by have := hv.2.2.2.2.2.1.1; omega)
  have h6 : M1 39 6 = nI l.length := by rw [f2 39 (by decide)]; exact hS.1
  have start : lc_val (d + 4) 62 0 [.ref 39, .int (nI s)] [] lc_SH M = lc_val (d + 4) 62 31 [.ref 39, .int (nI s)] [.int (foI (layS S s) (sL S) 0)] lc_SH M1 := by
    rw [sg_62_0_0, sg_70_0_0, f1, lc_bk0, sg_70_0_12, lc_bk0, sg_62_0_8, h6, if_neg (show ¬ (37 : Int32) ≤ nI l.length from nI_ge (b := 37) (by omega) (by decide)), hfo, lc_bk1]
  by_cases q : fitB S s = true
  · refine ⟨lc_up (lc_set (lc_up M1 40 l.length (nI s)) 41 (va_cpy (M1 31) (M1 41) 0 (l.length * 6) 6)) 39 6 (nI (l.length + 1)), ?_, ?_, ?_, ?_⟩
    · have hmul : nI l.length * 6 = nI (l.length * 6) := pk_mul l.length 6
      rw [start, sg_62_0_31, if_neg (fun z => z (hso.mpr q)), lc_it_val, sg_62_0_35, h6, if_pos (nI_in (by omega) (by decide)), nI_clamp (by omega), sg_62_0_45, up_ne (by decide), h6, hmul, nI_clamp (by omega), if_pos ⟨by decide, nI_pos (by omega), by decide, by decide, by omega⟩, up_ne (by decide), up_ne (by decide), nI_1]
    · refine repC_fr hM (fun c hc => ?_)
      unfold keepC at hc
      rw [up_ne (by omega), set_ne (by omega), up_ne (by omega), f2 c (by omega)]
    · intro c hc
      rw [up_ne (by omega), set_ne (by omega), up_ne (by omega), f2 c (by omega)]
    · rw [if_pos q]
      refine ⟨?_, fun j t hj => ?_⟩
      · rw [up_at, if_pos rfl, if_pos rfl, List.length_append]; rfl
      · have h40 : ∀ i, lc_up (lc_set (lc_up M1 40 l.length (nI s)) 41 (va_cpy (M1 31) (M1 41) 0 (l.length * 6) 6)) 39 6 (nI (l.length + 1)) 40 i = if i = l.length then nI s else M 40 i := fun i => by
          rw [up_ne (by decide), set_ne (by decide), up_at, if_pos rfl, f2 40 (by decide)]
        have h41 : ∀ i, lc_up (lc_set (lc_up M1 40 l.length (nI s)) 41 (va_cpy (M1 31) (M1 41) 0 (l.length * 6) 6)) 39 6 (nI (l.length + 1)) 41 i = va_cpy (M1 31) (M 41) 0 (l.length * 6) 6 i := fun i => by
          rw [up_ne (by decide), set_eq, f2 41 (by decide)]
        rcases app_at hj with ⟨h1, h2⟩ | ⟨h1, h2⟩
        · obtain ⟨g1, g2⟩ := hS.2 j t h2
          refine ⟨by rw [h40, if_neg (by omega)]; exact g1, fun m hm => ?_⟩
          rw [h41]
          unfold va_cpy
          rw [if_neg (by omega)]
          exact g2 m hm
        · subst h1; subst h2
          refine ⟨by rw [h40, if_pos rfl], fun m hm => ?_⟩
          rw [h41]
          unfold va_cpy
          rw [if_pos (by omega), show 0 + (l.length * 6 + m - l.length * 6) = m by omega]
          exact f3 m hm
  · refine ⟨M1, ?_, hM1, fun c hc => f2 c (by omega), ?_⟩
    · rw [start, sg_62_0_31, if_pos (fun z => q (hso.mp z))]
    · rw [if_neg q]
      exact ⟨h6, fun j t hj => by rw [f2 40 (by decide), f2 41 (by decide)]; exact hS.2 j t hj⟩
theorem pw256 {n : Nat} (h : n ≤ 8) : 2 ^ n ≤ 256 := Nat.pow_le_pow_right (n := 2) (by decide) h
theorem v_gathW {S : aSt} {n d w : Nat} (hv : vSt n S) (hw : w < 3) : ∀ (k s : Nat) (l : List Nat) (M : lc_M), s + k = 2 ^ pNx (sP S) → l.length ≤ cwW w + cntW w s → repC S M → susC S l M → ∃ M', lc_val (d + 5) 61 14 [.ref 39, .int (nI w), .int (nI s)] [] lc_SH M = lc_val (d + 5) 61 7 [.ref 39, .int (nI (w + 1)), .int (nI (2 ^ pNx (sP S)))] [] lc_SH M' ∧ repC S M' ∧ (∀ c, 43 ≤ c → M' c = M c) ∧ susC S (l ++ susW S w k s) M' ∧ (l ++ susW S w k s).length ≤ cwW w + cntW w (2 ^ pNx (sP S))
  | 0, s, l, M, h, hl, hM, hS => by
    have hnx := hv.1.2.2.2.1
    have hp := pw256 hnx
    refine ⟨M, ?_, hM, fun _ _ => rfl, by rw [susW, List.append_nil]; exact hS, by rw [susW, List.append_nil]; rw [show s = 2 ^ pNx (sP S) by omega] at hl; exact hl⟩
    have := Nat.two_pow_pos (pNx (sP S))
    rw [sg_61_0_14, sg_34_0_0, hM.1.2.2.2.1, full_b _ hnx, lc_bk1, sg_61_0_22, if_pos (nI_lt (by omega) (by omega)), nI_1, show s = 2 ^ pNx (sP S) by omega]
  | k + 1, s, l, M, h, hl, hM, hS => by
    have hnx := hv.1.2.2.2.1
    have hp := pw256 hnx
    have start : lc_val (d + 5) 61 14 [.ref 39, .int (nI w), .int (nI s)] [] lc_SH M = lc_val (d + 5) 61 29 [.ref 39, .int (nI w), .int (nI s)] [.int (nI (on8 s))] lc_SH M := by
      rw [sg_61_0_14, sg_34_0_0, hM.1.2.2.2.1, full_b _ hnx, lc_bk1, sg_61_0_22, if_neg (nI_nlt (by omega) (by omega)), v_bits (by omega), lc_bk1]
    have ho := on8_le s (by omega)
    by_cases q : on8 s = w
    · have hc := cntW_lt (s := s) (by omega) q
      have hc3 := cwW_37 (w + 1) (by omega)
      rw [cwW] at hc3
      obtain ⟨M1, f1, f2, f3, f4⟩ := v_addFit (d := d) (s := s) (l := l) hv (by omega) (by omega) hM hS
      have e2 : (if fitB S s = true then l ++ [s] else l) ++ susW S w k (s + 1) = l ++ susW S w (k + 1) s := by
        rw [susW]
        unfold susB
        by_cases t : fitB S s = true
        · rw [if_pos t, if_pos (by rw [t]; simp [q]), List.append_assoc]; rfl
        · rw [if_neg t, if_neg (by simp [t])]
      obtain ⟨M', g1, g2, g3, g4, g5⟩ := v_gathW (d := d) hv hw k (s + 1) (if fitB S s = true then l ++ [s] else l) M1 (by omega) (by
        rw [cntW, if_pos q]
        split
        · rw [List.length_append]; simp; omega
        · omega) f2 f4
      rw [e2] at g4 g5
      refine ⟨M', ?_, g2, fun c hc => by rw [g3 c hc, f3 c hc], g4, g5⟩
      rw [start, sg_61_0_29, if_neg (fun z => z (by rw [q])), f1, lc_bk0, sg_61_0_38, nI_1]
      exact g1
    · have e2 : l ++ susW S w k (s + 1) = l ++ susW S w (k + 1) s := by
        rw [susW, if_neg (by unfold susB; simp [q])]
      obtain ⟨M', g1, g2, g3, g4, g5⟩ := v_gathW (d := d) hv hw k (s + 1) l M (by omega) (by rw [cntW]; omega) hM hS
      rw [e2] at g4 g5
      refine ⟨M', ?_, g2, g3, g4, g5⟩
      rw [start, sg_61_0_29, if_pos (fun z => q ((nI_eq (by omega) (by omega)).mp z)), lc_it_val, sg_61_0_38, nI_1]
      exact g1
theorem v_gathU {S : aSt} {n d : Nat} (hv : vSt n S) : ∀ (f w : Nat) (v : Value) (l : List Nat) (M : lc_M), w + f = 3 → l.length ≤ cwW w → repC S M → susC S l M → ∃ M', lc_val (d + 5) 61 7 [.ref 39, .int (nI w), v] [] lc_SH M = some (none, lc_SH, M') ∧ repC S M' ∧ (∀ c, 43 ≤ c → M' c = M c) ∧ susC S (l ++ susU S f w) M' ∧ (l ++ susU S f w).length ≤ 37
  | 0, w, v, l, M, h, hl, hM, hS => by
    have := cwW_37 w (by omega)
    refine ⟨M, ?_, hM, fun _ _ => rfl, by rw [susU, List.append_nil]; exact hS, by rw [susU, List.append_nil]; omega⟩
    rw [sg_61_0_7, if_pos (show (2 : Int32) < nI w from nI_lt (a := 2) (by omega) (by omega))]
  | f + 1, w, v, l, M, h, hl, hM, hS => by
    have hnx := hv.1.2.2.2.1
    have hp := pw256 hnx
    obtain ⟨M1, f1, f2, f3, f4, f5⟩ := v_gathW (d := d) (w := w) hv (by omega) (2 ^ pNx (sP S)) 0 l M (by omega) (by omega) hM hS
    have hc := cntW_le (w := w) hp
    obtain ⟨M', g1, g2, g3, g4, g5⟩ := v_gathU (d := d) hv f (w + 1) (.int (nI (2 ^ pNx (sP S)))) _ M1 (by omega) (by rw [cwW]; omega) f2 f4
    rw [List.append_assoc] at g4 g5
    refine ⟨M', ?_, g2, fun c hc => by rw [g3 c hc, f3 c hc], g4, g5⟩
    rw [sg_61_0_7, if_neg (show ¬ (2 : Int32) < nI w from nI_nlt (b := w) (a := 2) (by omega) (by omega))]
    exact f1.trans g1
theorem v_gather {S : aSt} {n d : Nat} {M : lc_M} (hv : vSt n S) (hM : repC S M) : ∃ M', lc_val (d + 5) 61 0 [.ref 39, .null, .null] [] lc_SH M = some (none, lc_SH, M') ∧ repC S M' ∧ (∀ c, 43 ≤ c → M' c = M c) ∧ susC S (susL S) M' ∧ (susL S).length ≤ 37 := by
  have hM0 : repC S (lc_up M 39 6 0) := repC_fr hM (fun c hc => by unfold keepC at hc; rw [up_ne (by omega)])
  obtain ⟨M', g1, g2, g3, g4, g5⟩ := v_gathU (d := d) hv 3 0 .null [] (lc_up M 39 6 0) (by omega) (by decide) hM0 ⟨by rw [up_at, if_pos rfl, if_pos rfl]; rfl, fun j s hj => by cases hj⟩
  refine ⟨M', ?_, g2, fun c hc => by rw [g3 c hc, up_ne (by omega)], g4, g5⟩
  rw [sg_61_0_0]
  exact g1
/-! the reference's side: the next set that fits -/
def hdI : List Nat → Int32
  | [] => -1
  | t :: _ => nI t
def susF (S : aSt) (w k s : Nat) : List Nat := susW S w k s ++ susU S (2 - w) (w + 1)
def sufx (S : aSt) (l : List Nat) : Prop := ∃ f w, w + f = 3 ∧ (l = susU S f w ∨ ∃ k s, 1 ≤ f ∧ s + k = 2 ^ pNx (sP S) ∧ l = susF S w k s)
theorem susW_cons {S : aSt} {w t : Nat} {r : List Nat} : ∀ (k s : Nat), susW S w k s = t :: r → on8 t = w ∧ s ≤ t ∧ t < s + k ∧ r = susW S w (s + k - (t + 1)) (t + 1)
  | 0, s, h => by cases h
  | k + 1, s, h => by
    rw [susW] at h
    by_cases q : susB S w s = true
    · rw [if_pos q] at h
      injection h with h1 h2
      subst h1
      unfold susB at q
      simp at q
      refine ⟨q.1, Nat.le_refl _, by omega, ?_⟩
      rw [show s + (k + 1) - (s + 1) = k by omega]
      exact h2.symm
    · rw [if_neg q] at h
      obtain ⟨h1, h2, h3, h4⟩ := susW_cons k (s + 1) h
      refine ⟨h1, by omega, by omega, ?_⟩
      rw [show s + (k + 1) - (t + 1) = s + 1 + k - (t + 1) by omega]
      exact h4
theorem susU_cons {S : aSt} {t : Nat} {r : List Nat} : ∀ (f w : Nat), w + f = 3 → susU S f w = t :: r → t < 2 ^ pNx (sP S) ∧ on8 t < 3 ∧ r = susF S (on8 t) (2 ^ pNx (sP S) - (t + 1)) (t + 1)
  | 0, w, _, h => by cases h
  | f + 1, w, hf, h => by
    rw [susU] at h
    cases e : susW S w (2 ^ pNx (sP S)) 0 with
    | nil =>
      rw [e, List.nil_append] at h
      exact susU_cons f (w + 1) (by omega) h
    | cons a r' =>
      rw [e, List.cons_append] at h
      injection h with h1 h2
      subst h1
      obtain ⟨g1, g2, g3, g4⟩ := susW_cons _ _ e
      refine ⟨by omega, by omega, ?_⟩
      unfold susF
      rw [← h2, g4, g1, show 2 - w = f by omega, show 0 + 2 ^ pNx (sP S) - (a + 1) = 2 ^ pNx (sP S) - (a + 1) by omega]
theorem sufx_cons {S : aSt} {t : Nat} {r : List Nat} (h : sufx S (t :: r)) : t < 2 ^ pNx (sP S) ∧ on8 t < 3 ∧ r = susF S (on8 t) (2 ^ pNx (sP S) - (t + 1)) (t + 1) ∧ sufx S r := by
  have key : t < 2 ^ pNx (sP S) ∧ on8 t < 3 ∧ r = susF S (on8 t) (2 ^ pNx (sP S) - (t + 1)) (t + 1) := by
    obtain ⟨f, w, hf, h | ⟨k, s, h1, h2, h3⟩⟩ := h
    · exact susU_cons f w hf h.symm
    · unfold susF at h3
      cases e : susW S w k s with
      | nil =>
        rw [e, List.nil_append] at h3
        exact susU_cons (2 - w) (w + 1) (by omega) h3.symm
      | cons a r' =>
        rw [e, List.cons_append] at h3
        injection h3 with g1 g2
        subst g1
        obtain ⟨q1, q2, q3, q4⟩ := susW_cons _ _ e
        refine ⟨by omega, by omega, ?_⟩
        unfold susF
        rw [g2, q4, q1, h2]
  refine ⟨key.1, key.2.1, key.2.2, 3 - on8 t, on8 t, by omega, Or.inr ⟨2 ^ pNx (sP S) - (t + 1), t + 1, by omega, by omega, key.2.2⟩⟩
def mSame (M M' : lc_M) : Prop := (∀ c, c ≠ 44 → c ≠ 56 → M' c = M c) ∧ ∀ j, (j < 30 ∨ 36 ≤ j) → M' 44 j = M 44 j
theorem mSame_rep {S : aSt} {M M' : lc_M} (hx : pNx (sP S) ≤ 8) (h : repM S M) (e : mSame M M') : repM S M' := repM_fr hx h (fun c h1 h2 => e.1 c (by omega) (by omega)) (fun c hc => e.1 c (by omega) (by omega)) (fun k _ => by rw [e.1 43 (by decide) (by decide)]) (fun j hj => e.2 j (by omega))
theorem mSame_tr {M M' M'' : lc_M} (h : mSame M M') (g : mSame M' M'') : mSame M M'' := ⟨fun c h1 h2 => by rw [g.1 c h1 h2, h.1 c h1 h2], fun j hj => by rw [g.2 j hj, h.2 j hj]⟩
theorem v_nextW {S : aSt} {n d w : Nat} {x1 : Int32} (hv : vSt n S) (hw : w < 3) : ∀ (k s : Nat) (x3 : Int32) (M : lc_M), x3 + 1 = nI s → s + k = 2 ^ pNx (sP S) → repM S M → ∃ M', mSame M M' ∧ M' 56 = M 56 ∧ lc_val (d + 4) 176 15 [.ref 43, .int x1, .int (nI w), .int x3] [] lc_SH M = (match susW S w k s with
    | [] => lc_val (d + 4) 176 15 [.ref 43, .int x1, .int (nI (w + 1)), .int (-1)] [] lc_SH M'
    | t :: _ => some (some (.int (nI t)), lc_SH, M'))
  | 0, s, x3, M, h3, h, hM => by
    have hnx := hv.1.2.2.2.1
    have hp := pw256 hnx
    refine ⟨M, ⟨fun _ _ _ => rfl, fun _ _ => rfl⟩, rfl, ?_⟩
    rw [sg_176_0_15, if_neg (show ¬ (3 : Int32) ≤ nI w from nI_ge (b := 3) (by omega) (by decide)), lc_it_val, sg_176_0_20, show M 43 5 = nI (pNx (sP S)) from hM.1.2.2.2.1, shl_1 _ (by omega), h3, if_neg (nI_nlt (by omega) (by omega)), nI_1]
    rfl
  | k + 1, s, x3, M, h3, h, hM => by
    have hnx := hv.1.2.2.2.1
    have hp := pw256 hnx
    have ho := on8_le s (by omega)
    have start : lc_val (d + 4) 176 15 [.ref 43, .int x1, .int (nI w), .int x3] [] lc_SH M = lc_val (d + 4) 176 45 [.ref 43, .int x1, .int (nI w), .int (nI s)] [.int (nI (on8 s))] lc_SH M := by
      rw [sg_176_0_15, if_neg (show ¬ (3 : Int32) ≤ nI w from nI_ge (b := 3) (by omega) (by decide)), lc_it_val, sg_176_0_20, show M 43 5 = nI (pNx (sP S)) from hM.1.2.2.2.1, shl_1 _ (by omega), h3, if_pos (nI_lt (by omega) (by omega)), lc_it_val, v_ones (by omega), lc_bk1]
    rw [start, sg_176_0_45, susW]
    by_cases q : on8 s = w
    · obtain ⟨M1, f1, f2, f3, f4⟩ := v_layM (d := d + 1) (M := M) hv.1 (s := s) (by omega) (mPat_3 hM.1) (earsM hv hM)
      have hm1 : mSame M M1 := ⟨fun c h1 _ => f2 c h1, f3⟩
      have hM1 := mSame_rep hnx hM hm1
      have hlt : ∀ m, m < 6 → layS S s m < 6 := layP_lt hv.1 _ (Nat.le_refl _)
      have hso := liesM (d := d + 3) (M := M1) (pin := layS S s) hv hM1.2.2.2.2.2.2.1 (fun m hm => ⟨f4 m hm, hlt m hm⟩)
      rw [if_neg (fun z => z (by rw [q])), f1, lc_bk0, sg_176_0_54, hso, lc_bk1, sg_176_0_58]
      by_cases t : fitB S s = true
      · refine ⟨M1, hm1, f2 56 (by decide), ?_⟩
        rw [if_pos (show soB (layS S s) (sL S) = true from t), if_neg (by decide), if_pos (by unfold susB; simp [q, t])]
      · obtain ⟨M', g1, g2, g3⟩ := v_nextW (d := d) (x1 := x1) hv hw k (s + 1) (nI s) M1 (nI_1 s) (by omega) hM1
        refine ⟨M', mSame_tr hm1 g1, by rw [g2, f2 56 (by decide)], ?_⟩
        rw [if_neg (show ¬ soB (layS S s) (sL S) = true from t), if_pos (by decide), lc_it_val, if_neg (by unfold susB; simp [t])]
        exact g3
    · obtain ⟨M', g1, g2, g3⟩ := v_nextW (d := d) (x1 := x1) hv hw k (s + 1) (nI s) M (nI_1 s) (by omega) hM
      refine ⟨M', g1, g2, ?_⟩
      rw [if_pos (fun z => q ((nI_eq (by omega) (by omega)).mp z)), lc_it_val, if_neg (by unfold susB; simp [q])]
      exact g3
theorem v_nextU {S : aSt} {n d : Nat} {x1 : Int32} (hv : vSt n S) : ∀ (f w : Nat) (M : lc_M), w + f = 3 → repM S M → ∃ M', mSame M M' ∧ M' 56 = M 56 ∧ lc_val (d + 4) 176 15 [.ref 43, .int x1, .int (nI w), .int (-1)] [] lc_SH M = some (some (.int (hdI (susU S f w))), lc_SH, M')
  | 0, w, M, h, hM => by
    refine ⟨M, ⟨fun _ _ _ => rfl, fun _ _ => rfl⟩, rfl, ?_⟩
    rw [sg_176_0_15, if_pos (show (3 : Int32) ≤ nI w from nI_le (a := 3) (by omega) (by omega))]
    rfl
  | f + 1, w, M, h, hM => by
    have hnx := hv.1.2.2.2.1
    obtain ⟨M1, f1, f2, f3⟩ := v_nextW (d := d) (w := w) (x1 := x1) hv (by omega) (2 ^ pNx (sP S)) 0 (-1) M (by decide) (by omega) hM
    rw [f3, susU]
    cases e : susW S w (2 ^ pNx (sP S)) 0 with
    | nil =>
      obtain ⟨M', g1, g2, g3⟩ := v_nextU (d := d) (x1 := x1) hv f (w + 1) M1 (by omega) (mSame_rep hnx hM f1)
      exact ⟨M', mSame_tr f1 g1, by rw [g2, f2], g3⟩
    | cons t r => exact ⟨M1, f1, f2, rfl⟩
theorem v_next0 {S : aSt} {n d : Nat} {M : lc_M} (hv : vSt n S) (hM : repM S M) : ∃ M', mSame M M' ∧ M' 56 = M 56 ∧ lc_val (d + 4) 176 0 [.ref 43, .int (-1), .null, .null] [] lc_SH M = some (some (.int (hdI (susL S))), lc_SH, M') := by
  obtain ⟨M', g1, g2, g3⟩ := v_nextU (d := d) (x1 := -1) hv 3 0 M (by omega) hM
  refine ⟨M', g1, g2, ?_⟩
  rw [sg_176_0_0, if_neg (by decide), sg_176_0_12]
  exact g3
theorem v_next1 {S : aSt} {n d t : Nat} {r : List Nat} {M : lc_M} (hv : vSt n S) (hM : repM S M) (hl : sufx S (t :: r)) : ∃ M', mSame M M' ∧ M' 56 = M 56 ∧ lc_val (d + 4) 176 0 [.ref 43, .int (nI t), .null, .null] [] lc_SH M = some (some (.int (hdI r)), lc_SH, M') := by
  have hnx := hv.1.2.2.2.1
  have hp := pw256 hnx
  obtain ⟨h1, h2, h3, _⟩ := sufx_cons hl
  obtain ⟨M1, f1, f2, f3⟩ := v_nextW (d := d) (w := on8 t) (x1 := nI t) hv h2 (2 ^ pNx (sP S) - (t + 1)) (t + 1) (nI t) M (nI_1 t) (by omega) hM
  have start : lc_val (d + 4) 176 0 [.ref 43, .int (nI t), .null, .null] [] lc_SH M = lc_val (d + 4) 176 15 [.ref 43, .int (nI t), .int (nI (on8 t)), .int (nI t)] [] lc_SH M := by
    rw [sg_176_0_0, if_pos (nI_pos' (by omega)), v_ones (by omega), lc_bk1, sg_176_0_12]
  rw [start, f3, h3]
  unfold susF
  cases e : susW S (on8 t) (2 ^ pNx (sP S) - (t + 1)) (t + 1) with
  | nil =>
    obtain ⟨M', g1, g2, g3⟩ := v_nextU (d := d) (x1 := nI t) hv (2 - on8 t) (on8 t + 1) M1 (by omega) (mSame_rep hnx hM f1)
    exact ⟨M', mSame_tr f1 g1, by rw [g2, f2], g3⟩
  | cons a r' => exact ⟨M1, f1, f2, rfl⟩
theorem sufx_L (S : aSt) : sufx S (susL S) := ⟨3, 0, rfl, Or.inl rfl⟩
/-! wentWrong -/
def wwI (i : Int32) : List Nat → Nat → Int32
  | [], c => if i = -1 then nI c else -1
  | t :: r, c => if nI c = i then nI t else wwI i r (c + 1)
theorem v_wwM {S : aSt} {n d : Nat} {i : Int32} (hv : vSt n S) : ∀ (l : List Nat) (c : Nat) (M : lc_M), sufx S l → repM S M → ∃ M', mSame M M' ∧ M' 56 = M 56 ∧ lc_val (d + 5) 177 8 [.ref 43, .int i, .int (nI c), .int (hdI l)] [] lc_SH M = some (some (.int (wwI i l c)), lc_SH, M')
  | [], c, M, hl, hM => by
    refine ⟨M, ⟨fun _ _ _ => rfl, fun _ _ => rfl⟩, rfl, ?_⟩
    rw [sg_177_0_8, if_pos (show hdI [] < 0 by decide), sg_177_0_31, wwI]
    by_cases q : i = -1
    · rw [if_neg (fun z => z q), if_pos q]
    · rw [if_pos q, if_neg q]
  | t :: r, c, M, hl, hM => by
    have hnx := hv.1.2.2.2.1
    have hp := pw256 hnx
    obtain ⟨h1, h2, h3, h4⟩ := sufx_cons hl
    rw [sg_177_0_8, if_neg (show ¬ hdI (t :: r) < 0 from nI_pos (by omega)), sg_177_0_12, wwI]
    by_cases q : nI c = i
    · refine ⟨M, ⟨fun _ _ _ => rfl, fun _ _ => rfl⟩, rfl, ?_⟩
      rw [if_neg (fun z => z q), if_pos q]
      rfl
    · obtain ⟨M1, f1, f2, f3⟩ := v_next1 (d := d) hv hM hl
      obtain ⟨M', g1, g2, g3⟩ := v_wwM (d := d) (i := i) hv r (c + 1) M1 h4 (mSame_rep hnx hM f1)
      refine ⟨M', mSame_tr f1 g1, by rw [g2, f2], ?_⟩
      rw [if_pos q, if_neg q, show hdI (t :: r) = nI t from rfl, f3, lc_bk1, sg_177_0_27, nI_1]
      exact g3
theorem v_wwM0 {S : aSt} {n d : Nat} {i : Int32} {M : lc_M} (hv : vSt n S) (hM : repM S M) : ∃ M', mSame M M' ∧ M' 56 = M 56 ∧ lc_val (d + 5) 177 0 [.ref 43, .int i, .null, .null] [] lc_SH M = some (some (.int (wwI i (susL S) 0)), lc_SH, M') := by
  have hnx := hv.1.2.2.2.1
  obtain ⟨M1, f1, f2, f3⟩ := v_next0 (d := d) hv hM
  obtain ⟨M', g1, g2, g3⟩ := v_wwM (d := d) (i := i) hv (susL S) 0 M1 (sufx_L S) (mSame_rep hnx hM f1)
  refine ⟨M', mSame_tr f1 g1, by rw [g2, f2], ?_⟩
  rw [sg_177_0_0, f3, lc_bk1, sg_177_0_7]
  exact g3
theorem ww_all : ∀ (l : List Nat) (c : Nat), c + l.length < 2 ^ 30 → wwI (-1) l c = nI (c + l.length)
  | [], c, _ => by rw [wwI, if_pos rfl]; rfl
  | t :: r, c, h => by
    have h' : c + (r.length + 1) < 2 ^ 30 := h
    rw [wwI, if_neg (fun z => nI_pos (n := c) (by omega) (by rw [z]; decide)), ww_all r (c + 1) (by omega)]
    show _ = nI (c + (r.length + 1))
    rw [show c + 1 + r.length = c + (r.length + 1) by omega]
theorem ww_out {i : Int32} (hi : ¬ i = -1) : ∀ (l : List Nat) (c : Nat), (∀ j, j < l.length → ¬ nI (c + j) = i) → wwI i l c = -1
  | [], c, _ => by rw [wwI, if_neg hi]
  | t :: r, c, h => by
    rw [wwI, if_neg (show ¬ nI c = i from h 0 (by simp)), ww_out hi r (c + 1) (fun j hj => by rw [show c + 1 + j = c + (j + 1) by omega]; exact h (j + 1) (by simp; omega))]
theorem ww_hit {t : Nat} : ∀ (l : List Nat) (c j : Nat), c + j < 2 ^ 30 → l[j]? = some t → wwI (nI (c + j)) l c = nI t
  | [], c, j, _, h => by cases h
  | a :: r, c, 0, hb, h => by
    rw [wwI, if_pos (show nI c = nI (c + 0) from rfl)]
    injection h with h
    rw [h]
  | a :: r, c, j + 1, hb, h => by
    rw [wwI, if_neg (fun z => by have := (nI_eq (by omega) (by omega)).mp z; omega), show c + (j + 1) = c + 1 + j by omega]
    exact ww_hit r (c + 1) j (by omega) h
theorem op_wentWrong (i : Int32) : opOK 95 177 [.int i] := by
  refine opOK_const (fun n S hn hv => ⟨wwI i (susL S) 0, fun M hM => ?_, fun M hM => ?_⟩)
  · obtain ⟨M', e1, e2, e3, e4, e5⟩ := v_gather (d := 2) hv hM
    refine ⟨M', ?_, e2, e3⟩
    show lc_val 8 95 0 [.ref 0, .int i] [] lc_SH M = _
    rw [sg_95_0_0, e1, lc_bk0, sg_95_0_7]
    by_cases q : i = -1
    · rw [if_neg (fun z => z q), sg_95_0_12, e4.1, q, ww_all _ _ (by omega), Nat.zero_add]
    · rw [if_pos q, sg_95_0_20]
      by_cases h : vp_in i (susL S).length
      · obtain ⟨j, hj, rfl⟩ := vp_in_of h (by omega)
        obtain ⟨t, ht⟩ : ∃ t, (susL S)[j]? = some t := ⟨_, List.getElem?_eq_getElem hj⟩
        have hh := ww_hit (susL S) 0 j (by omega) ht
        rw [Nat.zero_add] at hh
        rw [if_neg (nI_pos (by omega)), lc_it_val, sg_95_0_24, e4.1, if_neg (nI_ge hj (by omega)), lc_it_val, sg_95_0_35, if_pos (nI_in (by omega) (by decide)), nI_clamp (by omega), (e4.2 j t ht).1, hh]
      · have ho : wwI i (susL S) 0 = -1 := ww_out q _ _ (fun j hj z => h (by rw [← z, Nat.zero_add]; exact vp_in_nI hj (by omega)))
        rw [ho]
        rcases vin_not (by omega) h with h1 | h1
        · rw [if_pos h1]
        · by_cases h0 : i < 0
          · rw [if_pos h0]
          · rw [if_neg h0, lc_it_val, sg_95_0_24, e4.1, if_pos h1]
  · obtain ⟨M', g1, g2, g3⟩ := v_wwM0 (d := 3) (i := i) hv hM
    exact ⟨M', g3, mSame_rep hv.1.2.2.2.1 hM g1, fun c hc => g1.1 c (by omega) (by omega)⟩
/-! sure -/
def sureF : List Nat → Nat → Nat
  | [], a => a
  | t :: r, a => sureF r (a &&& t)
def sureN : List Nat → Nat
  | [] => 0
  | t :: r => sureF r t
theorem v_sureM {S : aSt} {n d : Nat} (hv : vSt n S) : ∀ (l : List Nat) (a : Nat) (M : lc_M), sufx S l → repM S M → ∃ M', mSame M M' ∧ lc_val (d + 5) 178 16 [.ref 43, .int (hdI l), .int (nI a)] [] lc_SH M = some (some (.int (nI (sureF l a))), lc_SH, M')
  | [], a, M, hl, hM => by
    refine ⟨M, ⟨fun _ _ _ => rfl, fun _ _ => rfl⟩, ?_⟩
    rw [sg_178_0_16, if_pos (show hdI [] < 0 by decide)]
    rfl
  | t :: r, a, M, hl, hM => by
    have hnx := hv.1.2.2.2.1
    have hp := pw256 hnx
    obtain ⟨h1, h2, h3, h4⟩ := sufx_cons hl
    obtain ⟨M1, f1, f2, f3⟩ := v_next1 (d := d) hv hM hl
    obtain ⟨M', g1, g3⟩ := v_sureM (d := d) hv r (a &&& t) M1 h4 (mSame_rep hnx hM f1)
    refine ⟨M', mSame_tr f1 g1, ?_⟩
    rw [sg_178_0_16, if_neg (show ¬ hdI (t :: r) < 0 from nI_pos (by omega)), show hdI (t :: r) = nI t from rfl, f3, lc_bk1, nI_and, sg_178_0_29]
    exact g3
theorem v_sureC {S : aSt} {d : Nat} {M : lc_M} (h5 : (susL S).length ≤ 37) (hS : susC S (susL S) M) : ∀ (t : List Nat) (j a : Nat), (susL S).drop j = t → j ≤ (susL S).length + 1 → lc_val d 63 20 [.ref 39, .int (nI a), .int (nI j)] [] lc_SH M = some (some (.int (nI (sureF t a))), lc_SH, M)
  | [], j, a, h, hj => by
    have hle : (susL S).length ≤ j := List.drop_eq_nil_iff.mp h
    rw [sg_63_0_20, hS.1, if_pos (nI_le hle (by omega))]
    rfl
  | x :: t, j, a, h, hj => by
    obtain ⟨g1, g2, g3⟩ := drop_cons h
    rw [sg_63_0_20, hS.1, if_neg (nI_ge g3 (by omega)), lc_it_val, sg_63_0_28, if_pos (nI_in (by omega) (by decide)), nI_clamp (by omega), (hS.2 j x g1).1, nI_and, nI_1]
    exact v_sureC h5 hS t (j + 1) (a &&& x) g2 (by omega)
theorem op_sure : opOK 96 178 [] := by
  refine opOK_const (fun n S hn hv => ⟨nI (sureN (susL S)), fun M hM => ?_, fun M hM => ?_⟩)
  · obtain ⟨M', e1, e2, e3, e4, e5⟩ := v_gather (d := 2) hv hM
    refine ⟨M', ?_, e2, e3⟩
    show lc_val 8 96 0 [.ref 0] [] lc_SH M = _
    rw [sg_96_0_0, e1, lc_bk0, sg_96_0_7, sg_63_0_0, e4.1]
    cases hl : susL S with
    | nil =>
      have := v_sureC (d := 7) e5 e4 [] 1 0 (by rw [hl]; rfl) (by omega)
      rw [if_pos (show nI ([] : List Nat).length ≤ 0 by decide), sg_63_0_16, show (.int 0 : Value) = .int (nI 0) from rfl, show (.int 1 : Value) = .int (nI 1) from rfl, this, lc_bk1, sg_96_0_14]
      rfl
    | cons t r =>
      have h0 := (e4.2 0 t (by rw [hl]; rfl)).1
      have := v_sureC (d := 7) e5 e4 r 1 t (by rw [hl]; rfl) (by omega)
      rw [hl] at e5
      have e5' : r.length + 1 ≤ 37 := e5
      rw [if_neg (nI_nle (by simp) (by simp; omega)), sg_63_0_7, h0, show (.int 1 : Value) = .int (nI 1) from rfl, this, lc_bk1, sg_96_0_14]
      rfl
  · have hnx := hv.1.2.2.2.1
    have hp := pw256 hnx
    obtain ⟨M1, f1, f2, f3⟩ := v_next0 (d := 3) hv hM
    have hM1 := mSame_rep hnx hM f1
    have hs := sufx_L S
    cases hl : susL S with
    | nil =>
      rw [hl] at hs f3
      obtain ⟨M', g1, g3⟩ := v_sureM (d := 3) hv [] 0 M1 hs hM1
      refine ⟨M', ?_, mSame_rep hnx hM (mSame_tr f1 g1), fun c hc => (mSame_tr f1 g1).1 c (by omega) (by omega)⟩
      show lc_val 8 178 0 [.ref 43, .null, .null] [] lc_SH M = _
      rw [sg_178_0_0, f3, lc_bk1, sg_178_0_5, if_neg (show ¬ 0 ≤ hdI [] by decide)]
      exact g3
    | cons t r =>
      rw [hl] at hs f3
      obtain ⟨h1, h2, h3, h4⟩ := sufx_cons hs
      obtain ⟨M', g1, g3⟩ := v_sureM (d := 3) hv (t :: r) t M1 hs hM1
      refine ⟨M', ?_, mSame_rep hnx hM (mSame_tr f1 g1), fun c hc => (mSame_tr f1 g1).1 c (by omega) (by omega)⟩
      show lc_val 8 178 0 [.ref 43, .null, .null] [] lc_SH M = _
      rw [sureF, Nat.and_self] at g3
      rw [sg_178_0_0, f3, lc_bk1, sg_178_0_5, if_pos (show 0 ≤ hdI (t :: r) from nI_pos' (by omega)), lc_it_val]
      exact g3
/-! look -/
def upN (f : Nat → Nat) (v : Nat) : Nat → Nat := fun i => if i = v then f i + 1 else f i
def gpL (S : aSt) (m : Nat) : List Nat → (Nat → Nat) → Nat → Nat
  | [], _, b => b
  | s :: r, f, b => gpL S m r (upN f (layS S s m)) (if b < f (layS S s m) + 1 then f (layS S s m) + 1 else b)
def gp (S : aSt) (m : Nat) : Nat := gpL S m (susL S) (fun _ => 0) 0
theorem gpL_le (S : aSt) (m : Nat) : ∀ (l : List Nat) (f : Nat → Nat) (b c : Nat), (∀ i, f i ≤ c) → b ≤ c → gpL S m l f b ≤ c + l.length
  | [], f, b, c, _, h => h
  | s :: r, f, b, c, hf, h => by
    have := gpL_le S m r (upN f (layS S s m)) (if b < f (layS S s m) + 1 then f (layS S s m) + 1 else b) (c + 1) (fun i => by unfold upN; have := hf i; split <;> omega) (by have := hf (layS S s m); split <;> omega)
    rw [gpL]
    show _ ≤ c + (r.length + 1)
    omega
theorem v_gpC0 {d : Nat} {x1 : Int32} : ∀ (k i : Nat) (M : lc_M), i + k = 6 → (∀ j, j < i → M 42 j = nI 0) → ∃ M', lc_val (d + 1) 64 2 [.ref 39, .int x1, .int (nI i), .null, .null] [] lc_SH M = lc_val (d + 1) 64 21 [.ref 39, .int x1, .int (nI 6), .null, .null] [] lc_SH M' ∧ (∀ c, c ≠ 42 → M' c = M c) ∧ ∀ j, j < 6 → M' 42 j = nI 0
  | 0, i, M, h, hz => by
    refine ⟨M, ?_, fun _ _ => rfl, fun j hj => hz j (by omega)⟩
    rw [sg_64_0_2, if_pos (show (6 : Int32) ≤ nI i from nI_le (a := 6) (by omega) (by omega)), show i = 6 by omega]
  | k + 1, i, M, h, hz => by
    obtain ⟨M', e1, e2, e3⟩ := v_gpC0 (d := d) (x1 := x1) k (i + 1) (lc_up M 42 i 0) (by omega) (fun j hj => by
      rw [up_at, if_pos rfl]
      by_cases e : j = i
      · rw [if_pos e]; rfl
      · rw [if_neg e]; exact hz j (by omega))
    refine ⟨M', ?_, fun c hc => by rw [e2 c hc, up_ne hc], e3⟩
    rw [sg_64_0_2, if_neg (show ¬ (6 : Int32) ≤ nI i from nI_ge (b := 6) (by omega) (by decide)), sg_64_0_8, if_pos (nI_in (by omega) (by decide)), nI_clamp (by omega), nI_1]
    exact e1
theorem v_gpC1 {S : aSt} {n d m : Nat} (hv : vSt n S) (hm : m < 6) (h5 : (susL S).length ≤ 37) : ∀ (t : List Nat) (j b : Nat) (v4 : Value) (f : Nat → Nat) (M : lc_M), (susL S).drop j = t → j ≤ (susL S).length → susC S (susL S) M → (∀ i, f i ≤ j) → b ≤ j → (∀ i, i < 6 → M 42 i = nI (f i)) → ∃ M', lc_val (d + 1) 64 25 [.ref 39, .int (nI m), .int (nI b), .int (nI j), v4] [] lc_SH M = some (some (.int (nI (gpL S m t f b))), lc_SH, M') ∧ ∀ c, c ≠ 42 → M' c = M c
  | [], j, b, v4, f, M, h, hj, hS, hf, hb, hM => by
    have hle : (susL S).length ≤ j := List.drop_eq_nil_iff.mp h
    refine ⟨M, ?_, fun _ _ => rfl⟩
    rw [sg_64_0_25, hS.1, if_pos (nI_le hle (by omega))]
    rfl
  | s :: t, j, b, v4, f, M, h, hj, hS, hf, hb, hM => by
    obtain ⟨g1, g2, g3⟩ := drop_cons h
    have hlt : layS S s m < 6 := layP_lt hv.1 _ (Nat.le_refl _) m hm
    have hmul : nI j * 6 + nI m = nI (j * 6 + m) := by rw [show nI j * 6 = nI (j * 6) from pk_mul j 6, nI_add]
    have hf' := hf (layS S s m)
    have hup : ∀ i, i < 6 → lc_up M 42 (layS S s m) (nI (f (layS S s m) + 1)) 42 i = nI (upN f (layS S s m) i) := fun i hi => by
      rw [up_at, if_pos rfl]
      unfold upN
      by_cases e : i = layS S s m
      · rw [if_pos e, if_pos e, e]
      · rw [if_neg e, if_neg e]; exact hM i hi
    obtain ⟨M', e1, e2⟩ := v_gpC1 (d := d) hv hm h5 t (j + 1) (if b < f (layS S s m) + 1 then f (layS S s m) + 1 else b) (.int (nI (layS S s m))) (upN f (layS S s m)) (lc_up M 42 (layS S s m) (nI (f (layS S s m) + 1))) g2 (by omega) ⟨by rw [up_ne (by decide)]; exact hS.1, fun j s hj => by rw [up_ne (by decide), up_ne (by decide)]; exact hS.2 j s hj⟩ (fun i => by unfold upN; have := hf i; split <;> omega) (by split <;> omega) hup
    refine ⟨M', ?_, fun c hc => by rw [e2 c hc, up_ne hc]⟩
    have h1 : upN f (layS S s m) (layS S s m) = f (layS S s m) + 1 := by unfold upN; rw [if_pos rfl]
    rw [sg_64_0_25, hS.1, if_neg (nI_ge g3 (by omega)), lc_it_val, sg_64_0_33, hmul, if_pos (nI_in (by omega) (by decide)), nI_clamp (by omega), (hS.2 j s g1).2 m hm, sg_64_0_46, if_pos (nI_in hlt (by decide)), if_pos (nI_in hlt (by decide)), nI_clamp (by omega), hM _ hlt, nI_1, sg_64_0_57, if_pos (nI_in hlt (by decide)), nI_clamp (by omega), hup _ hlt, h1, nI_1]
    rw [gpL]
    by_cases q : b < f (layS S s m) + 1
    · rw [if_pos q] at e1
      rw [if_pos (nI_lt q (by omega)), if_pos q]
      exact e1
    · rw [if_neg q] at e1
      rw [if_neg (nI_nlt (by omega) (by omega)), if_neg q]
      exact e1
theorem v_gpC {S : aSt} {n d m : Nat} {M : lc_M} (hv : vSt n S) (hm : m < 6) (h5 : (susL S).length ≤ 37) (hS : susC S (susL S) M) : ∃ M', lc_val (d + 1) 64 0 [.ref 39, .int (nI m), .null, .null, .null] [] lc_SH M = some (some (.int (nI (gp S m))), lc_SH, M') ∧ ∀ c, c ≠ 42 → M' c = M c := by
  obtain ⟨M1, f1, f2, f3⟩ := v_gpC0 (d := d) (x1 := nI m) 6 0 M (by omega) (fun j hj => by omega)
  obtain ⟨M', e1, e2⟩ := v_gpC1 (d := d) hv hm h5 (susL S) 0 0 .null (fun _ => 0) M1 rfl (by omega) ⟨by rw [f2 39 (by decide)]; exact hS.1, fun j s hj => by rw [f2 40 (by decide), f2 41 (by decide)]; exact hS.2 j s hj⟩ (fun _ => Nat.le_refl _) (Nat.le_refl _) f3
  refine ⟨M', ?_, fun c hc => by rw [e2 c hc, f2 c hc]⟩
  rw [sg_64_0_0]
  refine Eq.trans f1 ?_
  rw [sg_64_0_21]
  exact e1
theorem v_gpM0 {d : Nat} {x1 : Int32} : ∀ (k i : Nat) (M : lc_M), i + k = 6 → (∀ j, j < i → M 56 j = nI 0) → ∃ M', lc_val (d + 1) 179 2 [.ref 43, .int x1, .int (nI i), .null, .null] [] lc_SH M = lc_val (d + 1) 179 21 [.ref 43, .int x1, .int (nI 6), .null, .null] [] lc_SH M' ∧ (∀ c, c ≠ 56 → M' c = M c) ∧ ∀ j, j < 6 → M' 56 j = nI 0
  | 0, i, M, h, hz => by
    refine ⟨M, ?_, fun _ _ => rfl, fun j hj => hz j (by omega)⟩
    rw [sg_179_0_2, if_pos (show (6 : Int32) ≤ nI i from nI_le (a := 6) (by omega) (by omega)), show i = 6 by omega]
  | k + 1, i, M, h, hz => by
    obtain ⟨M', e1, e2, e3⟩ := v_gpM0 (d := d) (x1 := x1) k (i + 1) (lc_up M 56 i 0) (by omega) (fun j hj => by
      rw [up_at, if_pos rfl]
      by_cases e : j = i
      · rw [if_pos e]; rfl
      · rw [if_neg e]; exact hz j (by omega))
    refine ⟨M', ?_, fun c hc => by rw [e2 c hc, up_ne hc], e3⟩
    rw [sg_179_0_2, if_neg (show ¬ (6 : Int32) ≤ nI i from nI_ge (b := 6) (by omega) (by decide)), sg_179_0_8, if_pos (nI_in (by omega) (by decide)), nI_clamp (by omega), nI_1]
    exact e1
theorem v_gpM1 {S : aSt} {n d m : Nat} (hv : vSt n S) (hm : m < 6) : ∀ (l : List Nat) (c b : Nat) (v4 : Value) (f : Nat → Nat) (M : lc_M), sufx S l → c + l.length < 1000 → repM S M → (∀ i, f i ≤ c) → b ≤ c → (∀ i, i < 6 → M 56 i = nI (f i)) → ∃ M', lc_val (d + 5) 179 29 [.ref 43, .int (nI m), .int (nI b), .int (hdI l), v4] [] lc_SH M = some (some (.int (nI (gpL S m l f b))), lc_SH, M') ∧ mSame M M'
  | [], c, b, v4, f, M, hl, hc, hM, hf, hb, h56 => by
    refine ⟨M, ?_, fun _ _ _ => rfl, fun _ _ => rfl⟩
    rw [sg_179_0_29, if_pos (show hdI [] < 0 by decide)]
    rfl
  | s :: r, c, b, v4, f, M, hl, hc, hM, hf, hb, h56 => by
    have hnx := hv.1.2.2.2.1
    have hp := pw256 hnx
    have hc' : c + (r.length + 1) < 1000 := hc
    obtain ⟨h1, h2, h3, h4⟩ := sufx_cons hl
    have hlt : layS S s m < 6 := layP_lt hv.1 _ (Nat.le_refl _) m hm
    have hf' := hf (layS S s m)
    obtain ⟨M1, f1, f2, f3, f4⟩ := v_layM (d := d + 2) (M := M) hv.1 (s := s) (by omega) (mPat_3 hM.1) (earsM hv hM)
    have h56' : ∀ i, i < 6 → M1 56 i = nI (f i) := fun i hi => by rw [f2 56 (by decide)]; exact h56 i hi
    have hup : ∀ i, i < 6 → lc_up M1 56 (layS S s m) (nI (f (layS S s m) + 1)) 56 i = nI (upN f (layS S s m) i) := fun i hi => by
      rw [up_at, if_pos rfl]
      unfold upN
      by_cases e : i = layS S s m
      · rw [if_pos e, if_pos e, e]
      · rw [if_neg e, if_neg e]; exact h56' i hi
    have hm2 : mSame M (lc_up M1 56 (layS S s m) (nI (f (layS S s m) + 1))) := ⟨fun c h1 h2 => by rw [up_ne h2, f2 c h1], fun j hj => by rw [up_ne (by decide)]; exact f3 j hj⟩
    obtain ⟨M2, g1, g2, g3⟩ := v_next1 (d := d) hv (mSame_rep hnx hM hm2) hl
    obtain ⟨M', e1, e2⟩ := v_gpM1 (d := d) hv hm r (c + 1) (if b < f (layS S s m) + 1 then f (layS S s m) + 1 else b) (.int (nI (layS S s m))) (upN f (layS S s m)) M2 h4 (by omega) (mSame_rep hnx hM (mSame_tr hm2 g1)) (fun i => by unfold upN; have := hf i; split <;> omega) (by split <;> omega) (fun i hi => by rw [g2]; exact hup i hi)
    refine ⟨M', ?_, mSame_tr (mSame_tr hm2 g1) e2⟩
    have hu1 : upN f (layS S s m) (layS S s m) = f (layS S s m) + 1 := by unfold upN; rw [if_pos rfl]
    have h30 : (30 : Int32) + nI m = nI (30 + m) := nI_add 30 m
    rw [sg_179_0_29, if_neg (show ¬ hdI (s :: r) < 0 from nI_pos (by omega)), show hdI (s :: r) = nI s from rfl, f1, lc_bk0, sg_179_0_38, h30, if_pos (nI_in (by omega) (by decide)), nI_clamp (by omega), show M1 44 (30 + m) = nI (layS S s m) from f4 m hm, sg_179_0_49, if_pos (nI_in hlt (by decide)), if_pos (nI_in hlt (by decide)), nI_clamp (by omega), h56' _ hlt, nI_1, sg_179_0_60, if_pos (nI_in hlt (by decide)), nI_clamp (by omega), hup _ hlt, hu1]
    rw [gpL]
    by_cases q : b < f (layS S s m) + 1
    · rw [if_pos q] at e1
      rw [if_neg (nI_ge q (by omega)), if_pos q, sg_179_0_71, if_pos (nI_in hlt (by decide)), nI_clamp (by omega), hup _ hlt, hu1, g3, lc_bk1, sg_179_0_88]
      exact e1
    · rw [if_neg q] at e1
      rw [if_pos (nI_le (by omega) (by omega)), if_neg q, sg_179_0_81, g3, lc_bk1, sg_179_0_88]
      exact e1
theorem v_gpM {S : aSt} {n d m : Nat} {M : lc_M} (hv : vSt n S) (hm : m < 6) (h5 : (susL S).length ≤ 37) (hM : repM S M) : ∃ M', lc_val (d + 5) 179 0 [.ref 43, .int (nI m), .null, .null, .null] [] lc_SH M = some (some (.int (nI (gp S m))), lc_SH, M') ∧ mSame M M' := by
  have hnx := hv.1.2.2.2.1
  obtain ⟨M1, f1, f2, f3⟩ := v_gpM0 (d := d + 4) (x1 := nI m) 6 0 M (by omega) (fun j hj => by omega)
  have hm1 : mSame M M1 := ⟨fun c _ h2 => f2 c h2, fun j hj => by rw [f2 44 (by decide)]⟩
  obtain ⟨M2, g1, g2, g3⟩ := v_next0 (d := d) hv (mSame_rep hnx hM hm1)
  obtain ⟨M', e1, e2⟩ := v_gpM1 (d := d) hv hm (susL S) 0 0 .null (fun _ => 0) M2 (sufx_L S) (by omega) (mSame_rep hnx hM (mSame_tr hm1 g1)) (fun _ => Nat.le_refl _) (Nat.le_refl _) (fun i hi => by rw [g2]; exact f3 i hi)
  refine ⟨M', ?_, mSame_tr (mSame_tr hm1 g1) e2⟩
  rw [sg_179_0_0]
  refine Eq.trans f1 ?_
  rw [sg_179_0_21, g3, lc_bk1, sg_179_0_28]
  exact e1
def lkI (S : aSt) : Nat → Nat → Int32 → Nat → Int32
  | 0, _, x1, _ => x1
  | k + 1, m, x1, b => if b ≤ gp S m then lkI S k (m + 1) x1 b else lkI S k (m + 1) (nI m) (gp S m)
theorem gp_le (S : aSt) (m : Nat) : gp S m ≤ (susL S).length := by
  have := gpL_le S m (susL S) (fun _ => 0) 0 0 (fun _ => Nat.le_refl _) (Nat.le_refl _)
  unfold gp
  omega
theorem v_lkC {S : aSt} {n d : Nat} (hv : vSt n S) (h5 : (susL S).length ≤ 37) : ∀ (k m : Nat) (x1 : Int32) (b : Nat) (v4 : Value) (M : lc_M), m + k = pNm (sP S) → b ≤ 37 → repC S M → susC S (susL S) M → ∃ M', lc_val (d + 2) 97 19 [.ref 0, .int x1, .int (nI b), .int (nI m), v4] [] lc_SH M = some (some (.int (lkI S k m x1 b)), lc_SH, M') ∧ ∀ c, c ≠ 42 → M' c = M c
  | 0, m, x1, b, v4, M, h, hb, hM, hS => by
    have hnm := hv.1.2.2.1
    refine ⟨M, ?_, fun _ _ => rfl⟩
    rw [sg_97_0_19, hM.1.2.2.1, if_pos (nI_le (by omega) (by omega))]
    rfl
  | k + 1, m, x1, b, v4, M, h, hb, hM, hS => by
    have hnm := hv.1.2.2.1
    have hg := gp_le S m
    obtain ⟨M1, f1, f2⟩ := v_gpC (d := d) (m := m) hv (by omega) h5 hS
    have hM1 : repC S M1 := repC_fr hM (fun c hc => f2 c (by unfold keepC at hc; omega))
    have hS1 : susC S (susL S) M1 := ⟨by rw [f2 39 (by decide)]; exact hS.1, fun j s hj => by rw [f2 40 (by decide), f2 41 (by decide)]; exact hS.2 j s hj⟩
    rw [sg_97_0_19, hM.1.2.2.1, if_neg (nI_ge (by omega) (by omega)), f1, lc_bk1, sg_97_0_38, lkI]
    by_cases q : b ≤ gp S m
    · obtain ⟨M', e1, e2⟩ := v_lkC (d := d) hv h5 k (m + 1) x1 b (.int (nI (gp S m))) M1 (by omega) hb hM1 hS1
      refine ⟨M', ?_, fun c hc => by rw [e2 c hc, f2 c hc]⟩
      rw [if_pos (nI_le q (by omega)), if_pos q, lc_it_val, nI_1]
      exact e1
    · obtain ⟨M', e1, e2⟩ := v_lkC (d := d) hv h5 k (m + 1) (nI m) (gp S m) (.int (nI (gp S m))) M1 (by omega) (by omega) hM1 hS1
      refine ⟨M', ?_, fun c hc => by rw [e2 c hc, f2 c hc]⟩
      rw [if_neg (nI_ge (by omega) (by omega)), if_neg q, nI_1]
      exact e1
theorem v_lkM {S : aSt} {n d : Nat} (hv : vSt n S) (h5 : (susL S).length ≤ 37) : ∀ (k m : Nat) (x1 : Int32) (b : Nat) (v4 : Value) (M : lc_M), m + k = pNm (sP S) → b ≤ 37 → repM S M → ∃ M', lc_val (d + 6) 180 10 [.ref 43, .int x1, .int (nI b), .int (nI m), v4] [] lc_SH M = some (some (.int (lkI S k m x1 b)), lc_SH, M') ∧ mSame M M'
  | 0, m, x1, b, v4, M, h, hb, hM => by
    have hnm := hv.1.2.2.1
    refine ⟨M, ?_, fun _ _ _ => rfl, fun _ _ => rfl⟩
    rw [sg_180_0_10, show M 43 4 = nI (pNm (sP S)) from hM.1.2.2.1, if_pos (nI_le (by omega) (by omega))]
    rfl
  | k + 1, m, x1, b, v4, M, h, hb, hM => by
    have hnm := hv.1.2.2.1
    have hnx := hv.1.2.2.2.1
    have hg := gp_le S m
    obtain ⟨M1, f1, f2⟩ := v_gpM (d := d) (m := m) hv (by omega) h5 hM
    rw [sg_180_0_10, show M 43 4 = nI (pNm (sP S)) from hM.1.2.2.1, if_neg (nI_ge (by omega) (by omega)), f1, lc_bk1, sg_180_0_23, lkI]
    by_cases q : b ≤ gp S m
    · obtain ⟨M', e1, e2⟩ := v_lkM (d := d) hv h5 k (m + 1) x1 b (.int (nI (gp S m))) M1 (by omega) hb (mSame_rep hnx hM f2)
      refine ⟨M', ?_, mSame_tr f2 e2⟩
      rw [if_pos (nI_le q (by omega)), if_pos q, lc_it_val, nI_1]
      exact e1
    · obtain ⟨M', e1, e2⟩ := v_lkM (d := d) hv h5 k (m + 1) (nI m) (gp S m) (.int (nI (gp S m))) M1 (by omega) (by omega) (mSame_rep hnx hM f2)
      refine ⟨M', ?_, mSame_tr f2 e2⟩
      rw [if_neg (nI_ge (by omega) (by omega)), if_neg q, nI_1]
      exact e1
theorem susU_le {S : aSt} (hx : pNx (sP S) ≤ 8) : ∀ (f w : Nat), w + f = 3 → cwW w + (susU S f w).length ≤ 37
  | 0, w, h => by have := cwW_37 w (by omega); rw [susU]; simpa using this
  | f + 1, w, h => by
    have hW : ∀ (k s : Nat), s + k = 2 ^ pNx (sP S) → cntW w s + (susW S w k s).length ≤ cntW w (2 ^ pNx (sP S)) := by
      intro k
      induction k with
      | zero => intro s hs; rw [susW, show s = 2 ^ pNx (sP S) by omega]; simp
      | succ k ih =>
        intro s hs
        have := ih (s + 1) (by omega)
        rw [cntW] at this
        rw [susW]
        by_cases q : susB S w s = true
        · rw [if_pos q]
          unfold susB at q
          simp at q
          rw [if_pos q.1] at this
          show cntW w s + ((susW S w k (s + 1)).length + 1) ≤ _
          omega
        · rw [if_neg q]; omega
    have h1 := hW (2 ^ pNx (sP S)) 0 (by omega)
    have h2 := susU_le hx f (w + 1) (by omega)
    have h3 := cntW_le (w := w) (pw256 hx)
    rw [cwW] at h2
    rw [susU, List.length_append]
    omega
theorem op_look : opOK 97 180 [] := by
  refine opOK_const (fun n S hn hv => ?_)
  have hnx := hv.1.2.2.2.1
  have h5 : (susL S).length ≤ 37 := by have := susU_le hnx 3 0 rfl; unfold susL; omega
  refine ⟨lkI S (pNm (sP S)) 0 (-1) (susL S).length, fun M hM => ?_, fun M hM => ?_⟩
  · obtain ⟨M1, e1, e2, e3, e4, e5⟩ := v_gather (d := 2) hv hM
    obtain ⟨M', g1, g2⟩ := v_lkC (d := 6) hv h5 (pNm (sP S)) 0 (-1) (susL S).length .null M1 (by omega) h5 e2 e4
    refine ⟨M', ?_, repC_fr e2 (fun c hc => g2 c (by unfold keepC at hc; omega)), fun c hc => by rw [g2 c (by omega), e3 c hc]⟩
    show lc_val 8 97 0 [.ref 0, .null, .null, .null, .null] [] lc_SH M = _
    rw [sg_97_0_0, e1, lc_bk0, sg_97_0_7, e4.1]
    exact g1
  · obtain ⟨M1, f1, f2, f3⟩ := v_wwM0 (d := 2) (i := -1) hv hM
    obtain ⟨M', g1, g2⟩ := v_lkM (d := 2) hv h5 (pNm (sP S)) 0 (-1) (susL S).length .null M1 (by omega) h5 (mSame_rep hnx hM f1)
    refine ⟨M', ?_, mSame_rep hnx hM (mSame_tr f1 g2), fun c hc => (mSame_tr f1 g2).1 c (by omega) (by omega)⟩
    show lc_val 8 180 0 [.ref 43, .null, .null, .null, .null] [] lc_SH M = _
    rw [sg_180_0_0, f3, lc_bk1, ww_all _ _ (by omega), Nat.zero_add, sg_180_0_7]
    exact g1
