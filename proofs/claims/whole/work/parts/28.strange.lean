/-! ears on the reference's side, strange -/
theorem v_earsM {S : aSt} {n d m : Nat} {M0 : lc_M} (hv : vSt n S) (hm : m < pNm (sP S)) (h0 : repM S M0) : ∀ (k i : Nat) (M : lc_M), i + k = 3 → (∀ c, c ≠ 44 → c ≠ 46 → M c = M0 c) → (∀ q, q ≠ m → M 46 q = M0 46 q) → (∀ j, (j < 30 ∨ 36 ≤ j) → M 44 j = M0 44 j) → ∃ M', lc_val (d + 4) 182 23 [.ref 43, .int (nI m), .int (M0 46 m), .int (nI (bs (earB S m) i)), .int (nI i)] [] lc_SH M = some (some (.int (nI (bs (earB S m) 3))), lc_SH, M') ∧ (∀ c, c ≠ 44 → M' c = M0 c) ∧ ∀ j, (j < 30 ∨ 36 ≤ j) → M' 44 j = M0 44 j
  | 0, i, M, h, f1, f2, f3 => by
    have hnm := hv.1.2.2.1
    refine ⟨lc_up M 46 m (M0 46 m), ?_, fun c hc => ?_, fun j hj => by rw [up_ne (by decide)]; exact f3 j hj⟩
    · rw [sg_182_0_23, if_pos (show (3 : Int32) ≤ nI i from nI_le (a := 3) (by omega) (by omega)), sg_182_0_61, if_pos (nI_in (by omega) (by decide)), nI_clamp (by omega), show i = 3 by omega]
    · by_cases h46 : c = 46
      · subst h46
        funext q
        rw [up_at, if_pos rfl]
        by_cases e : q = m
        · rw [if_pos e, e]
        · rw [if_neg e]; exact f2 q e
      · rw [up_ne h46]; exact f1 c hc h46
  | k + 1, i, M, h, f1, f2, f3 => by
    have hnm := hv.1.2.2.1
    have hnx := hv.1.2.2.2.1
    have hset : ∀ c, c ≠ 46 → lc_up M 46 m (nI i) c = M c := fun c hc => up_ne hc
    have hp3 : mPat3 (sP S) (lc_up M 46 m (nI i)) := by
      unfold mPat3
      rw [hset 43 (by decide), hset 47 (by decide), hset 48 (by decide), f1 43 (by decide) (by decide), f1 47 (by decide) (by decide), f1 48 (by decide) (by decide)]
      exact mPat_3 h0.1
    have hear : ∀ q, q < pNm (sP S) → lc_up M 46 m (nI i) 46 q = nI (earW (sP S) m i q) ∧ earW (sP S) m i q ≤ 2 := fun q hq => by
      refine ⟨?_, earW_le hv (by omega) q hq⟩
      rw [up_at, if_pos rfl]
      unfold earW
      by_cases e : q = m
      · rw [if_pos e, if_pos e]
      · rw [if_neg e, if_neg e, f2 q e]
        exact h0.1.2.2.2.2.1 q hq
    obtain ⟨M1, g1, g2, g3, g4⟩ := v_layM (d := d + 1) (M := lc_up M 46 m (nI i)) hv.1 (s := 0) (by decide) hp3 hear
    have k1 : ∀ c, c ≠ 44 → c ≠ 46 → M1 c = M0 c := fun c h1 h2 => by rw [g2 c h1, hset c h2, f1 c h1 h2]
    have hso := liesM (d := d + 3) (M := M1) (pin := layP (sP S) (earW (sP S) m i) 0 (pNx (sP S))) hv (by rw [k1 43 (by decide) (by decide), k1 54 (by decide) (by decide), k1 55 (by decide) (by decide)]; exact h0.2.2.2.2.2.2.1) (fun q hq => ⟨g4 q hq, layP_lt hv.1 _ (Nat.le_refl _) q hq⟩)
    obtain ⟨M', e1, e2, e3⟩ := v_earsM (d := d) hv hm h0 k (i + 1) M1 (by omega) k1 (fun q hq => by rw [g2 46 (by decide), up_at, if_pos rfl, if_neg hq]; exact f2 q hq) (fun j hj => by rw [g3 j hj, hset 44 (by decide)]; exact f3 j hj)
    refine ⟨M', ?_, e2, e3⟩
    rw [sg_182_0_23, if_neg (show ¬ (3 : Int32) ≤ nI i from nI_ge (b := 3) (by omega) (by decide)), sg_182_0_29, if_pos (nI_in (by omega) (by decide)), nI_clamp (by omega), show (.int 0 : Value) = .int (nI 0) from rfl, g1, lc_bk0, sg_182_0_42, hso, lc_bk1, sg_182_0_47]
    by_cases q : earB S m i = true
    · rw [if_pos (show soB (layP (sP S) (earW (sP S) m i) 0 (pNx (sP S))) (sL S) = true from q), sg_117_0_0, if_neg (by decide), lc_bk1, sg_182_0_50, shl_1 i (by omega), nI_or, nI_1]
      rw [show bs (earB S m) (i + 1) = bs (earB S m) i ||| 2 ^ i by rw [bs, if_pos q]] at e1
      exact e1
    · rw [if_neg (show ¬ soB (layP (sP S) (earW (sP S) m i) 0 (pNx (sP S))) (sL S) = true from q), sg_117_0_0, if_pos (by decide), lc_bk1, sg_182_0_50, nI_1]
      rw [show bs (earB S m) (i + 1) = bs (earB S m) i by rw [bs, if_neg q]; simp] at e1
      rw [show nI (bs (earB S m) i) ||| (0 : Int32) <<< (nI i &&& 31) = nI (bs (earB S m) i) by simp]
      exact e1
theorem op_ears (a : Int32) : opOK 99 182 [.int a] := by
  refine opOK_const (fun n S hn hv => ?_)
  have hnm : pNm (sP S) ≤ 6 := hv.1.2.2.1
  have hnx : pNx (sP S) ≤ 8 := hv.1.2.2.2.1
  by_cases h : vp_in a (pNm (sP S))
  · obtain ⟨m, hm, rfl⟩ := vp_in_of h (by omega)
    refine ⟨nI (bs (earB S m) 3), fun M hM => ?_, fun M hM => ?_⟩
    · obtain ⟨M', e1, e2, e3⟩ := v_earsC (d := 4) hv hm 3 0 M (by omega) hM
      refine ⟨M', ?_, e2, e3⟩
      show lc_val 8 99 0 [.ref 0, .int (nI m), .null, .null] [] lc_SH M = _
      rw [sg_99_0_0, v_hasMaker1 hM.1.2.2.1 (by omega) h, lc_bk1, sg_99_0_8, if_pos (by decide)]
      exact e1
    · obtain ⟨M', e1, e2, e3⟩ := v_earsM (d := 4) hv hm hM 3 0 M (by omega) (fun _ _ _ => rfl) (fun _ _ => rfl) (fun _ _ => rfl)
      refine ⟨M', ?_, repM_44 hnx hM e2 e3, fun c hc => e2 c (by omega)⟩
      show lc_val 8 182 0 [.ref 43, .int (nI m), .null, .null, .null] [] lc_SH M = _
      rw [sg_182_0_0, v_isMaker1 hM.1.2.2.1 (by omega) h, lc_bk1, sg_182_0_5, if_pos (by decide), if_pos (nI_in (by omega) (by decide)), nI_clamp (by omega)]
      exact e1
  · refine ⟨-1000000001, fun M hM => ⟨M, ?_, hM, fun _ _ => rfl⟩, fun M hM => ⟨M, ?_, hM, fun _ _ => rfl⟩⟩
    · show lc_val 8 99 0 [.ref 0, .int a, .null, .null] [] lc_SH M = _
      rw [sg_99_0_0, v_hasMaker0 hM.1.2.2.1 (by omega) h, lc_bk1, sg_99_0_8, if_neg (by decide)]
    · show lc_val 8 182 0 [.ref 43, .int a, .null, .null, .null] [] lc_SH M = _
      rw [sg_182_0_0, v_isMaker0 hM.1.2.2.1 (by omega) h, lc_bk1, sg_182_0_5, if_neg (by decide)]
/-! strange -/
/-- the pins that should lie there -/
def layR (S : aSt) : Nat → Nat := layP (sP S) (pEar (sP S)) 0 (pNx (sP S))
def stB (S : aSt) (a b : Nat) : Bool := soB (swapP (layR S) a b) (sL S)
/-- the inner loop: an answer, or so many till here -/
def stIn (S : aSt) (i : Int32) (a : Nat) : Nat → Nat → Nat → Int32 ⊕ Nat
  | 0, _, c => .inr c
  | k + 1, b, c => if stB S a b = true then (if nI c = i then .inl (nI (10 * a + b)) else stIn S i a k (b + 1) (c + 1)) else stIn S i a k (b + 1) c
def stOut (S : aSt) (i : Int32) : Nat → Nat → Nat → Int32
  | 0, _, c => if i = -1 then nI c else -1
  | k + 1, a, c => match stIn S i a k (a + 1) c with
    | .inl r => r
    | .inr c' => stOut S i k (a + 1) c'
theorem swap_swap {pin : Nat → Nat} {a b m : Nat} : swapP (swapP pin a b) a b m = pin m := by
  unfold swapP
  by_cases h1 : m = b
  · subst h1
    rw [if_pos rfl]
    by_cases h2 : a = m
    · rw [if_pos h2, h2]
    · rw [if_neg h2, if_pos rfl]
  · rw [if_neg h1]
    by_cases h2 : m = a
    · subst h2
      rw [if_pos rfl, if_pos rfl]
    · rw [if_neg h2, if_neg h1, if_neg h2]
theorem v_mends {S : aSt} {n d a b : Nat} {M : lc_M} (hv : vSt n S) (ha : a < 6) (hb : b < 6) (h7 : cNotes (sL S) (M 33) (M 34) (M 35)) (hq : ∀ m, m < 6 → M 31 m = nI (layR S m)) : ∃ M', lc_val (d + 1) 114 0 [.ref 0, .int (nI a), .int (nI b), .null] [] lc_SH M = some (some (.int (if stB S a b = true then 1 else 0)), lc_SH, M') ∧ (∀ c, c ≠ 31 → M' c = M c) ∧ ∀ m, m < 6 → M' 31 m = nI (layR S m) := by
  have hlt : ∀ m, m < 6 → layR S m < 6 := layP_lt hv.1 _ (Nat.le_refl _)
  obtain ⟨M1, f1, f2, f3⟩ := v_swap31 (d := d) (M := M) ha hb hq
  have hfo := liesC (d := d) (M := M1) (pin := swapP (layR S) a b) hv (by rw [f2 33 (by decide), f2 34 (by decide), f2 35 (by decide)]; exact h7) (fun m hm => ⟨f3 m hm, swapP_lt ha hb hlt m hm⟩)
  have hso := fo_so (pin := swapP (layR S) a b) (sL S) 0 (by have := hv.2.2.2.2.2.1.1; omega)
  obtain ⟨M2, g1, g2, g3⟩ := v_swap31 (d := d) (M := M1) (pin := swapP (layR S) a b) ha hb f3
  refine ⟨M2, ?_, fun c hc => by rw [g2 c hc, f2 c hc], fun m hm => by rw [g3 m hm, swap_swap]⟩
  rw [sg_114_0_0, f1, lc_bk0, sg_114_0_12, hfo, lc_bk1, sg_114_0_26]
  by_cases q : stB S a b = true
  · rw [if_neg (fun z => z (hso.mpr q)), sg_114_0_30, g1, lc_bk0, sg_114_0_48, if_pos (Or.inr rfl), if_pos q]
  · rw [if_pos (fun z => q (hso.mp z)), sg_114_0_34, g1, lc_bk0, sg_114_0_48, if_pos (Or.inl rfl), if_neg q]
theorem v_stInC {S : aSt} {n d a : Nat} {i : Int32} (hv : vSt n S) (ha : a < pNm (sP S)) : ∀ (k b c : Nat) (M : lc_M), b + k = pNm (sP S) → repC S M → (∀ m, m < 6 → M 31 m = nI (layR S m)) → ∃ M', repC S M' ∧ (∀ c, 43 ≤ c → M' c = M c) ∧ (∀ m, m < 6 → M' 31 m = nI (layR S m)) ∧
    (match stIn S i a k b c with
    | .inl r => lc_val (d + 2) 98 28 [.ref 0, .int i, .int (nI c), .int (nI a), .int (nI b)] [] lc_SH M = some (some (.int r), lc_SH, M')
    | .inr c' => lc_val (d + 2) 98 28 [.ref 0, .int i, .int (nI c), .int (nI a), .int (nI b)] [] lc_SH M = lc_val (d + 2) 98 12 [.ref 0, .int i, .int (nI c'), .int (nI (a + 1)), .int (nI (pNm (sP S)))] [] lc_SH M' ∧ c' ≤ c + k)
  | 0, b, c, M, h, hM, hq => by
    have hnm := hv.1.2.2.1
    refine ⟨M, hM, fun _ _ => rfl, hq, ?_⟩
    show _ ∧ _
    refine ⟨?_, by omega⟩
    rw [sg_98_0_28, hM.1.2.2.1, if_pos (nI_le (by omega) (by omega)), lc_it_val, nI_1, show b = pNm (sP S) by omega]
  | k + 1, b, c, M, h, hM, hq => by
    have hnm := hv.1.2.2.1
    obtain ⟨M1, f1, f2, f3⟩ := v_mends (d := d) (a := a) (b := b) hv (by omega) (by omega) hM.2.2.2.2.2.2.1.2 hq
    have hM1 := repC_31 hM f2
    have start : lc_val (d + 2) 98 28 [.ref 0, .int i, .int (nI c), .int (nI a), .int (nI b)] [] lc_SH M = lc_val (d + 2) 98 47 [.ref 0, .int i, .int (nI c), .int (nI a), .int (nI b)] [.int (if stB S a b = true then 1 else 0)] lc_SH M1 := by
      rw [sg_98_0_28, hM.1.2.2.1, if_neg (nI_ge (by omega) (by omega)), f1, lc_bk1]
    rw [start, sg_98_0_47]
    by_cases q : stB S a b = true
    · by_cases qc : nI c = i
      · refine ⟨M1, hM1, fun c hc => f2 c (by omega), f3, ?_⟩
        rw [show stIn S i a (k + 1) b c = .inl (nI (10 * a + b)) by rw [stIn, if_pos q, if_pos qc]]
        show _ = _
        rw [if_pos q, if_neg (by decide), lc_it_val, sg_98_0_50, if_neg (fun z => z qc), show (10 : Int32) = nI 10 from rfl, pk_mul, nI_add]
      · obtain ⟨M', e1, e2, e3, e4⟩ := v_stInC (d := d) (i := i) hv ha k (b + 1) (c + 1) M1 (by omega) hM1 f3
        refine ⟨M', e1, fun c hc => by rw [e2 c hc, f2 c (by omega)], e3, ?_⟩
        rw [show stIn S i a (k + 1) b c = stIn S i a k (b + 1) (c + 1) by rw [stIn, if_pos q, if_neg qc]]
        rw [if_pos q, if_neg (by decide), lc_it_val, sg_98_0_50, if_pos qc, lc_it_val, nI_1, nI_1]
        split at e4
        · exact e4
        · exact ⟨e4.1, by have := e4.2; omega⟩
    · obtain ⟨M', e1, e2, e3, e4⟩ := v_stInC (d := d) (i := i) hv ha k (b + 1) c M1 (by omega) hM1 f3
      refine ⟨M', e1, fun c hc => by rw [e2 c hc, f2 c (by omega)], e3, ?_⟩
      rw [show stIn S i a (k + 1) b c = stIn S i a k (b + 1) c by rw [stIn, if_neg q]]
      rw [if_neg q, if_pos (by decide), nI_1]
      split at e4
      · exact e4
      · exact ⟨e4.1, by have := e4.2; omega⟩
theorem v_stOutC {S : aSt} {n d : Nat} {i : Int32} (hv : vSt n S) : ∀ (k a c : Nat) (v4 : Value) (M : lc_M), a + k = pNm (sP S) → repC S M → (∀ m, m < 6 → M 31 m = nI (layR S m)) → ∃ M', lc_val (d + 2) 98 12 [.ref 0, .int i, .int (nI c), .int (nI a), v4] [] lc_SH M = some (some (.int (stOut S i k a c)), lc_SH, M') ∧ repC S M' ∧ ∀ c, 43 ≤ c → M' c = M c
  | 0, a, c, v4, M, h, hM, hq => by
    have hnm := hv.1.2.2.1
    refine ⟨M, ?_, hM, fun _ _ => rfl⟩
    rw [sg_98_0_12, hM.1.2.2.1, if_pos (nI_le (by omega) (by omega)), sg_98_0_78, stOut]
    by_cases q : i = -1
    · rw [if_neg (fun z => z q), if_pos q]
    · rw [if_pos q, if_neg q]
  | k + 1, a, c, v4, M, h, hM, hq => by
    have hnm := hv.1.2.2.1
    obtain ⟨M1, e1, e2, e3, e4⟩ := v_stInC (d := d) (i := i) hv (a := a) (by omega) k (a + 1) c M (by omega) hM hq
    rw [sg_98_0_12, hM.1.2.2.1, if_neg (nI_ge (by omega) (by omega)), sg_98_0_23, nI_1, stOut]
    cases hin : stIn S i a k (a + 1) c with
    | inl r =>
      rw [hin] at e4
      exact ⟨M1, e4, e1, e2⟩
    | inr c' =>
      rw [hin] at e4
      obtain ⟨M', g1, g2, g3⟩ := v_stOutC (d := d) (i := i) hv k (a + 1) c' (.int (nI (pNm (sP S)))) M1 (by omega) e1 e3
      exact ⟨M', e4.1.trans g1, g2, fun c hc => by rw [g3 c hc, e2 c hc]⟩
theorem v_stInM {S : aSt} {n d a : Nat} {i : Int32} (hv : vSt n S) (ha : a < pNm (sP S)) : ∀ (k b c : Nat) (M : lc_M), b + k = pNm (sP S) → repM S M → ∃ M', repM S M' ∧ (∀ c, c < 43 → M' c = M c) ∧
    (match stIn S i a k b c with
    | .inl r => lc_val (d + 4) 181 17 [.ref 43, .int i, .int (nI c), .int (nI a), .int (nI b)] [] lc_SH M = some (some (.int r), lc_SH, M')
    | .inr c' => lc_val (d + 4) 181 17 [.ref 43, .int i, .int (nI c), .int (nI a), .int (nI b)] [] lc_SH M = lc_val (d + 4) 181 4 [.ref 43, .int i, .int (nI c'), .int (nI (a + 1)), .int (nI (pNm (sP S)))] [] lc_SH M')
  | 0, b, c, M, h, hM => by
    have hnm := hv.1.2.2.1
    refine ⟨M, hM, fun _ _ => rfl, ?_⟩
    show _ = _
    rw [sg_181_0_17, show M 43 4 = nI (pNm (sP S)) from hM.1.2.2.1, if_pos (nI_le (by omega) (by omega)), lc_it_val, nI_1, show b = pNm (sP S) by omega]
  | k + 1, b, c, M, h, hM => by
    have hnm := hv.1.2.2.1
    have hnx := hv.1.2.2.2.1
    obtain ⟨M1, f1, f2, f3, f4⟩ := v_layM (d := d + 1) (M := M) hv.1 (s := 0) (by decide) (mPat_3 hM.1) (earsM hv hM)
    have hlt : ∀ m, m < 6 → layR S m < 6 := layP_lt hv.1 _ (Nat.le_refl _)
    obtain ⟨M2, g1, g2, g3, g4⟩ := v_change (d := d + 3) (M := M1) (at0 := 30) (pin := layR S) (a := a) (w := b) (by decide) (by omega) (by omega) f4
    have hM2 : repM S M2 := repM_44 hnx hM (fun c hc => by rw [g2 c hc, f2 c hc]) (fun j hj => by rw [g3 j hj, f3 j hj])
    have hso := liesM (d := d + 3) (M := M2) (pin := swapP (layR S) a b) hv hM2.2.2.2.2.2.2.1 (fun m hm => ⟨g4 m hm, swapP_lt (by omega) (by omega) hlt m hm⟩)
    have fr : ∀ c, c < 43 → M2 c = M c := fun c hc => by rw [g2 c (by omega), f2 c (by omega)]
    have start : lc_val (d + 4) 181 17 [.ref 43, .int i, .int (nI c), .int (nI a), .int (nI b)] [] lc_SH M = lc_val (d + 4) 181 44 [.ref 43, .int i, .int (nI c), .int (nI a), .int (nI b)] [.int (if stB S a b = true then 1 else 0)] lc_SH M2 := by
      rw [sg_181_0_17, show M 43 4 = nI (pNm (sP S)) from hM.1.2.2.1, if_neg (nI_ge (by omega) (by omega)), show (.int 0 : Value) = .int (nI 0) from rfl, f1, lc_bk0, sg_181_0_31, show (.int 30 : Value) = .int (nI 30) from rfl, g1, lc_bk0, sg_181_0_40, hso, lc_bk1]
      rfl
    rw [start, sg_181_0_44]
    by_cases q : stB S a b = true
    · by_cases qc : nI c = i
      · refine ⟨M2, hM2, fr, ?_⟩
        rw [show stIn S i a (k + 1) b c = .inl (nI (10 * a + b)) by rw [stIn, if_pos q, if_pos qc]]
        show _ = _
        rw [if_pos q, if_neg (by decide), lc_it_val, sg_181_0_47, if_neg (fun z => z qc), show (10 : Int32) = nI 10 from rfl, pk_mul, nI_add]
      · obtain ⟨M', e1, e2, e4⟩ := v_stInM (d := d) (i := i) hv ha k (b + 1) (c + 1) M2 (by omega) hM2
        refine ⟨M', e1, fun c hc => by rw [e2 c hc, fr c hc], ?_⟩
        rw [show stIn S i a (k + 1) b c = stIn S i a k (b + 1) (c + 1) by rw [stIn, if_pos q, if_neg qc]]
        rw [if_pos q, if_neg (by decide), lc_it_val, sg_181_0_47, if_pos qc, lc_it_val, nI_1, nI_1]
        exact e4
    · obtain ⟨M', e1, e2, e4⟩ := v_stInM (d := d) (i := i) hv ha k (b + 1) c M2 (by omega) hM2
      refine ⟨M', e1, fun c hc => by rw [e2 c hc, fr c hc], ?_⟩
      rw [show stIn S i a (k + 1) b c = stIn S i a k (b + 1) c by rw [stIn, if_neg q]]
      rw [if_neg q, if_pos (by decide), nI_1]
      exact e4
theorem v_stOutM {S : aSt} {n d : Nat} {i : Int32} (hv : vSt n S) : ∀ (k a c : Nat) (v4 : Value) (M : lc_M), a + k = pNm (sP S) → repM S M → ∃ M', lc_val (d + 4) 181 4 [.ref 43, .int i, .int (nI c), .int (nI a), v4] [] lc_SH M = some (some (.int (stOut S i k a c)), lc_SH, M') ∧ repM S M' ∧ ∀ c, c < 43 → M' c = M c
  | 0, a, c, v4, M, h, hM => by
    have hnm := hv.1.2.2.1
    refine ⟨M, ?_, hM, fun _ _ => rfl⟩
    rw [sg_181_0_4, show M 43 4 = nI (pNm (sP S)) from hM.1.2.2.1, if_pos (nI_le (by omega) (by omega)), sg_181_0_75, stOut]
    by_cases q : i = -1
    · rw [if_neg (fun z => z q), if_pos q]
    · rw [if_pos q, if_neg q]
  | k + 1, a, c, v4, M, h, hM => by
    have hnm := hv.1.2.2.1
    obtain ⟨M1, e1, e2, e4⟩ := v_stInM (d := d) (i := i) hv (a := a) (by omega) k (a + 1) c M (by omega) hM
    rw [sg_181_0_4, show M 43 4 = nI (pNm (sP S)) from hM.1.2.2.1, if_neg (nI_ge (by omega) (by omega)), sg_181_0_12, nI_1, stOut]
    cases hin : stIn S i a k (a + 1) c with
    | inl r =>
      rw [hin] at e4
      exact ⟨M1, e4, e1, e2⟩
    | inr c' =>
      rw [hin] at e4
      obtain ⟨M', g1, g2, g3⟩ := v_stOutM (d := d) (i := i) hv k (a + 1) c' (.int (nI (pNm (sP S)))) M1 (by omega) e1
      exact ⟨M', e4.trans g1, g2, fun c hc => by rw [g3 c hc, e2 c hc]⟩
theorem op_strange (a : Int32) : opOK 98 181 [.int a] := by
  refine opOK_const (fun n S hn hv => ?_)
  refine ⟨stOut S a (pNm (sP S)) 0 0, fun M hM => ?_, fun M hM => ?_⟩
  · obtain ⟨M1, f1, f2, f3⟩ := v_lay0 (d := 4) (M := M) hv.1 (s := 0) (by decide) hM.1 (earsC hv hM)
    obtain ⟨M', e1, e2, e3⟩ := v_stOutC (d := 6) (i := a) hv (pNm (sP S)) 0 0 .null M1 (by omega) (repC_31 hM f2) f3
    refine ⟨M', ?_, e2, fun c hc => by rw [e3 c hc, f2 c (by omega)]⟩
    show lc_val 8 98 0 [.ref 0, .int a, .null, .null, .null] [] lc_SH M = _
    rw [sg_98_0_0, sg_70_0_0, show (.int 0 : Value) = .int (nI 0) from rfl, f1, lc_bk0, sg_70_0_12, lc_bk0, sg_98_0_8]
    exact e1
  · obtain ⟨M', e1, e2, e3⟩ := v_stOutM (d := 4) (i := a) hv (pNm (sP S)) 0 0 .null M (by omega) hM
    refine ⟨M', ?_, e2, e3⟩
    show lc_val 8 181 0 [.ref 43, .int a, .null, .null, .null] [] lc_SH M = _
    rw [sg_181_0_0]
    exact e1
