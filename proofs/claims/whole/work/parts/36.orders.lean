/-! orders of what is left to do: the next one by the letters -/
def fI (a : Nat → Nat) : Nat → Option Nat
  | 0 => none
  | i + 1 => if a i ≤ a (i + 1) then some i else fI a i
def fJ (a : Nat → Nat) (i : Nat) : Nat → Nat
  | 0 => 0
  | j + 1 => if a i ≤ a (j + 1) then j + 1 else fJ a i j
def revF : Nat → (Nat → Nat) → Nat → Nat → (Nat → Nat)
  | 0, a, _, _ => a
  | k + 1, a, x, y => if y ≤ x then a else revF k (swapP a x y) (x + 1) (y - 1)
def nextF (n : Nat) (a : Nat → Nat) : Option (Nat → Nat) := match fI a (n - 1) with
  | none => none
  | some i => some (revF n (swapP a i (fJ a i (n - 1))) (i + 1) (n - 1))
theorem fI_lt {a : Nat → Nat} {i : Nat} : ∀ {k : Nat}, fI a k = some i → i < k ∧ a i ≤ a (i + 1)
  | 0, h => by cases h
  | k + 1, h => by
    rw [fI] at h
    by_cases q : a k ≤ a (k + 1)
    · rw [if_pos q] at h
      injection h with h
      subst h
      exact ⟨by omega, q⟩
    · rw [if_neg q] at h
      have := fI_lt h
      exact ⟨by omega, this.2⟩
theorem fJ_in {a : Nat → Nat} {i : Nat} (h : a i ≤ a (i + 1)) : ∀ (k : Nat), i + 1 ≤ fJ a i (i + 1 + k) ∧ fJ a i (i + 1 + k) ≤ i + 1 + k
  | 0 => by
    rw [show i + 1 + 0 = i + 1 from rfl, fJ, if_pos h]
    omega
  | k + 1 => by
    rw [show i + 1 + (k + 1) = (i + 1 + k) + 1 from rfl, fJ]
    have := fJ_in h k
    split <;> omega
theorem nI_dec {x : Nat} : nI (x + 1) + (-1) = nI x := by rw [← Int32.sub_eq_add_neg]; exact nI_pred x
theorem sub1 {x : Nat} (h : 1 ≤ x) : nI x - 1 = nI (x - 1) := by
  obtain ⟨t, rfl⟩ : ∃ t, x = t + 1 := ⟨x - 1, by omega⟩
  exact nI_pred t
theorem v_swap52 {d a w : Nat} {M : lc_M} {pin : Nat → Nat} (ha : a < 6) (hw : w < 6) (hp : ∀ m, m < 6 → M 52 m = nI (pin m)) : ∃ M', lc_val d 157 0 [.ref 43, .int (nI a), .int (nI w), .null] [] lc_SH M = some (none, lc_SH, M') ∧ (∀ c, c ≠ 52 → M' c = M c) ∧ ∀ m, m < 6 → M' 52 m = nI (swapP pin a w m) := by
  refine ⟨lc_up (lc_up M 52 a (M 52 w)) 52 w (M 52 a), ?_, fun c hc => by rw [up_ne hc, up_ne hc], fun m hm => ?_⟩
  · rw [sg_157_0_0, if_pos (nI_in ha (by decide)), nI_clamp (by omega), sg_157_0_7, if_pos (nI_in hw (by decide)), if_pos (nI_in ha (by decide)), nI_clamp (by omega), nI_clamp (by omega), sg_157_0_19, if_pos (nI_in hw (by decide)), nI_clamp (by omega)]
  · rw [up_at, if_pos rfl, up_at, if_pos rfl]
    unfold swapP
    by_cases e1 : m = w
    · rw [if_pos e1, if_pos e1]; exact hp a ha
    · rw [if_neg e1, if_neg e1]
      by_cases e2 : m = a
      · rw [if_pos e2, if_pos e2]; exact hp w hw
      · rw [if_neg e2, if_neg e2]; exact hp m hm
theorem v_fIC {d n : Nat} {a : Nat → Nat} {M : lc_M} (hn : n ≤ 6) (hc : M 25 5 = nI n) (ha : ∀ m, m < 6 → M 28 m = nI (a m)) (hb : ∀ m, m < n → a m < 8) : ∀ (k : Nat), k + 1 ≤ n → lc_val (d + 1) 44 7 [.ref 25, .int (nI k - 1), .null, .null, .null] [] lc_SH M = (match fI a k with
    | none => some (some (.int 0), lc_SH, M)
    | some i => lc_val (d + 1) 44 47 [.ref 25, .int (nI i), .int (nI (n - 1)), .null, .null] [] lc_SH M)
  | 0, h => by
    rw [sg_44_0_7, if_pos (by decide), sg_44_0_34, if_neg (by decide)]
    rfl
  | i + 1, h => by
    rw [nI_pred, sg_44_0_7, if_neg (nI_pos (by omega)), sg_44_0_11, nI_1, if_pos (nI_in (by omega) (by decide)), if_pos (nI_in (by omega) (by decide)), nI_clamp (by omega), nI_clamp (by omega), ha i (by omega), ha (i + 1) (by omega), fI]
    have h1 := hb i (by omega)
    have h2 := hb (i + 1) (by omega)
    by_cases q : a i ≤ a (i + 1)
    · rw [if_pos (nI_le q (by omega)), if_pos q, lc_it_val, sg_44_0_34, if_pos (nI_pos' (by omega)), hc, sub1 (by omega)]
    · rw [if_neg (nI_ge (by omega) (by omega)), if_neg q, ← Int32.sub_eq_add_neg]
      exact v_fIC hn hc ha hb i (by omega)
theorem v_fJC {d n i : Nat} {a : Nat → Nat} {M : lc_M} (hn : n ≤ 6) (ha : ∀ m, m < 6 → M 28 m = nI (a m)) (hb : ∀ m, m < n → a m < 8) (hi : a i ≤ a (i + 1)) : ∀ (k : Nat), i + 1 + k < n → lc_val (d + 1) 44 47 [.ref 25, .int (nI i), .int (nI (i + 1 + k)), .null, .null] [] lc_SH M = lc_val (d + 1) 44 73 [.ref 25, .int (nI i), .int (nI (fJ a i (i + 1 + k))), .null, .null] [] lc_SH M
  | 0, h => by
    have h1 := hb i (by omega)
    have h2 := hb (i + 1) (by omega)
    rw [sg_44_0_47, if_neg (nI_ge (by omega) (by omega)), sg_44_0_52, if_pos (nI_in (by omega) (by decide)), if_pos (nI_in (by omega) (by decide)), nI_clamp (by omega), nI_clamp (by omega), ha i (by omega), ha (i + 1 + 0) (by omega), if_pos (nI_le hi (by omega)), lc_it_val, show i + 1 + 0 = i + 1 from rfl, fJ, if_pos hi]
  | k + 1, h => by
    have h1 := hb i (by omega)
    have h2 := hb (i + 1 + k + 1) (by omega)
    rw [sg_44_0_47, if_neg (nI_ge (by omega) (by omega)), sg_44_0_52, if_pos (nI_in (by omega) (by decide)), if_pos (nI_in (by omega) (by decide)), nI_clamp (by omega), nI_clamp (by omega), ha i (by omega), ha (i + 1 + (k + 1)) (by omega), show i + 1 + (k + 1) = (i + 1 + k) + 1 from rfl, fJ]
    by_cases q : a i ≤ a (i + 1 + k + 1)
    · rw [if_pos (nI_le q (by omega)), if_pos q, lc_it_val]
    · rw [if_neg (nI_ge (by omega) (by omega)), if_neg q, nI_dec]
      exact v_fJC hn ha hb hi k (by omega)
theorem v_revC {d : Nat} {x1 x2 : Int32} : ∀ (k x y : Nat) (a : Nat → Nat) (M : lc_M), y ≤ x + k → y < 6 → x < 100 → (∀ m, m < 6 → M 28 m = nI (a m)) → ∃ M', lc_val (d + 1) 44 94 [.ref 25, .int x1, .int x2, .int (nI x), .int (nI y)] [] lc_SH M = some (some (.int 1), lc_SH, M') ∧ (∀ c, c ≠ 28 → M' c = M c) ∧ ∀ m, m < 6 → M' 28 m = nI (revF k a x y m)
  | 0, x, y, a, M, h, hy, hx, ha => by
    refine ⟨M, ?_, fun _ _ => rfl, ha⟩
    rw [sg_44_0_94, if_pos (nI_le (by omega) (by omega))]
  | k + 1, x, y, a, M, h, hy, hx, ha => by
    rw [sg_44_0_94, revF]
    by_cases q : y ≤ x
    · refine ⟨M, ?_, fun _ _ => rfl, fun m hm => by rw [if_pos q]; exact ha m hm⟩
      rw [if_pos (nI_le q (by omega))]
    · obtain ⟨M1, f1, f2, f3⟩ := v_swap28 (d := d) (M := M) (a := x) (w := y) (by omega) (by omega) ha
      obtain ⟨M', e1, e2, e3⟩ := v_revC (d := d) (x1 := x1) (x2 := x2) k (x + 1) (y - 1) (swapP a x y) M1 (by omega) (by omega) (by omega) f3
      refine ⟨M', ?_, fun c hc => by rw [e2 c hc, f2 c hc], fun m hm => by rw [if_neg q]; exact e3 m hm⟩
      rw [if_neg (nI_ge (by omega) (by omega)), f1, lc_bk0, sg_44_0_110, nI_1, ← Int32.sub_eq_add_neg, sub1 (by omega)]
      exact e1
theorem v_nextC {d n : Nat} {a : Nat → Nat} {M : lc_M} (hn : n ≤ 6) (hc : M 25 5 = nI n) (ha : ∀ m, m < 6 → M 28 m = nI (a m)) (hb : ∀ m, m < n → a m < 8) : ∃ M', (∀ c, c ≠ 28 → M' c = M c) ∧ (match nextF n a with
    | none => lc_val (d + 2) 44 0 [.ref 25, .null, .null, .null, .null] [] lc_SH M = some (some (.int 0), lc_SH, M') ∧ M' = M
    | some b => lc_val (d + 2) 44 0 [.ref 25, .null, .null, .null, .null] [] lc_SH M = some (some (.int 1), lc_SH, M') ∧ ∀ m, m < 6 → M' 28 m = nI (b m)) := by
  rcases Nat.eq_zero_or_pos n with e | e
  · subst e
    refine ⟨M, fun _ _ => rfl, ?_⟩
    show _ ∧ _
    refine ⟨?_, rfl⟩
    rw [sg_44_0_0, hc, sg_44_0_7, if_pos (by decide), sg_44_0_34, if_neg (by decide)]
  · have h2 : nI n - 2 = nI (n - 1) - 1 := by
      rw [← sub1 e, show (2 : Int32) = 1 + 1 from rfl]
      rw [Int32.sub_eq_add_neg, Int32.sub_eq_add_neg, Int32.sub_eq_add_neg, Int32.neg_add, Int32.sub_eq_add_neg, Int32.add_assoc]
    have start := v_fIC (d := d + 1) hn hc ha hb (n - 1) (by omega)
    rw [sg_44_0_0, hc, h2, start]
    unfold nextF
    cases hi : fI a (n - 1) with
    | none => exact ⟨M, fun _ _ => rfl, rfl, rfl⟩
    | some i =>
      obtain ⟨i1, i2⟩ := fI_lt hi
      have hJ := v_fJC (d := d + 1) hn ha hb i2 (n - 1 - (i + 1)) (by omega)
      rw [show i + 1 + (n - 1 - (i + 1)) = n - 1 by omega] at hJ
      have jin := fJ_in i2 (n - 1 - (i + 1))
      rw [show i + 1 + (n - 1 - (i + 1)) = n - 1 by omega] at jin
      obtain ⟨M1, f1, f2, f3⟩ := v_swap28 (d := d + 1) (M := M) (a := i) (w := fJ a i (n - 1)) (by omega) (by omega) ha
      obtain ⟨M', e1, e2, e3⟩ := v_revC (d := d + 1) (x1 := nI i) (x2 := nI (fJ a i (n - 1))) n (i + 1) (n - 1) (swapP a i (fJ a i (n - 1))) M1 (by omega) (by omega) (by omega) f3
      refine ⟨M', fun c hc => by rw [e2 c hc, f2 c hc], ?_⟩
      show _ ∧ _
      refine ⟨?_, e3⟩
      show lc_val (d + 2) 44 47 [.ref 25, .int (nI i), .int (nI (n - 1)), .null, .null] [] lc_SH M = _
      rw [hJ, sg_44_0_73, f1, lc_bk0, sg_44_0_82, f2 25 (by decide), hc, nI_1, sub1 e]
      exact e1
theorem v_fIM {d n : Nat} {a : Nat → Nat} {M : lc_M} (hn : n ≤ 6) (hc : M 43 25 = nI n) (ha : ∀ m, m < 6 → M 52 m = nI (a m)) (hb : ∀ m, m < n → a m < 8) : ∀ (k : Nat), k + 1 ≤ n → lc_val (d + 1) 158 7 [.ref 43, .int (nI k - 1), .null, .null, .null] [] lc_SH M = (match fI a k with
    | none => some (some (.int 0), lc_SH, M)
    | some i => lc_val (d + 1) 158 47 [.ref 43, .int (nI i), .int (nI (n - 1)), .null, .null] [] lc_SH M)
  | 0, h => by
    rw [sg_158_0_7, if_pos (by decide), sg_158_0_34, if_neg (by decide)]
    rfl
  | i + 1, h => by
    rw [nI_pred, sg_158_0_7, if_neg (nI_pos (by omega)), sg_158_0_11, nI_1, if_pos (nI_in (by omega) (by decide)), if_pos (nI_in (by omega) (by decide)), nI_clamp (by omega), nI_clamp (by omega), ha i (by omega), ha (i + 1) (by omega), fI]
    have h1 := hb i (by omega)
    have h2 := hb (i + 1) (by omega)
    by_cases q : a i ≤ a (i + 1)
    · rw [if_pos (nI_le q (by omega)), if_pos q, lc_it_val, sg_158_0_34, if_pos (nI_pos' (by omega)), hc, sub1 (by omega)]
    · rw [if_neg (nI_ge (by omega) (by omega)), if_neg q, ← Int32.sub_eq_add_neg]
      exact v_fIM hn hc ha hb i (by omega)
theorem v_fJM {d n i : Nat} {a : Nat → Nat} {M : lc_M} (hn : n ≤ 6) (ha : ∀ m, m < 6 → M 52 m = nI (a m)) (hb : ∀ m, m < n → a m < 8) (hi : a i ≤ a (i + 1)) : ∀ (k : Nat), i + 1 + k < n → lc_val (d + 1) 158 47 [.ref 43, .int (nI i), .int (nI (i + 1 + k)), .null, .null] [] lc_SH M = lc_val (d + 1) 158 68 [.ref 43, .int (nI i), .int (nI (fJ a i (i + 1 + k))), .null, .null] [] lc_SH M
  | 0, h => by
    have h1 := hb i (by omega)
    have h2 := hb (i + 1) (by omega)
    rw [sg_158_0_47, if_pos (nI_in (by omega) (by decide)), if_pos (nI_in (by omega) (by decide)), nI_clamp (by omega), nI_clamp (by omega), ha i (by omega), ha (i + 1 + 0) (by omega), if_pos (nI_le hi (by omega)), lc_it_val, show i + 1 + 0 = i + 1 from rfl, fJ, if_pos hi]
  | k + 1, h => by
    have h1 := hb i (by omega)
    have h2 := hb (i + 1 + k + 1) (by omega)
    rw [sg_158_0_47, if_pos (nI_in (by omega) (by decide)), if_pos (nI_in (by omega) (by decide)), nI_clamp (by omega), nI_clamp (by omega), ha i (by omega), ha (i + 1 + (k + 1)) (by omega), show i + 1 + (k + 1) = (i + 1 + k) + 1 from rfl, fJ]
    by_cases q : a i ≤ a (i + 1 + k + 1)
    · rw [if_pos (nI_le q (by omega)), if_pos q, lc_it_val]
    · rw [if_neg (nI_ge (by omega) (by omega)), if_neg q, nI_dec]
      exact v_fJM hn ha hb hi k (by omega)
theorem v_revM {d : Nat} {x1 x2 : Int32} : ∀ (k x y : Nat) (a : Nat → Nat) (M : lc_M), y ≤ x + k → y < 6 → x < 100 → (∀ m, m < 6 → M 52 m = nI (a m)) → ∃ M', lc_val (d + 1) 158 86 [.ref 43, .int x1, .int x2, .int (nI x), .int (nI y)] [] lc_SH M = some (some (.int 1), lc_SH, M') ∧ (∀ c, c ≠ 52 → M' c = M c) ∧ ∀ m, m < 6 → M' 52 m = nI (revF k a x y m)
  | 0, x, y, a, M, h, hy, hx, ha => by
    refine ⟨M, ?_, fun _ _ => rfl, ha⟩
    rw [sg_158_0_86, if_pos (nI_le (by omega) (by omega))]
  | k + 1, x, y, a, M, h, hy, hx, ha => by
    rw [sg_158_0_86, revF]
    by_cases q : y ≤ x
    · refine ⟨M, ?_, fun _ _ => rfl, fun m hm => by rw [if_pos q]; exact ha m hm⟩
      rw [if_pos (nI_le q (by omega))]
    · obtain ⟨M1, f1, f2, f3⟩ := v_swap52 (d := d) (M := M) (a := x) (w := y) (by omega) (by omega) ha
      obtain ⟨M', e1, e2, e3⟩ := v_revM (d := d) (x1 := x1) (x2 := x2) k (x + 1) (y - 1) (swapP a x y) M1 (by omega) (by omega) (by omega) f3
      refine ⟨M', ?_, fun c hc => by rw [e2 c hc, f2 c hc], fun m hm => by rw [if_neg q]; exact e3 m hm⟩
      rw [if_neg (nI_ge (by omega) (by omega)), f1, lc_bk0, sg_158_0_99, nI_1, ← Int32.sub_eq_add_neg, sub1 (by omega)]
      exact e1
theorem v_nextM {d n : Nat} {a : Nat → Nat} {M : lc_M} (hn : n ≤ 6) (hc : M 43 25 = nI n) (ha : ∀ m, m < 6 → M 52 m = nI (a m)) (hb : ∀ m, m < n → a m < 8) : ∃ M', (∀ c, c ≠ 52 → M' c = M c) ∧ (match nextF n a with
    | none => lc_val (d + 2) 158 0 [.ref 43, .null, .null, .null, .null] [] lc_SH M = some (some (.int 0), lc_SH, M') ∧ M' = M
    | some b => lc_val (d + 2) 158 0 [.ref 43, .null, .null, .null, .null] [] lc_SH M = some (some (.int 1), lc_SH, M') ∧ ∀ m, m < 6 → M' 52 m = nI (b m)) := by
  rcases Nat.eq_zero_or_pos n with e | e
  · subst e
    refine ⟨M, fun _ _ => rfl, ?_⟩
    show _ ∧ _
    refine ⟨?_, rfl⟩
    rw [sg_158_0_0, hc, sg_158_0_7, if_pos (by decide), sg_158_0_34, if_neg (by decide)]
  · have h2 : nI n - 2 = nI (n - 1) - 1 := by
      rw [← sub1 e, show (2 : Int32) = 1 + 1 from rfl]
      rw [Int32.sub_eq_add_neg, Int32.sub_eq_add_neg, Int32.sub_eq_add_neg, Int32.neg_add, Int32.sub_eq_add_neg, Int32.add_assoc]
    have start := v_fIM (d := d + 1) hn hc ha hb (n - 1) (by omega)
    rw [sg_158_0_0, hc, h2, start]
    unfold nextF
    cases hi : fI a (n - 1) with
    | none => exact ⟨M, fun _ _ => rfl, rfl, rfl⟩
    | some i =>
      obtain ⟨i1, i2⟩ := fI_lt hi
      have hJ := v_fJM (d := d + 1) hn ha hb i2 (n - 1 - (i + 1)) (by omega)
      rw [show i + 1 + (n - 1 - (i + 1)) = n - 1 by omega] at hJ
      have jin := fJ_in i2 (n - 1 - (i + 1))
      rw [show i + 1 + (n - 1 - (i + 1)) = n - 1 by omega] at jin
      obtain ⟨M1, f1, f2, f3⟩ := v_swap52 (d := d + 1) (M := M) (a := i) (w := fJ a i (n - 1)) (by omega) (by omega) ha
      obtain ⟨M', e1, e2, e3⟩ := v_revM (d := d + 1) (x1 := nI i) (x2 := nI (fJ a i (n - 1))) n (i + 1) (n - 1) (swapP a i (fJ a i (n - 1))) M1 (by omega) (by omega) (by omega) f3
      refine ⟨M', fun c hc => by rw [e2 c hc, f2 c hc], ?_⟩
      show _ ∧ _
      refine ⟨?_, e3⟩
      show lc_val (d + 2) 158 47 [.ref 43, .int (nI i), .int (nI (n - 1)), .null, .null] [] lc_SH M = _
      rw [hJ, sg_158_0_68, f1, lc_bk0, sg_158_0_74, f2 43 (by decide), hc, nI_1, sub1 e]
      exact e1
/-! orders told by places: what is compared is the same -/
def relO (n : Nat) (l : Nat → Nat) (a s : Nat → Nat) : Prop := ∀ i, i < n → a i = l (s i) ∧ s i < n
theorem relO_le {n : Nat} {l a s : Nat → Nat} (hl : ∀ i j, i < j → j < n → l i < l j) (h : relO n l a s) {i j : Nat} (hi : i < n) (hj : j < n) : a i ≤ a j ↔ s i ≤ s j := by
  obtain ⟨h1, h2⟩ := h i hi
  obtain ⟨h3, h4⟩ := h j hj
  rw [h1, h3]
  constructor
  · intro g
    rcases Nat.lt_or_ge (s j) (s i) with z | z
    · have := hl _ _ z h2; omega
    · exact z
  · intro g
    rcases Nat.lt_or_ge (s i) (s j) with z | z
    · have := hl _ _ z h4; omega
    · rw [show s i = s j by omega]; exact Nat.le_refl _
theorem relO_fI {n : Nat} {l a s : Nat → Nat} (hl : ∀ i j, i < j → j < n → l i < l j) (h : relO n l a s) : ∀ k, k + 1 ≤ n → fI a k = fI s k
  | 0, _ => rfl
  | k + 1, hk => by
    rw [fI, fI, relO_fI hl h k (by omega)]
    by_cases q : s k ≤ s (k + 1)
    · rw [if_pos q, if_pos ((relO_le hl h (by omega) (by omega)).mpr q)]
    · rw [if_neg q, if_neg (fun z => q ((relO_le hl h (by omega) (by omega)).mp z))]
theorem relO_fJ {n : Nat} {l a s : Nat → Nat} {i : Nat} (hl : ∀ i j, i < j → j < n → l i < l j) (h : relO n l a s) (hi : i < n) : ∀ k, k < n → fJ a i k = fJ s i k
  | 0, _ => rfl
  | k + 1, hk => by
    rw [fJ, fJ, relO_fJ hl h hi k (by omega)]
    by_cases q : s i ≤ s (k + 1)
    · rw [if_pos q, if_pos ((relO_le hl h hi hk).mpr q)]
    · rw [if_neg q, if_neg (fun z => q ((relO_le hl h hi hk).mp z))]
theorem relO_swap {n : Nat} {l a s : Nat → Nat} {x y : Nat} (h : relO n l a s) (hx : x < n) (hy : y < n) : relO n l (swapP a x y) (swapP s x y) := by
  intro i hi
  unfold swapP
  by_cases e1 : i = y
  · rw [if_pos e1, if_pos e1]; exact h x hx
  · rw [if_neg e1, if_neg e1]
    by_cases e2 : i = x
    · rw [if_pos e2, if_pos e2]; exact h y hy
    · rw [if_neg e2, if_neg e2]; exact h i hi
theorem relO_rev {n : Nat} {l : Nat → Nat} : ∀ (k : Nat) (a s : Nat → Nat) (x y : Nat), relO n l a s → y < n → relO n l (revF k a x y) (revF k s x y)
  | 0, _, _, _, _, h, _ => h
  | k + 1, a, s, x, y, h, hy => by
    rw [revF, revF]
    by_cases q : y ≤ x
    · rw [if_pos q, if_pos q]; exact h
    · rw [if_neg q, if_neg q]
      exact relO_rev k _ _ _ _ (relO_swap h (by omega) hy) (by omega)
theorem relO_next {n : Nat} {l a s : Nat → Nat} (hl : ∀ i j, i < j → j < n → l i < l j) (h : relO n l a s) : (nextF n a = none ∧ nextF n s = none) ∨ ∃ b t, nextF n a = some b ∧ nextF n s = some t ∧ relO n l b t := by
  rcases Nat.eq_zero_or_pos n with e | e
  · subst e; left; exact ⟨rfl, rfl⟩
  · unfold nextF
    rw [relO_fI hl h (n - 1) (by omega)]
    cases hi : fI s (n - 1) with
    | none => left; exact ⟨rfl, rfl⟩
    | some i =>
      obtain ⟨i1, i2⟩ := fI_lt hi
      have jin := fJ_in i2 (n - 1 - (i + 1))
      rw [show i + 1 + (n - 1 - (i + 1)) = n - 1 by omega] at jin
      right
      refine ⟨_, _, rfl, rfl, ?_⟩
      rw [relO_fJ hl h (by omega) (n - 1) (by omega)]
      exact relO_rev _ _ _ _ _ (relO_swap h (by omega) (by omega)) (by omega)
/-! the table of orders -/
def atL (x : List Nat) : Nat → Nat := fun i => x.getD i 0
def chkP (n : Nat) : List (List Nat) → Bool
  | [] => false
  | [x] => (nextF n (atL x)).isNone
  | x :: y :: r => (match nextF n (atL x) with
    | none => false
    | some f => (List.range n).all (fun i => f i == atL y i)) && chkP n (y :: r)
def perm0 : List (List Nat) := [[]]
def perm1 : List (List Nat) := [[0]]
def perm2 : List (List Nat) := [[0, 1], [1, 0]]
def perm3 : List (List Nat) := [[0, 1, 2], [0, 2, 1], [1, 0, 2], [1, 2, 0], [2, 0, 1], [2, 1, 0]]
def perm4 : List (List Nat) := [[0, 1, 2, 3], [0, 1, 3, 2], [0, 2, 1, 3], [0, 2, 3, 1], [0, 3, 1, 2], [0, 3, 2, 1], [1, 0, 2, 3], [1, 0, 3, 2], [1, 2, 0, 3], [1, 2, 3, 0], [1, 3, 0, 2], [1, 3, 2, 0], [2, 0, 1, 3], [2, 0, 3, 1], [2, 1, 0, 3], [2, 1, 3, 0], [2, 3, 0, 1], [2, 3, 1, 0], [3, 0, 1, 2], [3, 0, 2, 1], [3, 1, 0, 2], [3, 1, 2, 0], [3, 2, 0, 1], [3, 2, 1, 0]]
def perm5 : List (List Nat) := [[0, 1, 2, 3, 4], [0, 1, 2, 4, 3], [0, 1, 3, 2, 4], [0, 1, 3, 4, 2], [0, 1, 4, 2, 3], [0, 1, 4, 3, 2], [0, 2, 1, 3, 4], [0, 2, 1, 4, 3], [0, 2, 3, 1, 4], [0, 2, 3, 4, 1], [0, 2, 4, 1, 3], [0, 2, 4, 3, 1], [0, 3, 1, 2, 4], [0, 3, 1, 4, 2], [0, 3, 2, 1, 4], [0, 3, 2, 4, 1], [0, 3, 4, 1, 2], [0, 3, 4, 2, 1], [0, 4, 1, 2, 3], [0, 4, 1, 3, 2], [0, 4, 2, 1, 3], [0, 4, 2, 3, 1], [0, 4, 3, 1, 2], [0, 4, 3, 2, 1], [1, 0, 2, 3, 4], [1, 0, 2, 4, 3], [1, 0, 3, 2, 4], [1, 0, 3, 4, 2], [1, 0, 4, 2, 3], [1, 0, 4, 3, 2], [1, 2, 0, 3, 4], [1, 2, 0, 4, 3], [1, 2, 3, 0, 4], [1, 2, 3, 4, 0], [1, 2, 4, 0, 3], [1, 2, 4, 3, 0], [1, 3, 0, 2, 4], [1, 3, 0, 4, 2], [1, 3, 2, 0, 4], [1, 3, 2, 4, 0], [1, 3, 4, 0, 2], [1, 3, 4, 2, 0], [1, 4, 0, 2, 3], [1, 4, 0, 3, 2], [1, 4, 2, 0, 3], [1, 4, 2, 3, 0], [1, 4, 3, 0, 2], [1, 4, 3, 2, 0], [2, 0, 1, 3, 4], [2, 0, 1, 4, 3], [2, 0, 3, 1, 4], [2, 0, 3, 4, 1], [2, 0, 4, 1, 3], [2, 0, 4, 3, 1], [2, 1, 0, 3, 4], [2, 1, 0, 4, 3], [2, 1, 3, 0, 4], [2, 1, 3, 4, 0], [2, 1, 4, 0, 3], [2, 1, 4, 3, 0], [2, 3, 0, 1, 4], [2, 3, 0, 4, 1], [2, 3, 1, 0, 4], [2, 3, 1, 4, 0], [2, 3, 4, 0, 1], [2, 3, 4, 1, 0], [2, 4, 0, 1, 3], [2, 4, 0, 3, 1], [2, 4, 1, 0, 3], [2, 4, 1, 3, 0], [2, 4, 3, 0, 1], [2, 4, 3, 1, 0], [3, 0, 1, 2, 4], [3, 0, 1, 4, 2], [3, 0, 2, 1, 4], [3, 0, 2, 4, 1], [3, 0, 4, 1, 2], [3, 0, 4, 2, 1], [3, 1, 0, 2, 4], [3, 1, 0, 4, 2], [3, 1, 2, 0, 4], [3, 1, 2, 4, 0], [3, 1, 4, 0, 2], [3, 1, 4, 2, 0], [3, 2, 0, 1, 4], [3, 2, 0, 4, 1], [3, 2, 1, 0, 4], [3, 2, 1, 4, 0], [3, 2, 4, 0, 1], [3, 2, 4, 1, 0], [3, 4, 0, 1, 2], [3, 4, 0, 2, 1], [3, 4, 1, 0, 2], [3, 4, 1, 2, 0], [3, 4, 2, 0, 1], [3, 4, 2, 1, 0], [4, 0, 1, 2, 3], [4, 0, 1, 3, 2], [4, 0, 2, 1, 3], [4, 0, 2, 3, 1], [4, 0, 3, 1, 2], [4, 0, 3, 2, 1], [4, 1, 0, 2, 3], [4, 1, 0, 3, 2], [4, 1, 2, 0, 3], [4, 1, 2, 3, 0], [4, 1, 3, 0, 2], [4, 1, 3, 2, 0], [4, 2, 0, 1, 3], [4, 2, 0, 3, 1], [4, 2, 1, 0, 3], [4, 2, 1, 3, 0], [4, 2, 3, 0, 1], [4, 2, 3, 1, 0], [4, 3, 0, 1, 2], [4, 3, 0, 2, 1], [4, 3, 1, 0, 2], [4, 3, 1, 2, 0], [4, 3, 2, 0, 1], [4, 3, 2, 1, 0]]
def perm6 : List (List Nat) := [[0, 1, 2, 3, 4, 5], [0, 1, 2, 3, 5, 4], [0, 1, 2, 4, 3, 5], [0, 1, 2, 4, 5, 3], [0, 1, 2, 5, 3, 4], [0, 1, 2, 5, 4, 3], [0, 1, 3, 2, 4, 5], [0, 1, 3, 2, 5, 4], [0, 1, 3, 4, 2, 5], [0, 1, 3, 4, 5, 2], [0, 1, 3, 5, 2, 4], [0, 1, 3, 5, 4, 2], [0, 1, 4, 2, 3, 5], [0, 1, 4, 2, 5, 3], [0, 1, 4, 3, 2, 5], [0, 1, 4, 3, 5, 2], [0, 1, 4, 5, 2, 3], [0, 1, 4, 5, 3, 2], [0, 1, 5, 2, 3, 4], [0, 1, 5, 2, 4, 3], [0, 1, 5, 3, 2, 4], [0, 1, 5, 3, 4, 2], [0, 1, 5, 4, 2, 3], [0, 1, 5, 4, 3, 2], [0, 2, 1, 3, 4, 5], [0, 2, 1, 3, 5, 4], [0, 2, 1, 4, 3, 5], [0, 2, 1, 4, 5, 3], [0, 2, 1, 5, 3, 4], [0, 2, 1, 5, 4, 3], [0, 2, 3, 1, 4, 5], [0, 2, 3, 1, 5, 4], [0, 2, 3, 4, 1, 5], [0, 2, 3, 4, 5, 1], [0, 2, 3, 5, 1, 4], [0, 2, 3, 5, 4, 1], [0, 2, 4, 1, 3, 5], [0, 2, 4, 1, 5, 3], [0, 2, 4, 3, 1, 5], [0, 2, 4, 3, 5, 1], [0, 2, 4, 5, 1, 3], [0, 2, 4, 5, 3, 1], [0, 2, 5, 1, 3, 4], [0, 2, 5, 1, 4, 3], [0, 2, 5, 3, 1, 4], [0, 2, 5, 3, 4, 1], [0, 2, 5, 4, 1, 3], [0, 2, 5, 4, 3, 1], [0, 3, 1, 2, 4, 5], [0, 3, 1, 2, 5, 4], [0, 3, 1, 4, 2, 5], [0, 3, 1, 4, 5, 2], [0, 3, 1, 5, 2, 4], [0, 3, 1, 5, 4, 2], [0, 3, 2, 1, 4, 5], [0, 3, 2, 1, 5, 4], [0, 3, 2, 4, 1, 5], [0, 3, 2, 4, 5, 1], [0, 3, 2, 5, 1, 4], [0, 3, 2, 5, 4, 1], [0, 3, 4, 1, 2, 5], [0, 3, 4, 1, 5, 2], [0, 3, 4, 2, 1, 5], [0, 3, 4, 2, 5, 1], [0, 3, 4, 5, 1, 2], [0, 3, 4, 5, 2, 1], [0, 3, 5, 1, 2, 4], [0, 3, 5, 1, 4, 2], [0, 3, 5, 2, 1, 4], [0, 3, 5, 2, 4, 1], [0, 3, 5, 4, 1, 2], [0, 3, 5, 4, 2, 1], [0, 4, 1, 2, 3, 5], [0, 4, 1, 2, 5, 3], [0, 4, 1, 3, 2, 5], [0, 4, 1, 3, 5, 2], [0, 4, 1, 5, 2, 3], [0, 4, 1, 5, 3, 2], [0, 4, 2, 1, 3, 5], [0, 4, 2, 1, 5, 3], [0, 4, 2, 3, 1, 5], [0, 4, 2, 3, 5, 1], [0, 4, 2, 5, 1, 3], [0, 4, 2, 5, 3, 1], [0, 4, 3, 1, 2, 5], [0, 4, 3, 1, 5, 2], [0, 4, 3, 2, 1, 5], [0, 4, 3, 2, 5, 1], [0, 4, 3, 5, 1, 2], [0, 4, 3, 5, 2, 1], [0, 4, 5, 1, 2, 3], [0, 4, 5, 1, 3, 2], [0, 4, 5, 2, 1, 3], [0, 4, 5, 2, 3, 1], [0, 4, 5, 3, 1, 2], [0, 4, 5, 3, 2, 1], [0, 5, 1, 2, 3, 4], [0, 5, 1, 2, 4, 3], [0, 5, 1, 3, 2, 4], [0, 5, 1, 3, 4, 2], [0, 5, 1, 4, 2, 3], [0, 5, 1, 4, 3, 2], [0, 5, 2, 1, 3, 4], [0, 5, 2, 1, 4, 3], [0, 5, 2, 3, 1, 4], [0, 5, 2, 3, 4, 1], [0, 5, 2, 4, 1, 3], [0, 5, 2, 4, 3, 1], [0, 5, 3, 1, 2, 4], [0, 5, 3, 1, 4, 2], [0, 5, 3, 2, 1, 4], [0, 5, 3, 2, 4, 1], [0, 5, 3, 4, 1, 2], [0, 5, 3, 4, 2, 1], [0, 5, 4, 1, 2, 3], [0, 5, 4, 1, 3, 2], [0, 5, 4, 2, 1, 3], [0, 5, 4, 2, 3, 1], [0, 5, 4, 3, 1, 2], [0, 5, 4, 3, 2, 1], [1, 0, 2, 3, 4, 5], [1, 0, 2, 3, 5, 4], [1, 0, 2, 4, 3, 5], [1, 0, 2, 4, 5, 3], [1, 0, 2, 5, 3, 4], [1, 0, 2, 5, 4, 3], [1, 0, 3, 2, 4, 5], [1, 0, 3, 2, 5, 4], [1, 0, 3, 4, 2, 5], [1, 0, 3, 4, 5, 2], [1, 0, 3, 5, 2, 4], [1, 0, 3, 5, 4, 2], [1, 0, 4, 2, 3, 5], [1, 0, 4, 2, 5, 3], [1, 0, 4, 3, 2, 5], [1, 0, 4, 3, 5, 2], [1, 0, 4, 5, 2, 3], [1, 0, 4, 5, 3, 2], [1, 0, 5, 2, 3, 4], [1, 0, 5, 2, 4, 3], [1, 0, 5, 3, 2, 4], [1, 0, 5, 3, 4, 2], [1, 0, 5, 4, 2, 3], [1, 0, 5, 4, 3, 2], [1, 2, 0, 3, 4, 5], [1, 2, 0, 3, 5, 4], [1, 2, 0, 4, 3, 5], [1, 2, 0, 4, 5, 3], [1, 2, 0, 5, 3, 4], [1, 2, 0, 5, 4, 3], [1, 2, 3, 0, 4, 5], [1, 2, 3, 0, 5, 4], [1, 2, 3, 4, 0, 5], [1, 2, 3, 4, 5, 0], [1, 2, 3, 5, 0, 4], [1, 2, 3, 5, 4, 0], [1, 2, 4, 0, 3, 5], [1, 2, 4, 0, 5, 3], [1, 2, 4, 3, 0, 5], [1, 2, 4, 3, 5, 0], [1, 2, 4, 5, 0, 3], [1, 2, 4, 5, 3, 0], [1, 2, 5, 0, 3, 4], [1, 2, 5, 0, 4, 3], [1, 2, 5, 3, 0, 4], [1, 2, 5, 3, 4, 0], [1, 2, 5, 4, 0, 3], [1, 2, 5, 4, 3, 0], [1, 3, 0, 2, 4, 5], [1, 3, 0, 2, 5, 4], [1, 3, 0, 4, 2, 5], [1, 3, 0, 4, 5, 2], [1, 3, 0, 5, 2, 4], [1, 3, 0, 5, 4, 2], [1, 3, 2, 0, 4, 5], [1, 3, 2, 0, 5, 4], [1, 3, 2, 4, 0, 5], [1, 3, 2, 4, 5, 0], [1, 3, 2, 5, 0, 4], [1, 3, 2, 5, 4, 0], [1, 3, 4, 0, 2, 5], [1, 3, 4, 0, 5, 2], [1, 3, 4, 2, 0, 5], [1, 3, 4, 2, 5, 0], [1, 3, 4, 5, 0, 2], [1, 3, 4, 5, 2, 0], [1, 3, 5, 0, 2, 4], [1, 3, 5, 0, 4, 2], [1, 3, 5, 2, 0, 4], [1, 3, 5, 2, 4, 0], [1, 3, 5, 4, 0, 2], [1, 3, 5, 4, 2, 0], [1, 4, 0, 2, 3, 5], [1, 4, 0, 2, 5, 3], [1, 4, 0, 3, 2, 5], [1, 4, 0, 3, 5, 2], [1, 4, 0, 5, 2, 3], [1, 4, 0, 5, 3, 2], [1, 4, 2, 0, 3, 5], [1, 4, 2, 0, 5, 3], [1, 4, 2, 3, 0, 5], [1, 4, 2, 3, 5, 0], [1, 4, 2, 5, 0, 3], [1, 4, 2, 5, 3, 0], [1, 4, 3, 0, 2, 5], [1, 4, 3, 0, 5, 2], [1, 4, 3, 2, 0, 5], [1, 4, 3, 2, 5, 0], [1, 4, 3, 5, 0, 2], [1, 4, 3, 5, 2, 0], [1, 4, 5, 0, 2, 3], [1, 4, 5, 0, 3, 2], [1, 4, 5, 2, 0, 3], [1, 4, 5, 2, 3, 0], [1, 4, 5, 3, 0, 2], [1, 4, 5, 3, 2, 0], [1, 5, 0, 2, 3, 4], [1, 5, 0, 2, 4, 3], [1, 5, 0, 3, 2, 4], [1, 5, 0, 3, 4, 2], [1, 5, 0, 4, 2, 3], [1, 5, 0, 4, 3, 2], [1, 5, 2, 0, 3, 4], [1, 5, 2, 0, 4, 3], [1, 5, 2, 3, 0, 4], [1, 5, 2, 3, 4, 0], [1, 5, 2, 4, 0, 3], [1, 5, 2, 4, 3, 0], [1, 5, 3, 0, 2, 4], [1, 5, 3, 0, 4, 2], [1, 5, 3, 2, 0, 4], [1, 5, 3, 2, 4, 0], [1, 5, 3, 4, 0, 2], [1, 5, 3, 4, 2, 0], [1, 5, 4, 0, 2, 3], [1, 5, 4, 0, 3, 2], [1, 5, 4, 2, 0, 3], [1, 5, 4, 2, 3, 0], [1, 5, 4, 3, 0, 2], [1, 5, 4, 3, 2, 0], [2, 0, 1, 3, 4, 5], [2, 0, 1, 3, 5, 4], [2, 0, 1, 4, 3, 5], [2, 0, 1, 4, 5, 3], [2, 0, 1, 5, 3, 4], [2, 0, 1, 5, 4, 3], [2, 0, 3, 1, 4, 5], [2, 0, 3, 1, 5, 4], [2, 0, 3, 4, 1, 5], [2, 0, 3, 4, 5, 1], [2, 0, 3, 5, 1, 4], [2, 0, 3, 5, 4, 1], [2, 0, 4, 1, 3, 5], [2, 0, 4, 1, 5, 3], [2, 0, 4, 3, 1, 5], [2, 0, 4, 3, 5, 1], [2, 0, 4, 5, 1, 3], [2, 0, 4, 5, 3, 1], [2, 0, 5, 1, 3, 4], [2, 0, 5, 1, 4, 3], [2, 0, 5, 3, 1, 4], [2, 0, 5, 3, 4, 1], [2, 0, 5, 4, 1, 3], [2, 0, 5, 4, 3, 1], [2, 1, 0, 3, 4, 5], [2, 1, 0, 3, 5, 4], [2, 1, 0, 4, 3, 5], [2, 1, 0, 4, 5, 3], [2, 1, 0, 5, 3, 4], [2, 1, 0, 5, 4, 3], [2, 1, 3, 0, 4, 5], [2, 1, 3, 0, 5, 4], [2, 1, 3, 4, 0, 5], [2, 1, 3, 4, 5, 0], [2, 1, 3, 5, 0, 4], [2, 1, 3, 5, 4, 0], [2, 1, 4, 0, 3, 5], [2, 1, 4, 0, 5, 3], [2, 1, 4, 3, 0, 5], [2, 1, 4, 3, 5, 0], [2, 1, 4, 5, 0, 3], [2, 1, 4, 5, 3, 0], [2, 1, 5, 0, 3, 4], [2, 1, 5, 0, 4, 3], [2, 1, 5, 3, 0, 4], [2, 1, 5, 3, 4, 0], [2, 1, 5, 4, 0, 3], [2, 1, 5, 4, 3, 0], [2, 3, 0, 1, 4, 5], [2, 3, 0, 1, 5, 4], [2, 3, 0, 4, 1, 5], [2, 3, 0, 4, 5, 1], [2, 3, 0, 5, 1, 4], [2, 3, 0, 5, 4, 1], [2, 3, 1, 0, 4, 5], [2, 3, 1, 0, 5, 4], [2, 3, 1, 4, 0, 5], [2, 3, 1, 4, 5, 0], [2, 3, 1, 5, 0, 4], [2, 3, 1, 5, 4, 0], [2, 3, 4, 0, 1, 5], [2, 3, 4, 0, 5, 1], [2, 3, 4, 1, 0, 5], [2, 3, 4, 1, 5, 0], [2, 3, 4, 5, 0, 1], [2, 3, 4, 5, 1, 0], [2, 3, 5, 0, 1, 4], [2, 3, 5, 0, 4, 1], [2, 3, 5, 1, 0, 4], [2, 3, 5, 1, 4, 0], [2, 3, 5, 4, 0, 1], [2, 3, 5, 4, 1, 0], [2, 4, 0, 1, 3, 5], [2, 4, 0, 1, 5, 3], [2, 4, 0, 3, 1, 5], [2, 4, 0, 3, 5, 1], [2, 4, 0, 5, 1, 3], [2, 4, 0, 5, 3, 1], [2, 4, 1, 0, 3, 5], [2, 4, 1, 0, 5, 3], [2, 4, 1, 3, 0, 5], [2, 4, 1, 3, 5, 0], [2, 4, 1, 5, 0, 3], [2, 4, 1, 5, 3, 0], [2, 4, 3, 0, 1, 5], [2, 4, 3, 0, 5, 1], [2, 4, 3, 1, 0, 5], [2, 4, 3, 1, 5, 0], [2, 4, 3, 5, 0, 1], [2, 4, 3, 5, 1, 0], [2, 4, 5, 0, 1, 3], [2, 4, 5, 0, 3, 1], [2, 4, 5, 1, 0, 3], [2, 4, 5, 1, 3, 0], [2, 4, 5, 3, 0, 1], [2, 4, 5, 3, 1, 0], [2, 5, 0, 1, 3, 4], [2, 5, 0, 1, 4, 3], [2, 5, 0, 3, 1, 4], [2, 5, 0, 3, 4, 1], [2, 5, 0, 4, 1, 3], [2, 5, 0, 4, 3, 1], [2, 5, 1, 0, 3, 4], [2, 5, 1, 0, 4, 3], [2, 5, 1, 3, 0, 4], [2, 5, 1, 3, 4, 0], [2, 5, 1, 4, 0, 3], [2, 5, 1, 4, 3, 0], [2, 5, 3, 0, 1, 4], [2, 5, 3, 0, 4, 1], [2, 5, 3, 1, 0, 4], [2, 5, 3, 1, 4, 0], [2, 5, 3, 4, 0, 1], [2, 5, 3, 4, 1, 0], [2, 5, 4, 0, 1, 3], [2, 5, 4, 0, 3, 1], [2, 5, 4, 1, 0, 3], [2, 5, 4, 1, 3, 0], [2, 5, 4, 3, 0, 1], [2, 5, 4, 3, 1, 0], [3, 0, 1, 2, 4, 5], [3, 0, 1, 2, 5, 4], [3, 0, 1, 4, 2, 5], [3, 0, 1, 4, 5, 2], [3, 0, 1, 5, 2, 4], [3, 0, 1, 5, 4, 2], [3, 0, 2, 1, 4, 5], [3, 0, 2, 1, 5, 4], [3, 0, 2, 4, 1, 5], [3, 0, 2, 4, 5, 1], [3, 0, 2, 5, 1, 4], [3, 0, 2, 5, 4, 1], [3, 0, 4, 1, 2, 5], [3, 0, 4, 1, 5, 2], [3, 0, 4, 2, 1, 5], [3, 0, 4, 2, 5, 1], [3, 0, 4, 5, 1, 2], [3, 0, 4, 5, 2, 1], [3, 0, 5, 1, 2, 4], [3, 0, 5, 1, 4, 2], [3, 0, 5, 2, 1, 4], [3, 0, 5, 2, 4, 1], [3, 0, 5, 4, 1, 2], [3, 0, 5, 4, 2, 1], [3, 1, 0, 2, 4, 5], [3, 1, 0, 2, 5, 4], [3, 1, 0, 4, 2, 5], [3, 1, 0, 4, 5, 2], [3, 1, 0, 5, 2, 4], [3, 1, 0, 5, 4, 2], [3, 1, 2, 0, 4, 5], [3, 1, 2, 0, 5, 4], [3, 1, 2, 4, 0, 5], [3, 1, 2, 4, 5, 0], [3, 1, 2, 5, 0, 4], [3, 1, 2, 5, 4, 0], [3, 1, 4, 0, 2, 5], [3, 1, 4, 0, 5, 2], [3, 1, 4, 2, 0, 5], [3, 1, 4, 2, 5, 0], [3, 1, 4, 5, 0, 2], [3, 1, 4, 5, 2, 0], [3, 1, 5, 0, 2, 4], [3, 1, 5, 0, 4, 2], [3, 1, 5, 2, 0, 4], [3, 1, 5, 2, 4, 0], [3, 1, 5, 4, 0, 2], [3, 1, 5, 4, 2, 0], [3, 2, 0, 1, 4, 5], [3, 2, 0, 1, 5, 4], [3, 2, 0, 4, 1, 5], [3, 2, 0, 4, 5, 1], [3, 2, 0, 5, 1, 4], [3, 2, 0, 5, 4, 1], [3, 2, 1, 0, 4, 5], [3, 2, 1, 0, 5, 4], [3, 2, 1, 4, 0, 5], [3, 2, 1, 4, 5, 0], [3, 2, 1, 5, 0, 4], [3, 2, 1, 5, 4, 0], [3, 2, 4, 0, 1, 5], [3, 2, 4, 0, 5, 1], [3, 2, 4, 1, 0, 5], [3, 2, 4, 1, 5, 0], [3, 2, 4, 5, 0, 1], [3, 2, 4, 5, 1, 0], [3, 2, 5, 0, 1, 4], [3, 2, 5, 0, 4, 1], [3, 2, 5, 1, 0, 4], [3, 2, 5, 1, 4, 0], [3, 2, 5, 4, 0, 1], [3, 2, 5, 4, 1, 0], [3, 4, 0, 1, 2, 5], [3, 4, 0, 1, 5, 2], [3, 4, 0, 2, 1, 5], [3, 4, 0, 2, 5, 1], [3, 4, 0, 5, 1, 2], [3, 4, 0, 5, 2, 1], [3, 4, 1, 0, 2, 5], [3, 4, 1, 0, 5, 2], [3, 4, 1, 2, 0, 5], [3, 4, 1, 2, 5, 0], [3, 4, 1, 5, 0, 2], [3, 4, 1, 5, 2, 0], [3, 4, 2, 0, 1, 5], [3, 4, 2, 0, 5, 1], [3, 4, 2, 1, 0, 5], [3, 4, 2, 1, 5, 0], [3, 4, 2, 5, 0, 1], [3, 4, 2, 5, 1, 0], [3, 4, 5, 0, 1, 2], [3, 4, 5, 0, 2, 1], [3, 4, 5, 1, 0, 2], [3, 4, 5, 1, 2, 0], [3, 4, 5, 2, 0, 1], [3, 4, 5, 2, 1, 0], [3, 5, 0, 1, 2, 4], [3, 5, 0, 1, 4, 2], [3, 5, 0, 2, 1, 4], [3, 5, 0, 2, 4, 1], [3, 5, 0, 4, 1, 2], [3, 5, 0, 4, 2, 1], [3, 5, 1, 0, 2, 4], [3, 5, 1, 0, 4, 2], [3, 5, 1, 2, 0, 4], [3, 5, 1, 2, 4, 0], [3, 5, 1, 4, 0, 2], [3, 5, 1, 4, 2, 0], [3, 5, 2, 0, 1, 4], [3, 5, 2, 0, 4, 1], [3, 5, 2, 1, 0, 4], [3, 5, 2, 1, 4, 0], [3, 5, 2, 4, 0, 1], [3, 5, 2, 4, 1, 0], [3, 5, 4, 0, 1, 2], [3, 5, 4, 0, 2, 1], [3, 5, 4, 1, 0, 2], [3, 5, 4, 1, 2, 0], [3, 5, 4, 2, 0, 1], [3, 5, 4, 2, 1, 0], [4, 0, 1, 2, 3, 5], [4, 0, 1, 2, 5, 3], [4, 0, 1, 3, 2, 5], [4, 0, 1, 3, 5, 2], [4, 0, 1, 5, 2, 3], [4, 0, 1, 5, 3, 2], [4, 0, 2, 1, 3, 5], [4, 0, 2, 1, 5, 3], [4, 0, 2, 3, 1, 5], [4, 0, 2, 3, 5, 1], [4, 0, 2, 5, 1, 3], [4, 0, 2, 5, 3, 1], [4, 0, 3, 1, 2, 5], [4, 0, 3, 1, 5, 2], [4, 0, 3, 2, 1, 5], [4, 0, 3, 2, 5, 1], [4, 0, 3, 5, 1, 2], [4, 0, 3, 5, 2, 1], [4, 0, 5, 1, 2, 3], [4, 0, 5, 1, 3, 2], [4, 0, 5, 2, 1, 3], [4, 0, 5, 2, 3, 1], [4, 0, 5, 3, 1, 2], [4, 0, 5, 3, 2, 1], [4, 1, 0, 2, 3, 5], [4, 1, 0, 2, 5, 3], [4, 1, 0, 3, 2, 5], [4, 1, 0, 3, 5, 2], [4, 1, 0, 5, 2, 3], [4, 1, 0, 5, 3, 2], [4, 1, 2, 0, 3, 5], [4, 1, 2, 0, 5, 3], [4, 1, 2, 3, 0, 5], [4, 1, 2, 3, 5, 0], [4, 1, 2, 5, 0, 3], [4, 1, 2, 5, 3, 0], [4, 1, 3, 0, 2, 5], [4, 1, 3, 0, 5, 2], [4, 1, 3, 2, 0, 5], [4, 1, 3, 2, 5, 0], [4, 1, 3, 5, 0, 2], [4, 1, 3, 5, 2, 0], [4, 1, 5, 0, 2, 3], [4, 1, 5, 0, 3, 2], [4, 1, 5, 2, 0, 3], [4, 1, 5, 2, 3, 0], [4, 1, 5, 3, 0, 2], [4, 1, 5, 3, 2, 0], [4, 2, 0, 1, 3, 5], [4, 2, 0, 1, 5, 3], [4, 2, 0, 3, 1, 5], [4, 2, 0, 3, 5, 1], [4, 2, 0, 5, 1, 3], [4, 2, 0, 5, 3, 1], [4, 2, 1, 0, 3, 5], [4, 2, 1, 0, 5, 3], [4, 2, 1, 3, 0, 5], [4, 2, 1, 3, 5, 0], [4, 2, 1, 5, 0, 3], [4, 2, 1, 5, 3, 0], [4, 2, 3, 0, 1, 5], [4, 2, 3, 0, 5, 1], [4, 2, 3, 1, 0, 5], [4, 2, 3, 1, 5, 0], [4, 2, 3, 5, 0, 1], [4, 2, 3, 5, 1, 0], [4, 2, 5, 0, 1, 3], [4, 2, 5, 0, 3, 1], [4, 2, 5, 1, 0, 3], [4, 2, 5, 1, 3, 0], [4, 2, 5, 3, 0, 1], [4, 2, 5, 3, 1, 0], [4, 3, 0, 1, 2, 5], [4, 3, 0, 1, 5, 2], [4, 3, 0, 2, 1, 5], [4, 3, 0, 2, 5, 1], [4, 3, 0, 5, 1, 2], [4, 3, 0, 5, 2, 1], [4, 3, 1, 0, 2, 5], [4, 3, 1, 0, 5, 2], [4, 3, 1, 2, 0, 5], [4, 3, 1, 2, 5, 0], [4, 3, 1, 5, 0, 2], [4, 3, 1, 5, 2, 0], [4, 3, 2, 0, 1, 5], [4, 3, 2, 0, 5, 1], [4, 3, 2, 1, 0, 5], [4, 3, 2, 1, 5, 0], [4, 3, 2, 5, 0, 1], [4, 3, 2, 5, 1, 0], [4, 3, 5, 0, 1, 2], [4, 3, 5, 0, 2, 1], [4, 3, 5, 1, 0, 2], [4, 3, 5, 1, 2, 0], [4, 3, 5, 2, 0, 1], [4, 3, 5, 2, 1, 0], [4, 5, 0, 1, 2, 3], [4, 5, 0, 1, 3, 2], [4, 5, 0, 2, 1, 3], [4, 5, 0, 2, 3, 1], [4, 5, 0, 3, 1, 2], [4, 5, 0, 3, 2, 1], [4, 5, 1, 0, 2, 3], [4, 5, 1, 0, 3, 2], [4, 5, 1, 2, 0, 3], [4, 5, 1, 2, 3, 0], [4, 5, 1, 3, 0, 2], [4, 5, 1, 3, 2, 0], [4, 5, 2, 0, 1, 3], [4, 5, 2, 0, 3, 1], [4, 5, 2, 1, 0, 3], [4, 5, 2, 1, 3, 0], [4, 5, 2, 3, 0, 1], [4, 5, 2, 3, 1, 0], [4, 5, 3, 0, 1, 2], [4, 5, 3, 0, 2, 1], [4, 5, 3, 1, 0, 2], [4, 5, 3, 1, 2, 0], [4, 5, 3, 2, 0, 1], [4, 5, 3, 2, 1, 0], [5, 0, 1, 2, 3, 4], [5, 0, 1, 2, 4, 3], [5, 0, 1, 3, 2, 4], [5, 0, 1, 3, 4, 2], [5, 0, 1, 4, 2, 3], [5, 0, 1, 4, 3, 2], [5, 0, 2, 1, 3, 4], [5, 0, 2, 1, 4, 3], [5, 0, 2, 3, 1, 4], [5, 0, 2, 3, 4, 1], [5, 0, 2, 4, 1, 3], [5, 0, 2, 4, 3, 1], [5, 0, 3, 1, 2, 4], [5, 0, 3, 1, 4, 2], [5, 0, 3, 2, 1, 4], [5, 0, 3, 2, 4, 1], [5, 0, 3, 4, 1, 2], [5, 0, 3, 4, 2, 1], [5, 0, 4, 1, 2, 3], [5, 0, 4, 1, 3, 2], [5, 0, 4, 2, 1, 3], [5, 0, 4, 2, 3, 1], [5, 0, 4, 3, 1, 2], [5, 0, 4, 3, 2, 1], [5, 1, 0, 2, 3, 4], [5, 1, 0, 2, 4, 3], [5, 1, 0, 3, 2, 4], [5, 1, 0, 3, 4, 2], [5, 1, 0, 4, 2, 3], [5, 1, 0, 4, 3, 2], [5, 1, 2, 0, 3, 4], [5, 1, 2, 0, 4, 3], [5, 1, 2, 3, 0, 4], [5, 1, 2, 3, 4, 0], [5, 1, 2, 4, 0, 3], [5, 1, 2, 4, 3, 0], [5, 1, 3, 0, 2, 4], [5, 1, 3, 0, 4, 2], [5, 1, 3, 2, 0, 4], [5, 1, 3, 2, 4, 0], [5, 1, 3, 4, 0, 2], [5, 1, 3, 4, 2, 0], [5, 1, 4, 0, 2, 3], [5, 1, 4, 0, 3, 2], [5, 1, 4, 2, 0, 3], [5, 1, 4, 2, 3, 0], [5, 1, 4, 3, 0, 2], [5, 1, 4, 3, 2, 0], [5, 2, 0, 1, 3, 4], [5, 2, 0, 1, 4, 3], [5, 2, 0, 3, 1, 4], [5, 2, 0, 3, 4, 1], [5, 2, 0, 4, 1, 3], [5, 2, 0, 4, 3, 1], [5, 2, 1, 0, 3, 4], [5, 2, 1, 0, 4, 3], [5, 2, 1, 3, 0, 4], [5, 2, 1, 3, 4, 0], [5, 2, 1, 4, 0, 3], [5, 2, 1, 4, 3, 0], [5, 2, 3, 0, 1, 4], [5, 2, 3, 0, 4, 1], [5, 2, 3, 1, 0, 4], [5, 2, 3, 1, 4, 0], [5, 2, 3, 4, 0, 1], [5, 2, 3, 4, 1, 0], [5, 2, 4, 0, 1, 3], [5, 2, 4, 0, 3, 1], [5, 2, 4, 1, 0, 3], [5, 2, 4, 1, 3, 0], [5, 2, 4, 3, 0, 1], [5, 2, 4, 3, 1, 0], [5, 3, 0, 1, 2, 4], [5, 3, 0, 1, 4, 2], [5, 3, 0, 2, 1, 4], [5, 3, 0, 2, 4, 1], [5, 3, 0, 4, 1, 2], [5, 3, 0, 4, 2, 1], [5, 3, 1, 0, 2, 4], [5, 3, 1, 0, 4, 2], [5, 3, 1, 2, 0, 4], [5, 3, 1, 2, 4, 0], [5, 3, 1, 4, 0, 2], [5, 3, 1, 4, 2, 0], [5, 3, 2, 0, 1, 4], [5, 3, 2, 0, 4, 1], [5, 3, 2, 1, 0, 4], [5, 3, 2, 1, 4, 0], [5, 3, 2, 4, 0, 1], [5, 3, 2, 4, 1, 0], [5, 3, 4, 0, 1, 2], [5, 3, 4, 0, 2, 1], [5, 3, 4, 1, 0, 2], [5, 3, 4, 1, 2, 0], [5, 3, 4, 2, 0, 1], [5, 3, 4, 2, 1, 0], [5, 4, 0, 1, 2, 3], [5, 4, 0, 1, 3, 2], [5, 4, 0, 2, 1, 3], [5, 4, 0, 2, 3, 1], [5, 4, 0, 3, 1, 2], [5, 4, 0, 3, 2, 1], [5, 4, 1, 0, 2, 3], [5, 4, 1, 0, 3, 2], [5, 4, 1, 2, 0, 3], [5, 4, 1, 2, 3, 0], [5, 4, 1, 3, 0, 2], [5, 4, 1, 3, 2, 0], [5, 4, 2, 0, 1, 3], [5, 4, 2, 0, 3, 1], [5, 4, 2, 1, 0, 3], [5, 4, 2, 1, 3, 0], [5, 4, 2, 3, 0, 1], [5, 4, 2, 3, 1, 0], [5, 4, 3, 0, 1, 2], [5, 4, 3, 0, 2, 1], [5, 4, 3, 1, 0, 2], [5, 4, 3, 1, 2, 0], [5, 4, 3, 2, 0, 1], [5, 4, 3, 2, 1, 0]]
def permN : Nat → List (List Nat)
  | 0 => perm0
  | 1 => perm1
  | 2 => perm2
  | 3 => perm3
  | 4 => perm4
  | 5 => perm5
  | 6 => perm6
  | _ => []
theorem chk0 : chkP 0 perm0 = true := by decide +kernel
theorem chk1 : chkP 1 perm1 = true := by decide +kernel
theorem chk2 : chkP 2 perm2 = true := by decide +kernel
theorem chk3 : chkP 3 perm3 = true := by decide +kernel
theorem chk4 : chkP 4 perm4 = true := by decide +kernel
theorem chk5 : chkP 5 perm5 = true := by decide +kernel
theorem chk6 : chkP 6 perm6 = true := by decide +kernel
theorem chkN : ∀ n, n ≤ 6 → chkP n (permN n) = true
  | 0, _ => chk0
  | 1, _ => chk1
  | 2, _ => chk2
  | 3, _ => chk3
  | 4, _ => chk4
  | 5, _ => chk5
  | 6, _ => chk6
  | n + 7, h => by omega
theorem lenN : ∀ n, n ≤ 6 → (permN n).length ≤ 720 := by decide +kernel
theorem headN : ∀ n, n ≤ 6 → ∃ r, permN n = List.range n :: r
  | 0, _ => ⟨[], by decide⟩
  | 1, _ => ⟨[], by decide⟩
  | 2, _ => ⟨perm2.tail, by decide⟩
  | 3, _ => ⟨perm3.tail, by decide⟩
  | 4, _ => ⟨perm4.tail, by rfl⟩
  | 5, _ => ⟨perm5.tail, by rfl⟩
  | 6, _ => ⟨perm6.tail, by rfl⟩
  | n + 7, h => by omega
