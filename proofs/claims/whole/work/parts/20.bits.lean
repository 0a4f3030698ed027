/-! sets as bits -/
theorem bv_nI (n : Nat) : (nI n).toBitVec = BitVec.ofNat 32 n := rfl
theorem nI_or (a b : Nat) : nI a ||| nI b = nI (a ||| b) := by
  apply Int32.toBitVec_inj.mp
  rw [Int32.toBitVec_or, bv_nI, bv_nI, bv_nI]
  apply BitVec.eq_of_getLsbD_eq
  intro i hi
  simp [BitVec.getLsbD_ofNat, Nat.testBit_or, hi]
theorem nI_and (a b : Nat) : nI a &&& nI b = nI (a &&& b) := by
  apply Int32.toBitVec_inj.mp
  rw [Int32.toBitVec_and, bv_nI, bv_nI, bv_nI]
  apply BitVec.eq_of_getLsbD_eq
  intro i hi
  simp [BitVec.getLsbD_ofNat, Nat.testBit_and, hi]
theorem nI_xor (a b : Nat) : nI a ^^^ nI b = nI (a ^^^ b) := by
  apply Int32.toBitVec_inj.mp
  rw [Int32.toBitVec_xor, bv_nI, bv_nI, bv_nI]
  apply BitVec.eq_of_getLsbD_eq
  intro i hi
  simp [BitVec.getLsbD_ofNat, Nat.testBit_xor, hi]
theorem nI_m1 : (-1 : Int32) = nI 4294967295 := by decide
theorem nI_one : (1 : Int32) = nI 1 := rfl
theorem shl_1 : ∀ x, x < 31 → (1 : Int32) <<< (nI x &&& 31) = nI (2 ^ x) := by decide +kernel
theorem has_b : ∀ s, s < 256 → ∀ x, x < 8 → ((nI s >>> (nI x &&& 31)) &&& 1 = 1 ↔ Nat.testBit s x = true) := by decide +kernel
theorem has_v : ∀ s, s < 256 → ∀ x, x < 8 → ((nI s >>> (nI x &&& 31)) &&& 1 = nI (if Nat.testBit s x = true then 1 else 0)) := by decide +kernel
theorem full_b : ∀ n, n ≤ 8 → ((1 : Int32) <<< (nI n &&& 31)) - 1 = nI (2 ^ n - 1) := by decide +kernel
theorem v_has1 {d s x : Nat} {M : lc_M} (hs : s < 256) (hx : x < 8) (h : s.testBit x = true) : lc_val d 106 0 [.int (nI s), .int (nI x)] [] lc_SH M = some (some (.int 1), lc_SH, M) := by
  rw [sg_106_0_0, if_neg (nI_pos (by omega)), lc_it_val, sg_106_0_4, if_neg (fun q => q ((has_b s hs x hx).mpr h))]
theorem v_has0 {d s x : Nat} {M : lc_M} (hs : s < 256) (hx : x < 8) (h : ¬ s.testBit x = true) : lc_val d 106 0 [.int (nI s), .int (nI x)] [] lc_SH M = some (some (.int 0), lc_SH, M) := by
  rw [sg_106_0_0, if_neg (nI_pos (by omega)), lc_it_val, sg_106_0_4, if_pos (fun q => h ((has_b s hs x hx).mp q))]
theorem v_hasN {d : Nat} {s : Int32} {M : lc_M} : lc_val d 106 0 [.int s, .int (-1)] [] lc_SH M = some (some (.int 0), lc_SH, M) := by
  rw [sg_106_0_0, if_pos (by decide)]
theorem v_mhas1 {d s x : Nat} {M : lc_M} (hs : s < 256) (hx : x < 8) (h : s.testBit x = true) : lc_val d 118 0 [.int (nI s), .int (nI x)] [] lc_SH M = some (some (.int 1), lc_SH, M) := by
  rw [sg_118_0_0, if_neg (fun q => q ((has_b s hs x hx).mpr h))]
theorem v_mhas0 {d s x : Nat} {M : lc_M} (hs : s < 256) (hx : x < 8) (h : ¬ s.testBit x = true) : lc_val d 118 0 [.int (nI s), .int (nI x)] [] lc_SH M = some (some (.int 0), lc_SH, M) := by
  rw [sg_118_0_0, if_pos (fun q => h ((has_b s hs x hx).mp q))]
/-- the set of those below n that are so -/
def bs (f : Nat → Bool) : Nat → Nat
  | 0 => 0
  | n + 1 => bs f n ||| (if f n = true then 2 ^ n else 0)
theorem bs_bit (f : Nat → Bool) : ∀ n x, (bs f n).testBit x = (decide (x < n) && f x)
  | 0, x => by simp [bs]
  | n + 1, x => by
    rw [bs, Nat.testBit_or, bs_bit f n x]
    by_cases hf : f n = true
    · rw [if_pos hf, Nat.testBit_two_pow]
      by_cases hx : n = x
      · subst hx; simp [hf]
      · have : (x < n + 1) ↔ (x < n) := by omega
        simp [hx, this]
    · rw [if_neg hf]
      by_cases hx : x = n
      · subst hx; simp [hf]
      · have : (x < n + 1) ↔ (x < n) := by omega
        simp [this]
theorem bs_lt (f : Nat → Bool) : ∀ n, bs f n < 2 ^ n
  | 0 => by simp [bs]
  | n + 1 => by
    rw [bs]
    apply Nat.or_lt_two_pow
    · have := bs_lt f n
      have h2 : 2 ^ (n + 1) = 2 * 2 ^ n := by rw [Nat.pow_succ]; omega
      omega
    · have h2 : 2 ^ (n + 1) = 2 * 2 ^ n := by rw [Nat.pow_succ]; omega
      have h3 : 0 < 2 ^ n := Nat.pos_of_ne_zero (by simp)
      split <;> omega
theorem bs_eq {q n : Nat} {f : Nat → Bool} (hq : q < 2 ^ n) (h : ∀ x, x < n → q.testBit x = f x) : q = bs f n := by
  apply Nat.eq_of_testBit_eq
  intro x
  rw [bs_bit]
  by_cases hx : x < n
  · rw [h x hx]; simp [hx]
  · have h2 : 2 ^ n ≤ 2 ^ x := Nat.pow_le_pow_right (by decide) (by omega)
    rw [Nat.testBit_lt_two_pow (by omega)]
    simp [hx]
theorem bs_congr {f g : Nat → Bool} : ∀ {n : Nat}, (∀ x, x < n → f x = g x) → bs f n = bs g n
  | 0, _ => rfl
  | n + 1, h => by rw [bs, bs, bs_congr (fun x hx => h x (by omega)), h n (by omega)]
theorem bs_256 {f : Nat → Bool} {n : Nat} (hn : n ≤ 8) : bs f n < 256 := Nat.lt_of_lt_of_le (bs_lt f n) (Nat.pow_le_pow_right (n := 2) (by decide) hn)
/-- a set of the class's, as bs -/
theorem bitsOf_bs {s : Int32} {n : Nat} {P : Nat → Prop} {f : Nat → Bool} (h : bitsOf s n P) (hf : ∀ x, x < n → (f x = true ↔ P x)) : s = nI (bs f n) := by
  obtain ⟨q, rfl, hq, hb⟩ := h
  rw [bs_eq hq (f := f) (fun x hx => by
    have h1 := hb x hx
    have h2 := hf x hx
    cases e : q.testBit x with
    | true => exact (h2.mpr (h1.mp e)).symm
    | false =>
      cases e2 : f x with
      | false => rfl
      | true => rw [h1.mpr (h2.mp e2)] at e; cases e)]
theorem bs_bitsOf {n : Nat} {P : Nat → Prop} {f : Nat → Bool} (hf : ∀ x, x < n → (f x = true ↔ P x)) : bitsOf (nI (bs f n)) n P := ⟨bs f n, rfl, bs_lt f n, fun x hx => by rw [bs_bit]; simp [hx, hf x hx]⟩
/-- which crossings are so -/
def wayB (r : aRow) (w : Nat) (x : Nat) : Bool := decide (rHow r x = w)
theorem ru_bs {p : aPat} {r : aRow} {mi ru dn bu : Int32} {en pi pa : Nat → Int32} (h : cRow p r mi ru dn bu en pi pa) : ru = nI (bs (wayB r 1) (pNx p)) := bitsOf_bs h.2.1 (fun x _ => by simp [wayB])
theorem dn_bs {p : aPat} {r : aRow} {mi ru dn bu : Int32} {en pi pa : Nat → Int32} (h : cRow p r mi ru dn bu en pi pa) : dn = nI (bs (wayB r 2) (pNx p)) := bitsOf_bs h.2.2.1 (fun x _ => by simp [wayB])
theorem full_bit (n x : Nat) : (2 ^ n - 1).testBit x = decide (x < n) := Nat.testBit_two_pow_sub_one n x
theorem nI_add0 (a b : Nat) : nI a + nI b = nI (a + b) := nI_add a b
/-- the reference's sets, in the row at a place -/
theorem v_inWay {d nx at0 w : Nat} {M : lc_M} {how : Nat → Nat} (hx : M 43 5 = nI nx) (hnx : nx ≤ 8) (ha : at0 ≤ 900) (hh : ∀ x, x < nx → M 44 (at0 + 12 + x) = nI (how x) ∧ how x ≤ 2) (hw : w ≤ 2) :
    ∀ (k i : Nat), i + k = nx → lc_val (d + 1) 134 5 [.ref 43, .int (nI at0), .int (nI w), .int (nI (bs (fun x => decide (how x = w)) i)), .int (nI i)] [] lc_SH M = some (some (.int (nI (bs (fun x => decide (how x = w)) nx))), lc_SH, M)
  | 0, i, h => by
    rw [sg_134_0_5, hx, if_pos (nI_le (by omega) (by omega)), show i = nx by omega]
  | k + 1, i, h => by
    have hi := hh i (by omega)
    have h8 : bs (fun x => decide (how x = w)) i < 256 := bs_256 (by omega)
    rw [sg_134_0_5, hx, if_neg (nI_ge (by omega) (by omega)), lc_it_val, sg_134_0_14, show (12 : Int32) = nI 12 from rfl, nI_add, nI_add, if_pos (nI_in (by omega) (by decide)), nI_clamp (by omega), hi.1]
    have ih := v_inWay (d := d) hx hnx ha hh hw k (i + 1) (by omega)
    by_cases q : how i = w
    · rw [if_neg (fun z => z (by rw [q])), sg_134_0_31, sg_117_0_0, if_neg (by decide), lc_bk1, sg_134_0_39, shl_1 i (by omega), nI_or, nI_1]
      rw [show bs (fun x => decide (how x = w)) (i + 1) = bs (fun x => decide (how x = w)) i ||| 2 ^ i by rw [bs, if_pos (by simp [q])]] at ih
      exact ih
    · rw [if_pos (fun z => q ((nI_eq (by omega) (by omega)).mp z)), sg_134_0_35, sg_117_0_0, if_pos (by decide), lc_bk1, sg_134_0_39, nI_1]
      rw [show bs (fun x => decide (how x = w)) (i + 1) = bs (fun x => decide (how x = w)) i by rw [bs, if_neg (by simp [q])]; simp] at ih
      rw [show nI (bs (fun x => decide (how x = w)) i) ||| (0 : Int32) <<< (nI i &&& 31) = nI (bs (fun x => decide (how x = w)) i) by simp]
      exact ih
