/-! the text, read: one reading for both sides -/
def skA (t : Nat → Nat) : Nat → Nat → Nat
  | 0, i => i
  | k + 1, i => if t i = 32 then skA t k (i + 1) else i
def skN (t : Nat → Nat) (L i : Nat) : Nat := skA t (L - i) i
def isD (c : Nat) : Bool := decide (48 ≤ c) && decide (c ≤ 57)
def dgA (t : Nat → Nat) : Nat → Nat → Nat
  | 0, i => i
  | k + 1, i => if isD (t i) = true then dgA t k (i + 1) else i
def nvA (t : Nat → Nat) : Nat → Nat → Nat → Nat
  | 0, _, v => v
  | k + 1, i, v => if isD (t i) = true then nvA t k (i + 1) (10 * v + (t i - 48)) else v
def cvA (t : Nat → Nat) : Nat → Nat → Nat → Nat
  | 0, _, v => v
  | k + 1, i, v => if isD (t i) = true then cvA t k (i + 1) (if 1000 < v * 10 + t i - 48 then 1000 else v * 10 + t i - 48) else v
def mvA (t : Nat → Nat) : Nat → Nat → Nat → Nat
  | 0, _, v => v
  | k + 1, i, v => if isD (t i) = true then mvA t k (i + 1) (if v ≤ 99999 then 10 * v + t i - 48 else v) else v
theorem isD_iff {c : Nat} : isD c = true ↔ (48 ≤ c ∧ c ≤ 57) := by unfold isD; simp
theorem skA_in {t : Nat → Nat} : ∀ (k i : Nat), i ≤ skA t k i ∧ skA t k i ≤ i + k
  | 0, i => ⟨Nat.le_refl _, Nat.le_refl _⟩
  | k + 1, i => by
    rw [skA]
    by_cases q : t i = 32
    · rw [if_pos q]
      have := skA_in (t := t) k (i + 1)
      omega
    · rw [if_neg q]; omega
theorem skA_not {t : Nat → Nat} : ∀ (k i : Nat), skA t k i < i + k → ¬ t (skA t k i) = 32
  | 0, i, h => by rw [skA] at h; omega
  | k + 1, i, h => by
    rw [skA] at h ⊢
    by_cases q : t i = 32
    · rw [if_pos q] at h ⊢
      exact skA_not k (i + 1) (by omega)
    · rw [if_neg q]; exact q
theorem skN_in {t : Nat → Nat} {L i : Nat} (h : i ≤ L) : i ≤ skN t L i ∧ skN t L i ≤ L := by
  have := skA_in (t := t) (L - i) i
  unfold skN
  omega
theorem skN_not {t : Nat → Nat} {L i : Nat} (h : i ≤ L) (hj : skN t L i < L) : ¬ t (skN t L i) = 32 := by
  unfold skN at hj ⊢
  exact skA_not (L - i) i (by omega)
theorem skN_id {t : Nat → Nat} {L i : Nat} (h : i < L → ¬ t i = 32) : skN t L i = i := by
  unfold skN
  cases e : L - i with
  | zero => rfl
  | succ k => rw [skA, if_neg (h (by omega))]
theorem skN_skN {t : Nat → Nat} {L i : Nat} (h : i ≤ L) : skN t L (skN t L i) = skN t L i := skN_id (fun hj => skN_not h hj)
theorem dgA_in {t : Nat → Nat} : ∀ (k i : Nat), i ≤ dgA t k i ∧ dgA t k i ≤ i + k
  | 0, i => ⟨Nat.le_refl _, Nat.le_refl _⟩
  | k + 1, i => by
    rw [dgA]
    by_cases q : isD (t i) = true
    · rw [if_pos q]
      have := dgA_in (t := t) k (i + 1)
      omega
    · rw [if_neg q]; omega
theorem cvA_nv {t : Nat → Nat} : ∀ (k i v : Nat), cvA t k i (if 1000 < v then 1000 else v) = if 1000 < nvA t k i v then 1000 else nvA t k i v
  | 0, _, _ => rfl
  | k + 1, i, v => by
    rw [cvA, nvA]
    by_cases q : isD (t i) = true
    · have hd := isD_iff.mp q
      rw [if_pos q, if_pos q, ← cvA_nv k (i + 1) (10 * v + (t i - 48))]
      refine congrArg (cvA t k (i + 1)) ?_
      by_cases h1 : 1000 < v
      · rw [if_pos h1, if_pos (by omega), if_pos (by omega)]
      · rw [if_neg h1]
        by_cases h2 : 1000 < v * 10 + t i - 48
        · rw [if_pos h2, if_pos (by omega)]
        · rw [if_neg h2, if_neg (by omega)]; omega
    · rw [if_neg q, if_neg q]
theorem mvA_step {t : Nat → Nat} {m B B' : Nat} (h : ∀ k i v, dgA t k i ≤ i + m → v ≤ B → mvA t k i v = nvA t k i v) (hB : 10 * B' + 9 ≤ B) (hB2 : B' ≤ 99999) : ∀ k i v, dgA t k i ≤ i + (m + 1) → v ≤ B' → mvA t k i v = nvA t k i v := by
  intro k i v hd hv
  cases k with
  | zero => rfl
  | succ k =>
    rw [mvA, nvA]
    rw [dgA] at hd
    by_cases q : isD (t i) = true
    · have hq := isD_iff.mp q
      rw [if_pos q] at hd ⊢
      rw [if_pos q, if_pos (by omega), show 10 * v + t i - 48 = 10 * v + (t i - 48) by omega]
      exact h k (i + 1) _ (by omega) (by omega)
    · rw [if_neg q, if_neg q]
theorem mvA_0 {t : Nat → Nat} : ∀ k i v, dgA t k i ≤ i + 0 → v ≤ 999 → mvA t k i v = nvA t k i v := by
  intro k i v hd _
  cases k with
  | zero => rfl
  | succ k =>
    rw [mvA, nvA]
    rw [dgA] at hd
    by_cases q : isD (t i) = true
    · rw [if_pos q] at hd
      have := (dgA_in (t := t) k (i + 1)).1
      omega
    · rw [if_neg q, if_neg q]
theorem mvA_nv {t : Nat → Nat} {k i : Nat} (h : dgA t k i ≤ i + 3) : mvA t k i 0 = nvA t k i 0 :=
  mvA_step (B := 9) (B' := 0) (mvA_step (B := 99) (B' := 9) (mvA_step (B := 999) (B' := 99) mvA_0 (by decide) (by decide)) (by decide) (by decide)) (by decide) (by decide) k i 0 h (Nat.le_refl _)
theorem mvA_le {t : Nat → Nat} : ∀ (k i v : Nat), v ≤ 1000000 → mvA t k i v ≤ 1000000
  | 0, _, _, h => h
  | k + 1, i, v, h => by
    rw [mvA]
    by_cases q : isD (t i) = true
    · have hq := isD_iff.mp q
      rw [if_pos q]
      refine mvA_le k (i + 1) _ ?_
      split <;> omega
    · rw [if_neg q]; exact h
theorem cvA_le {t : Nat → Nat} : ∀ (k i v : Nat), v ≤ 1000 → cvA t k i v ≤ 1000
  | 0, _, _, h => h
  | k + 1, i, v, h => by
    rw [cvA]
    by_cases q : isD (t i) = true
    · rw [if_pos q]
      refine cvA_le k (i + 1) _ ?_
      split <;> omega
    · rw [if_neg q]; exact h
abbrev aErr : Type := Nat × Nat
/-- a number: its fault, or its value, the place behind it, the place of its first figure -/
def numP (t : Nat → Nat) (L i : Nat) : aErr ⊕ (Nat × Nat × Nat) := if dgA t (L - skN t L i) (skN t L i) = skN t L i then .inl (1, skN t L i) else if 3 < dgA t (L - skN t L i) (skN t L i) - skN t L i then .inl (2, skN t L i) else .inr (nvA t (L - skN t L i) (skN t L i) 0, dgA t (L - skN t L i) (skN t L i), skN t L i)
def readN (t : Nat → Nat) (L lo H i : Nat) : aErr ⊕ (Nat × Nat × Nat) := match numP t L i with
  | .inl e => .inl e
  | .inr (v, j, s) => if lo ≤ v ∧ v < H then .inr (v, j, s) else .inl (2, s)
def readP (t : Nat → Nat) (L nx i : Nat) : aErr ⊕ (Nat × Nat × Nat) := match numP t L i with
  | .inl e => .inl e
  | .inr (v, j, s) => if v = 9 ∨ v < nx then .inr (v, j, s) else .inl (2, s)
def okE (L : Nat) (e : aErr) : Prop := 1 ≤ e.1 ∧ e.1 ≤ 4 ∧ e.2 ≤ L
theorem okE_of {L f w : Nat} (h1 : 1 ≤ f) (h2 : f ≤ 4) (h3 : w ≤ L) : okE L (f, w) := ⟨h1, h2, h3⟩
theorem numP_err {t : Nat → Nat} {L i : Nat} {e : aErr} (hi : i ≤ L) (h : numP t L i = .inl e) : okE L e := by
  have hs := skN_in (t := t) hi
  unfold numP at h
  by_cases q1 : dgA t (L - skN t L i) (skN t L i) = skN t L i
  · rw [if_pos q1] at h
    injection h with h
    subst h
    exact okE_of (by decide) (by decide) hs.2
  · rw [if_neg q1] at h
    by_cases q2 : 3 < dgA t (L - skN t L i) (skN t L i) - skN t L i
    · rw [if_pos q2] at h
      injection h with h
      subst h
      exact okE_of (by decide) (by decide) hs.2
    · rw [if_neg q2] at h; cases h
theorem numP_ok {t : Nat → Nat} {L i v j s : Nat} (hi : i ≤ L) (h : numP t L i = .inr (v, j, s)) : i ≤ s ∧ s < j ∧ j ≤ L := by
  have hs := skN_in (t := t) hi
  have hd := dgA_in (t := t) (L - skN t L i) (skN t L i)
  unfold numP at h
  by_cases q1 : dgA t (L - skN t L i) (skN t L i) = skN t L i
  · rw [if_pos q1] at h; cases h
  · rw [if_neg q1] at h
    by_cases q2 : 3 < dgA t (L - skN t L i) (skN t L i) - skN t L i
    · rw [if_pos q2] at h; cases h
    · rw [if_neg q2] at h
      injection h with h
      injection h with h1 h2
      injection h2 with h2 h3
      subst h2; subst h3
      omega
theorem readN_err {t : Nat → Nat} {L lo H i : Nat} {e : aErr} (hi : i ≤ L) (h : readN t L lo H i = .inl e) : okE L e := by
  unfold readN at h
  cases hn : numP t L i with
  | inl e' =>
    rw [hn] at h
    injection h with h
    subst h
    exact numP_err hi hn
  | inr r =>
    obtain ⟨v, j, s⟩ := r
    rw [hn] at h
    have h' : (if lo ≤ v ∧ v < H then (.inr (v, j, s) : aErr ⊕ (Nat × Nat × Nat)) else .inl (2, s)) = .inl e := h
    by_cases q : lo ≤ v ∧ v < H
    · rw [if_pos q] at h'; cases h'
    · rw [if_neg q] at h'
      injection h' with h'
      subst h'
      have := numP_ok hi hn
      exact okE_of (by decide) (by decide) (by omega)
theorem readN_ok {t : Nat → Nat} {L lo H i v j s : Nat} (hi : i ≤ L) (h : readN t L lo H i = .inr (v, j, s)) : i ≤ s ∧ s < j ∧ j ≤ L ∧ lo ≤ v ∧ v < H := by
  unfold readN at h
  cases hn : numP t L i with
  | inl e' => rw [hn] at h; cases h
  | inr r =>
    obtain ⟨v', j', s'⟩ := r
    rw [hn] at h
    have h' : (if lo ≤ v' ∧ v' < H then (.inr (v', j', s') : aErr ⊕ (Nat × Nat × Nat)) else .inl (2, s')) = .inr (v, j, s) := h
    by_cases q : lo ≤ v' ∧ v' < H
    · rw [if_pos q] at h'
      injection h' with h'
      injection h' with h1 h2
      injection h2 with h2 h3
      subst h1; subst h2; subst h3
      have := numP_ok hi hn
      omega
    · rw [if_neg q] at h'; cases h'
theorem readP_err {t : Nat → Nat} {L nx i : Nat} {e : aErr} (hi : i ≤ L) (h : readP t L nx i = .inl e) : okE L e := by
  unfold readP at h
  cases hn : numP t L i with
  | inl e' =>
    rw [hn] at h
    injection h with h
    subst h
    exact numP_err hi hn
  | inr r =>
    obtain ⟨v, j, s⟩ := r
    rw [hn] at h
    have h' : (if v = 9 ∨ v < nx then (.inr (v, j, s) : aErr ⊕ (Nat × Nat × Nat)) else .inl (2, s)) = .inl e := h
    by_cases q : v = 9 ∨ v < nx
    · rw [if_pos q] at h'; cases h'
    · rw [if_neg q] at h'
      injection h' with h'
      subst h'
      have := numP_ok hi hn
      exact okE_of (by decide) (by decide) (by omega)
theorem readP_ok {t : Nat → Nat} {L nx i v j s : Nat} (hi : i ≤ L) (h : readP t L nx i = .inr (v, j, s)) : i ≤ s ∧ s < j ∧ j ≤ L ∧ (v = 9 ∨ v < nx) := by
  unfold readP at h
  cases hn : numP t L i with
  | inl e' => rw [hn] at h; cases h
  | inr r =>
    obtain ⟨v', j', s'⟩ := r
    rw [hn] at h
    have h' : (if v' = 9 ∨ v' < nx then (.inr (v', j', s') : aErr ⊕ (Nat × Nat × Nat)) else .inl (2, s')) = .inr (v, j, s) := h
    by_cases q : v' = 9 ∨ v' < nx
    · rw [if_pos q] at h'
      injection h' with h'
      injection h' with h1 h2
      injection h2 with h2 h3
      subst h1; subst h2; subst h3
      have := numP_ok hi hn
      exact ⟨by omega, by omega, by omega, q⟩
    · rw [if_neg q] at h'; cases h'
/-- the class reads the P within 0 .. 9 first: the same -/
theorem readP_N {t : Nat → Nat} {L nx i : Nat} (h8 : nx ≤ 8) : readP t L nx i = match readN t L 0 10 i with
    | .inl e => .inl e
    | .inr (v, j, s) => if v < nx ∨ v = 9 then .inr (v, j, s) else .inl (2, s) := by
  unfold readP readN
  cases hn : numP t L i with
  | inl e => rfl
  | inr r =>
    obtain ⟨v, j, s⟩ := r
    show (if v = 9 ∨ v < nx then (.inr (v, j, s) : aErr ⊕ (Nat × Nat × Nat)) else .inl (2, s)) = match (if 0 ≤ v ∧ v < 10 then (.inr (v, j, s) : aErr ⊕ (Nat × Nat × Nat)) else .inl (2, s)) with
      | .inl e => .inl e
      | .inr (v, j, s) => if v < nx ∨ v = 9 then .inr (v, j, s) else .inl (2, s)
    by_cases q : 0 ≤ v ∧ v < 10
    · rw [if_pos q]
      show _ = if v < nx ∨ v = 9 then (.inr (v, j, s) : aErr ⊕ (Nat × Nat × Nat)) else .inl (2, s)
      by_cases q2 : v < nx ∨ v = 9
      · rw [if_pos q2, if_pos (by omega)]
      · rw [if_neg q2, if_neg (by omega)]
    · rw [if_neg q]
      show _ = (.inl (2, s) : aErr ⊕ (Nat × Nat × Nat))
      rw [if_neg (by omega)]
/-! clauses -/
def setE (D : aPat) (l c : Nat) : aPat := (l, c, pNm D, pNx D, pEar D, pA D, pB D, pMi D, pBe D)
def addM (D : aPat) (e : Nat) : aPat := (pLn D, pCo D, pNm D + 1, pNx D, fun m => if m = pNm D then e else pEar D m, pA D, pB D, pMi D, pBe D)
def addX (D : aPat) (a b m : Nat) (q : Option Nat) : aPat := (pLn D, pCo D, pNm D, pNx D + 1, pEar D, fun x => if x = pNx D then a else pA D x, fun x => if x = pNx D then b else pB D x, fun x => if x = pNx D then m else pMi D x, fun x => if x = pNx D then q else pBe D x)
def exP (t : Nat → Nat) (L : Nat) (D : aPat) (i : Nat) : aErr ⊕ (aPat × Nat) := match readN t L 1 4 i with
  | .inl e => .inl e
  | .inr (l, j, _) => match readN t L 0 100 j with
    | .inl e => .inl e
    | .inr (c, j2, _) => .inr (setE D l c, j2)
def maP (t : Nat → Nat) (L : Nat) (D : aPat) (i : Nat) : aErr ⊕ (aPat × Nat) := match readN t L 0 3 i with
  | .inl e => .inl e
  | .inr (v, j, _) => .inr (addM D v, j)
def crP2 (t : Nat → Nat) (L : Nat) (D : aPat) (a b i : Nat) : aErr ⊕ (aPat × Nat) := match readN t L 1 21 i with
  | .inl e => .inl e
  | .inr (m, j, _) => match readP t L (pNx D) j with
    | .inl e => .inl e
    | .inr (q, j2, _) => .inr (addX D a b m (if q = 9 then none else some q), j2)
def crP (t : Nat → Nat) (L : Nat) (D : aPat) (i : Nat) : aErr ⊕ (aPat × Nat) := match readN t L 0 (pNm D) i with
  | .inl e => .inl e
  | .inr (a, j, _) => match readN t L 0 (pNm D) j with
    | .inl e => .inl e
    | .inr (b, j2, s) => if a = b then .inl (4, s) else crP2 t L D a b j2
/-- what is wrong with a word -/
def wdF (D : aPat) (c : Nat) : Nat := if c = 101 then (if pLn D = 0 then 0 else 3) else if pLn D = 0 then 1 else if c = 109 then (if pNm D < 6 then 0 else 3) else if c = 120 then (if pNx D < 8 then 0 else 3) else 1
def clP (t : Nat → Nat) (L : Nat) (D : aPat) (i : Nat) : aErr ⊕ (aPat × Nat) := if wdF D (t i) = 0 then (if t i = 101 then exP t L D (i + 1) else if t i = 109 then maP t L D (i + 1) else crP t L D (i + 1)) else .inl (wdF D (t i), i)
def enP (t : Nat → Nat) (L i : Nat) : aErr ⊕ Nat := if skN t L i < L ∧ t (skN t L i) = 59 then .inr (skN t L i + 1) else .inl (1, skN t L i)
def ceP (t : Nat → Nat) (L : Nat) (D : aPat) (i : Nat) : aErr ⊕ (aPat × Nat) := match clP t L D i with
  | .inl e => .inl e
  | .inr (D', j) => match enP t L j with
    | .inl e => .inl e
    | .inr k => .inr (D', k)
def paP (t : Nat → Nat) (L : Nat) : Nat → aPat → Nat → aErr ⊕ aPat
  | 0, D, _ => .inr D
  | f + 1, D, i => if skN t L i < L then (match ceP t L D (skN t L i) with
    | .inl e => .inl e
    | .inr (D', k) => paP t L f D' k) else .inr D
theorem vPat_E {D : aPat} {l c : Nat} (h : vPat D) (h1 : 1 ≤ l) (h2 : l < 4) (h3 : c < 100) : vPat (setE D l c) := by
  obtain ⟨a1, a2, a3, a4, a5, a6, a7, a8⟩ := h
  exact ⟨by show l ≤ 3; omega, by show c ≤ 99; omega, a3, a4, fun z => absurd (show l = 0 from z) (by omega), a6, a7, a8⟩
theorem vPat_M {D : aPat} {e : Nat} (h : vPat D) (h0 : pLn D ≠ 0) (hn : pNm D < 6) (he : e < 3) : vPat (addM D e) := by
  obtain ⟨a1, a2, a3, a4, a5, a6, a7, a8⟩ := h
  refine ⟨a1, a2, by show pNm D + 1 ≤ 6; omega, a4, fun z => absurd z h0, fun m hm => ?_, fun x hx => ?_, a8⟩
  · show (if m = pNm D then e else pEar D m) ≤ 2
    have hm' : m < pNm D + 1 := hm
    by_cases q : m = pNm D
    · rw [if_pos q]; omega
    · rw [if_neg q]; exact a6 m (by omega)
  · obtain ⟨b1, b2, b3, b4, b5⟩ := a7 x hx
    exact ⟨by show pA D x < pNm D + 1; omega, by show pB D x < pNm D + 1; omega, b3, b4, b5⟩
theorem vPat_X {D : aPat} {a b m : Nat} {q : Option Nat} (h : vPat D) (h0 : pLn D ≠ 0) (hn : pNx D < 8) (ha : a < pNm D) (hb : b < pNm D) (hab : a ≠ b) (h1 : 1 ≤ m) (h2 : m < 21) (hq : ∀ z, q = some z → z < pNx D) : vPat (addX D a b m q) := by
  obtain ⟨a1, a2, a3, a4, a5, a6, a7, a8⟩ := h
  refine ⟨a1, a2, a3, by show pNx D + 1 ≤ 8; omega, fun z => absurd z h0, a6, fun x hx => ?_, fun x z hx hz => ?_⟩
  · have hx' : x < pNx D + 1 := hx
    show (if x = pNx D then a else pA D x) < pNm D ∧ (if x = pNx D then b else pB D x) < pNm D ∧ (if x = pNx D then a else pA D x) ≠ (if x = pNx D then b else pB D x) ∧ 1 ≤ (if x = pNx D then m else pMi D x) ∧ (if x = pNx D then m else pMi D x) ≤ 20
    by_cases e : x = pNx D
    · rw [if_pos e, if_pos e, if_pos e]; exact ⟨ha, hb, hab, h1, by omega⟩
    · rw [if_neg e, if_neg e, if_neg e]; exact a7 x (by omega)
  · have hx' : x < pNx D + 1 := hx
    have hz' : (if x = pNx D then q else pBe D x) = some z := hz
    by_cases e : x = pNx D
    · rw [if_pos e] at hz'
      have := hq z hz'
      omega
    · rw [if_neg e] at hz'; exact a8 x z (by omega) hz'
theorem wdF_le (D : aPat) (c : Nat) : wdF D c ≤ 4 := by
  unfold wdF
  split
  · split <;> omega
  · split
    · omega
    · split
      · split <;> omega
      · split
        · split <;> omega
        · omega
theorem wdF_ok {D : aPat} {c : Nat} (h : wdF D c = 0) : (c = 101 ∧ pLn D = 0) ∨ (c = 109 ∧ pLn D ≠ 0 ∧ pNm D < 6) ∨ (c = 120 ∧ pLn D ≠ 0 ∧ pNx D < 8) := by
  unfold wdF at h
  by_cases q1 : c = 101
  · rw [if_pos q1] at h
    by_cases q2 : pLn D = 0
    · exact Or.inl ⟨q1, q2⟩
    · rw [if_neg q2] at h; cases h
  · rw [if_neg q1] at h
    by_cases q2 : pLn D = 0
    · rw [if_pos q2] at h; cases h
    · rw [if_neg q2] at h
      by_cases q3 : c = 109
      · rw [if_pos q3] at h
        by_cases q4 : pNm D < 6
        · exact Or.inr (Or.inl ⟨q3, q2, q4⟩)
        · rw [if_neg q4] at h; cases h
      · rw [if_neg q3] at h
        by_cases q4 : c = 120
        · rw [if_pos q4] at h
          by_cases q5 : pNx D < 8
          · exact Or.inr (Or.inr ⟨q4, q2, q5⟩)
          · rw [if_neg q5] at h; cases h
        · rw [if_neg q4] at h; cases h
/-- what comes of it is sensible -/
def okR (L i : Nat) (r : aErr ⊕ (aPat × Nat)) : Prop := match r with
  | .inl e => okE L e
  | .inr (D, j) => vPat D ∧ i ≤ j ∧ j ≤ L
theorem exP_ok {t : Nat → Nat} {L : Nat} {D : aPat} {i : Nat} (hv : vPat D) (hi : i ≤ L) : okR L i (exP t L D i) := by
  unfold exP
  cases h1 : readN t L 1 4 i with
  | inl e => exact readN_err hi h1
  | inr r =>
    obtain ⟨l, j, s⟩ := r
    have g1 := readN_ok hi h1
    show okR L i (match readN t L 0 100 j with
      | .inl e => .inl e
      | .inr (c, j2, _) => .inr (setE D l c, j2))
    cases h2 : readN t L 0 100 j with
    | inl e => exact readN_err (by omega) h2
    | inr r =>
      obtain ⟨c, j2, s2⟩ := r
      have g2 := readN_ok (by omega) h2
      exact ⟨vPat_E hv (by omega) (by omega) (by omega), by omega, by omega⟩
theorem maP_ok {t : Nat → Nat} {L : Nat} {D : aPat} {i : Nat} (hv : vPat D) (h0 : pLn D ≠ 0) (hn : pNm D < 6) (hi : i ≤ L) : okR L i (maP t L D i) := by
  unfold maP
  cases h1 : readN t L 0 3 i with
  | inl e => exact readN_err hi h1
  | inr r =>
    obtain ⟨l, j, s⟩ := r
    have g1 := readN_ok hi h1
    exact ⟨vPat_M hv h0 hn (by omega), by omega, by omega⟩
theorem crP_ok {t : Nat → Nat} {L : Nat} {D : aPat} {i : Nat} (hv : vPat D) (h0 : pLn D ≠ 0) (hn : pNx D < 8) (hi : i ≤ L) : okR L i (crP t L D i) := by
  unfold crP
  cases h1 : readN t L 0 (pNm D) i with
  | inl e => exact readN_err hi h1
  | inr r =>
    obtain ⟨a, j, s⟩ := r
    have g1 := readN_ok hi h1
    show okR L i (match readN t L 0 (pNm D) j with
      | .inl e => .inl e
      | .inr (b, j2, s) => if a = b then .inl (4, s) else crP2 t L D a b j2)
    cases h2 : readN t L 0 (pNm D) j with
    | inl e => exact readN_err (by omega) h2
    | inr r =>
      obtain ⟨b, j2, s2⟩ := r
      have g2 := readN_ok (by omega) h2
      show okR L i (if a = b then .inl (4, s2) else crP2 t L D a b j2)
      by_cases q : a = b
      · rw [if_pos q]; exact okE_of (by decide) (by decide) (by omega)
      · rw [if_neg q]
        unfold crP2
        cases h3 : readN t L 1 21 j2 with
        | inl e => exact readN_err (by omega) h3
        | inr r =>
          obtain ⟨m, j3, s3⟩ := r
          have g3 := readN_ok (by omega) h3
          show okR L i (match readP t L (pNx D) j3 with
            | .inl e => .inl e
            | .inr (q, j2, _) => .inr (addX D a b m (if q = 9 then none else some q), j2))
          cases h4 : readP t L (pNx D) j3 with
          | inl e => exact readP_err (by omega) h4
          | inr r =>
            obtain ⟨z, j4, s4⟩ := r
            have g4 := readP_ok (by omega) h4
            refine ⟨vPat_X hv h0 hn (by omega) (by omega) q (by omega) (by omega) (fun y hy => ?_), by omega, by omega⟩
            by_cases e : z = 9
            · rw [if_pos e] at hy; cases hy
            · rw [if_neg e] at hy
              injection hy with hy
              omega
theorem clP_ok {t : Nat → Nat} {L : Nat} {D : aPat} {i : Nat} (hv : vPat D) (hi : i < L) : okR L (i + 1) (clP t L D i) := by
  unfold clP
  by_cases h : wdF D (t i) = 0
  · rw [if_pos h]
    rcases wdF_ok h with ⟨q, _⟩ | ⟨q, q1, q2⟩ | ⟨q, q1, q2⟩
    · rw [if_pos q]; exact exP_ok hv (by omega)
    · rw [if_neg (by omega), if_pos q]; exact maP_ok hv q1 q2 (by omega)
    · rw [if_neg (by omega), if_neg (by omega)]; exact crP_ok hv q1 q2 (by omega)
  · rw [if_neg h]
    exact ⟨by show 1 ≤ wdF D (t i); omega, wdF_le _ _, by show i ≤ L; omega⟩
theorem ceP_ok {t : Nat → Nat} {L : Nat} {D : aPat} {i : Nat} (hv : vPat D) (hi : i < L) : okR L (i + 1) (ceP t L D i) := by
  have h := clP_ok (t := t) hv hi
  unfold ceP
  cases h1 : clP t L D i with
  | inl e => rw [h1] at h; exact h
  | inr r =>
    obtain ⟨D', j⟩ := r
    rw [h1] at h
    obtain ⟨g1, g2, g3⟩ := h
    have hs := skN_in (t := t) g3
    show okR L (i + 1) (match enP t L j with
      | .inl e => .inl e
      | .inr k => .inr (D', k))
    unfold enP
    by_cases q : skN t L j < L ∧ t (skN t L j) = 59
    · rw [if_pos q]; exact ⟨g1, by omega, by omega⟩
    · rw [if_neg q]; exact okE_of (by decide) (by decide) hs.2
theorem paP_ok {t : Nat → Nat} {L : Nat} : ∀ (f : Nat) (D : aPat) (i : Nat), vPat D → i ≤ L → (match paP t L f D i with
    | .inl e => okE L e
    | .inr D' => vPat D')
  | 0, D, i, hv, hi => hv
  | f + 1, D, i, hv, hi => by
    rw [paP]
    by_cases q : skN t L i < L
    · rw [if_pos q]
      have h := ceP_ok (t := t) hv q
      cases h1 : ceP t L D (skN t L i) with
      | inl e => rw [h1] at h; exact h
      | inr r =>
        obtain ⟨D', k⟩ := r
        rw [h1] at h
        exact paP_ok f D' k h.1 h.2.2
    · rw [if_neg q]; exact hv
