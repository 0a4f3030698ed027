/-! THE PURE PART: one mathematical state for the class and the reference. No machine here: equations of lc_val. -/
theorem lc_bk1 {f : List Value → lc_Sh → lc_M → Option lc_Res} {st : List Value} {x : Int32} {M : lc_M} : lc_back 59 f st (some (some (.int x), lc_SH, M)) = f (.int x :: st) lc_SH M := rfl
theorem lc_bk0 {f : List Value → lc_Sh → lc_M → Option lc_Res} {st : List Value} {M : lc_M} : lc_back 59 f st (some (none, lc_SH, M)) = f st lc_SH M := rfl
theorem up_at (M : lc_M) (r j : Nat) (x : Int32) (c i : Nat) : lc_up M r j x c i = if c = r then (if i = j then x else M c i) else M c i := by
  unfold lc_up lc_set
  by_cases h : c = r
  · subst h
    rw [if_pos rfl, if_pos rfl]
    rfl
  · rw [if_neg h, if_neg h]
theorem up_ne {M : lc_M} {r j : Nat} {x : Int32} {c : Nat} (h : c ≠ r) : lc_up M r j x c = M c := if_neg h
theorem set_ne {M : lc_M} {r : Nat} {f : Nat → Int32} {c : Nat} (h : c ≠ r) : lc_set M r f c = M c := if_neg h
theorem set_eq {M : lc_M} {r : Nat} {f : Nat → Int32} : lc_set M r f r = f := if_pos rfl
/-- the pattern: lines, cost, makers, crossings, ears, first and second of each crossing, minutes, behind which -/
abbrev aPat : Type := Nat × Nat × Nat × Nat × (Nat → Nat) × (Nat → Nat) × (Nat → Nat) × (Nat → Nat) × (Nat → Option Nat)
def pLn (p : aPat) : Nat := p.1
def pCo (p : aPat) : Nat := p.2.1
def pNm (p : aPat) : Nat := p.2.2.1
def pNx (p : aPat) : Nat := p.2.2.2.1
def pEar (p : aPat) : Nat → Nat := p.2.2.2.2.1
def pA (p : aPat) : Nat → Nat := p.2.2.2.2.2.1
def pB (p : aPat) : Nat → Nat := p.2.2.2.2.2.2.1
def pMi (p : aPat) : Nat → Nat := p.2.2.2.2.2.2.2.1
def pBe (p : aPat) : Nat → Option Nat := p.2.2.2.2.2.2.2.2
/-- what is so at a minute: the minute, how each crossing is (0 open, 1 rung, 2 done), till when, pins, bills -/
abbrev aRow : Type := Nat × (Nat → Nat) × (Nat → Nat) × (Nat → Nat) × (Nat → Nat)
def rT (r : aRow) : Nat := r.1
def rHow (r : aRow) : Nat → Nat := r.2.1
def rTill (r : aRow) : Nat → Nat := r.2.2.1
def rPin (r : aRow) : Nat → Nat := r.2.2.2.1
def rPaid (r : aRow) : Nat → Nat := r.2.2.2.2
/-- the state: pattern, row, rows to undo (newest first), images with seeds, text, fault, what lies, the book, the seed -/
abbrev aSt : Type := aPat × aRow × List aRow × (Nat → Option (aRow × Nat)) × List Nat × Int32 × List (Nat × Nat) × List (Nat × Nat) × Nat
def sP (S : aSt) : aPat := S.1
def sR (S : aSt) : aRow := S.2.1
def sU (S : aSt) : List aRow := S.2.2.1
def sI (S : aSt) : Nat → Option (aRow × Nat) := S.2.2.2.1
def sX (S : aSt) : List Nat := S.2.2.2.2.1
def sF (S : aSt) : Int32 := S.2.2.2.2.2.1
def sL (S : aSt) : List (Nat × Nat) := S.2.2.2.2.2.2.1
def sB (S : aSt) : List (Nat × Nat) := S.2.2.2.2.2.2.2.1
def sS (S : aSt) : Nat := S.2.2.2.2.2.2.2.2
def beI : Option Nat → Int32
  | none => -1
  | some p => nI p
/-! what is sensible -/
def vPat (p : aPat) : Prop := pLn p ≤ 3 ∧ pCo p ≤ 99 ∧ pNm p ≤ 6 ∧ pNx p ≤ 8 ∧ (pLn p = 0 → pNm p = 0 ∧ pNx p = 0) ∧ (∀ m, m < pNm p → pEar p m ≤ 2) ∧ (∀ x, x < pNx p → pA p x < pNm p ∧ pB p x < pNm p ∧ pA p x ≠ pB p x ∧ 1 ≤ pMi p x ∧ pMi p x ≤ 20) ∧ ∀ x q, x < pNx p → pBe p x = some q → q < x
def vRow (n : Nat) (p : aPat) (r : aRow) : Prop := rT r ≤ 60 * n ∧ (∀ x, x < pNx p → rHow r x ≤ 2) ∧ (∀ x, x < pNx p → rHow r x = 1 → rT r < rTill r x ∧ rTill r x ≤ rT r + pMi p x) ∧ (∀ x, x < pNx p → rHow r x = 2 → rTill r x ≤ rT r) ∧ (∀ m, m < 6 → rPin r m < 6) ∧ (∀ m, m < 6 → rPaid r m ≤ 1000000 * n) ∧
  ∀ x y, x < pNx p → y < pNx p → rHow r x = 1 → rHow r y = 1 → x ≠ y → pA p x ≠ pA p y ∧ pA p x ≠ pB p y ∧ pB p x ≠ pA p y ∧ pB p x ≠ pB p y
def vSt (n : Nat) (S : aSt) : Prop := vPat (sP S) ∧ vRow n (sP S) (sR S) ∧ ((sU S).length ≤ 30 ∧ ∀ r ∈ sU S, vRow n (sP S) r) ∧ (∀ i r q, sI S i = some (r, q) → vRow n (sP S) r ∧ q < 2147483648) ∧ ((sX S).length ≤ 200 ∧ ∀ c ∈ sX S, c ≤ 255) ∧ ((sL S).length ≤ 6 ∧ ∀ q ∈ sL S, q.1 < pNm (sP S) ∧ q.2 < pNm (sP S)) ∧ ((sB S).length ≤ 20 ∧ ∀ q ∈ sB S, q.1 < pNm (sP S) ∧ q.2 < pNm (sP S)) ∧ sS S < 2147483648
/-! how the class holds it -/
def cPat (p : aPat) (h : Nat → Int32) (ear a b mi be : Nat → Int32) : Prop := h 0 = nI (pLn p) ∧ h 1 = nI (pCo p) ∧ h 2 = nI (pNm p) ∧ h 3 = nI (pNx p) ∧ (∀ m, m < pNm p → ear m = nI (pEar p m)) ∧ ∀ x, x < pNx p → a x = nI (pA p x) ∧ b x = nI (pB p x) ∧ mi x = nI (pMi p x) ∧ be x = beI (pBe p x)
/-- a set of crossings, or of makers, as bits -/
def bitsOf (s : Int32) (n : Nat) (P : Nat → Prop) : Prop := ∃ q : Nat, s = nI q ∧ q < 2 ^ n ∧ ∀ x, x < n → (q.testBit x = true ↔ P x)
def cRow (p : aPat) (r : aRow) (mi ru dn bu : Int32) (en pi pa : Nat → Int32) : Prop := mi = nI (rT r) ∧ bitsOf ru (pNx p) (fun x => rHow r x = 1) ∧ bitsOf dn (pNx p) (fun x => rHow r x = 2) ∧ bitsOf bu 6 (fun m => ∃ x, x < pNx p ∧ rHow r x = 1 ∧ (pA p x = m ∨ pB p x = m)) ∧
  (∀ x, x < pNx p → rHow r x ≠ 0 → en x = nI (rTill r x)) ∧ (∀ m, m < 6 → pi m = nI (rPin r m)) ∧ ∀ m, m < 6 → pa m = nI (rPaid r m)
/-- a row as the class stores it, from a place on -/
def cRowAt (p : aPat) (r : aRow) (f : Nat → Int32) (b : Nat) : Prop := cRow p r (f b) (f (b + 1)) (f (b + 2)) (f (b + 3)) (fun x => f (b + 4 + x)) (fun m => f (b + 12 + m)) (fun m => f (b + 18 + m))
def cNotes (l : List (Nat × Nat)) (h a b : Nat → Int32) : Prop := h 3 = nI l.length ∧ ∀ j x y, l[j]? = some (x, y) → a j = nI x ∧ b j = nI y
def cUndo (p : aPat) (u : List aRow) (h f : Nat → Int32) : Prop := ∃ nxt, nxt < 30 ∧ h 1 = nI nxt ∧ h 2 = nI u.length ∧ ∀ j r, u[j]? = some r → cRowAt p r f (24 * ((nxt + 29 - j) % 30))
def cImg (p : aPat) (I : Nat → Option (aRow × Nat)) (h f s : Nat → Int32) : Prop := bitsOf (h 2) 2 (fun i => (I i).isSome = true) ∧ ∀ i r q, i < 2 → I i = some (r, q) → cRowAt p r f (24 * i) ∧ s i = nI q
def repC (S : aSt) (M : lc_M) : Prop := cPat (sP S) (M 9) (M 10) (M 11) (M 12) (M 13) (M 14) ∧ cRow (sP S) (sR S) (M 16 1) (M 16 2) (M 16 3) (M 16 4) (M 17) (M 18) (M 19) ∧ cUndo (sP S) (sU S) (M 20) (M 21) ∧ cImg (sP S) (sI S) (M 22) (M 23) (M 24) ∧
  (M 1 1 = nI (sX S).length ∧ ∀ j c, (sX S)[j]? = some c → M 2 j = nI c) ∧ M 1 3 = sF S ∧ (M 33 0 = 6 ∧ cNotes (sL S) (M 33) (M 34) (M 35)) ∧ (M 36 0 = 20 ∧ cNotes (sB S) (M 36) (M 37) (M 38)) ∧ M 0 11 = nI (sS S)
/-! how the reference holds it -/
def mRowAt (p : aPat) (r : aRow) (f : Nat → Int32) (b : Nat) : Prop := (∀ m, m < 6 → f (b + m) = nI (rPin r m)) ∧ (∀ m, m < 6 → f (b + 6 + m) = nI (rPaid r m)) ∧ (∀ x, x < pNx p → f (b + 12 + x) = nI (rHow r x)) ∧ (∀ x, x < pNx p → f (b + 20 + x) = if rHow r x = 0 then -1 else nI (rTill r x)) ∧ f (b + 28) = nI (rT r)
def mNotes (l : List (Nat × Nat)) (n : Int32) (a b : Nat → Int32) : Prop := n = nI l.length ∧ ∀ j x y, l[j]? = some (x, y) → a j = nI x ∧ b j = nI y
def repM (S : aSt) (M : lc_M) : Prop := cPat (sP S) (fun k => M 43 (k + 2)) (M 46) (M 47) (M 48) (M 49) (M 50) ∧ mRowAt (sP S) (sR S) (M 44) 0 ∧ (M 43 22 = nI (sU S).length ∧ ∀ j r, (sU S)[j]? = some r → mRowAt (sP S) r (M 44) (120 + 30 * ((sU S).length - 1 - j))) ∧
  ((∀ i, i < 2 → M 45 i = if (sI S i).isSome = true then 1 else 0) ∧ ∀ i r q, i < 2 → sI S i = some (r, q) → mRowAt (sP S) r (M 44) (60 + 30 * i) ∧ M 44 (60 + 30 * i + 29) = nI q) ∧
  (M 43 16 = nI (sX S).length ∧ ∀ j c, (sX S)[j]? = some c → M 51 j = nI c) ∧ M 43 20 = sF S ∧ mNotes (sL S) (M 43 28) (M 54) (M 55) ∧ mNotes (sB S) (M 43 32) (M 57) (M 58) ∧ M 44 29 = nI (sS S)
/-- what holds between two calls -/
def lc_Inv (n : Nat) (M : lc_M) : Prop := ∃ S : aSt, vSt n S ∧ repC S M ∧ repM S M
/-- each side sees only its own cells -/
theorem repC_ext {S : aSt} {M M' : lc_M} (h : repC S M) (e : ∀ c, c < 43 → M' c = M c) : repC S M' := by
  unfold repC at h ⊢
  rw [e 9 (by decide), e 10 (by decide), e 11 (by decide), e 12 (by decide), e 13 (by decide), e 14 (by decide), e 16 (by decide), e 17 (by decide), e 18 (by decide), e 19 (by decide), e 20 (by decide), e 21 (by decide), e 22 (by decide), e 23 (by decide), e 24 (by decide), e 1 (by decide), e 2 (by decide), e 33 (by decide), e 34 (by decide), e 35 (by decide), e 36 (by decide), e 37 (by decide), e 38 (by decide), e 0 (by decide)]
  exact h
theorem repM_ext {S : aSt} {M M' : lc_M} (h : repM S M) (e : ∀ c, 43 ≤ c → M' c = M c) : repM S M' := by
  unfold repM at h ⊢
  rw [e 43 (by decide), e 44 (by decide), e 45 (by decide), e 46 (by decide), e 47 (by decide), e 48 (by decide), e 49 (by decide), e 50 (by decide), e 51 (by decide), e 54 (by decide), e 55 (by decide), e 57 (by decide), e 58 (by decide)]
  exact h
theorem vRow_up {n : Nat} {p : aPat} {r : aRow} (h : vRow n p r) : vRow (n + 1) p r := by
  obtain ⟨h1, h2, h3, h4, h5, h6, h7⟩ := h
  exact ⟨by omega, h2, h3, h4, h5, fun m hm => by have := h6 m hm; omega, h7⟩
theorem vSt_up {n : Nat} {S : aSt} (h : vSt n S) : vSt (n + 1) S := by
  obtain ⟨h1, h2, ⟨h3, h4⟩, h5, h6⟩ := h
  exact ⟨h1, vRow_up h2, ⟨h3, fun r hr => vRow_up (h4 r hr)⟩, fun i r q hq => ⟨vRow_up (h5 i r q hq).1, (h5 i r q hq).2⟩, h6⟩
/-- one call, as the law needs it: the class's side and the reference's side against one mathematical answer -/
def opOK (kc km : Nat) (as : List Value) : Prop := ∀ (n : Nat) (S : aSt), n < 64 → vSt n S → ∃ (r : Int32) (S' : aSt), vSt (n + 1) S' ∧
  (∀ M, repC S M → ∃ M1, lc_val 8 kc 0 (lc_ent kc (.ref 0 :: as)) [] lc_SH M = some (some (.int r), lc_SH, M1) ∧ repC S' M1 ∧ ∀ c, 43 ≤ c → M1 c = M c) ∧
  (∀ M, repM S M → ∃ M2, lc_val 8 km 0 (lc_ent km (.ref 43 :: as)) [] lc_SH M = some (some (.int r), lc_SH, M2) ∧ repM S' M2 ∧ ∀ c, c < 43 → M2 c = M c)
theorem opOK_step {kc km : Nat} {as : List Value} (h : opOK kc km as) {n : Nat} (hn : n < 64) {M : lc_M} (hI : lc_Inv n M) : ∃ (r : Int32) (M1 M2 : lc_M), lc_val 8 kc 0 (lc_ent kc (.ref 0 :: as)) [] lc_SH M = some (some (.int r), lc_SH, M1) ∧ lc_val 8 km 0 (lc_ent km (.ref 43 :: as)) [] lc_SH M1 = some (some (.int r), lc_SH, M2) ∧ lc_Inv (n + 1) M2 := by
  obtain ⟨S, hv, hC, hM⟩ := hI
  obtain ⟨r, S', hv', hc, hm⟩ := h n S hn hv
  obtain ⟨M1, e1, hC1, f1⟩ := hc M hC
  obtain ⟨M2, e2, hM2, f2⟩ := hm M1 (repM_ext hM f1)
  exact ⟨r, M1, M2, e1, e2, S', hv', repC_ext hC1 f2, hM2⟩
/-- a call that changes nothing on either side -/
theorem opOK_const {kc km : Nat} {as : List Value} (h : ∀ (n : Nat) (S : aSt), n < 64 → vSt n S → ∃ r : Int32, (∀ M, repC S M → ∃ M1, lc_val 8 kc 0 (lc_ent kc (.ref 0 :: as)) [] lc_SH M = some (some (.int r), lc_SH, M1) ∧ repC S M1 ∧ ∀ c, 43 ≤ c → M1 c = M c) ∧ (∀ M, repM S M → ∃ M2, lc_val 8 km 0 (lc_ent km (.ref 43 :: as)) [] lc_SH M = some (some (.int r), lc_SH, M2) ∧ repM S M2 ∧ ∀ c, c < 43 → M2 c = M c)) : opOK kc km as := by
  intro n S hn hv
  obtain ⟨r, h1, h2⟩ := h n S hn hv
  exact ⟨r, S, vSt_up hv, h1, h2⟩
/-- the state behind the constructors -/
def aSt0 : aSt := ((0, 0, 0, 0, fun _ => 0, fun _ => 0, fun _ => 0, fun _ => 0, fun _ => none), (0, fun _ => 0, fun _ => 0, fun _ => 0, fun _ => 0), [], fun _ => none, [], -1, [], [], 0)
/-! one fact: fault -/
theorem op_fault : opOK 76 131 [] := by
  refine opOK_const (fun n S hn hv => ⟨sF S, fun M hM => ⟨M, ?_, hM, fun _ _ => rfl⟩, fun M hM => ⟨M, ?_, hM, fun _ _ => rfl⟩⟩)
  · show lc_val 8 76 0 [.ref 0] [] lc_SH M = _
    rw [sg_76_0_0, hM.2.2.2.2.2.1]
  · show lc_val 8 131 0 [.ref 43] [] lc_SH M = _
    rw [sg_131_0_0, hM.2.2.2.2.2.1]
