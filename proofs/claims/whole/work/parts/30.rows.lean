/-! rows: stored, loaded, copied, remembered -/
def stW (S : aSt) (r : aRow) (u : List aRow) (I : Nat → Option (aRow × Nat)) (q : Nat) : aSt := (sP S, r, u, I, sX S, sF S, sL S, sB S, q)
theorem repC_W {S : aSt} {M M' : lc_M} {r : aRow} {u : List aRow} {I : Nat → Option (aRow × Nat)} {q : Nat} (h : repC S M) (e : ∀ c, (c = 1 ∨ c = 2 ∨ (9 ≤ c ∧ c ≤ 14) ∨ (33 ≤ c ∧ c ≤ 38)) → M' c = M c) (hr : cRow (sP S) r (M' 16 1) (M' 16 2) (M' 16 3) (M' 16 4) (M' 17) (M' 18) (M' 19)) (hu : cUndo (sP S) u (M' 20) (M' 21)) (hi : cImg (sP S) I (M' 22) (M' 23) (M' 24)) (hq : M' 0 11 = nI q) : repC (stW S r u I q) M' := by
  obtain ⟨h1, _, _, _, h5, h6, h7, h8, _⟩ := h
  refine ⟨?_, hr, hu, hi, ?_, ?_, ?_, ?_, hq⟩
  · rw [e 9 (by omega), e 10 (by omega), e 11 (by omega), e 12 (by omega), e 13 (by omega), e 14 (by omega)]; exact h1
  · rw [e 1 (by omega), e 2 (by omega)]; exact h5
  · rw [e 1 (by omega)]; exact h6
  · rw [e 33 (by omega), e 34 (by omega), e 35 (by omega)]; exact h7
  · rw [e 36 (by omega), e 37 (by omega), e 38 (by omega)]; exact h8
theorem repM_W {S : aSt} {M M' : lc_M} {r : aRow} {u : List aRow} {I : Nat → Option (aRow × Nat)} {q : Nat} (h : repM S M) (e : ∀ c, (46 ≤ c ∧ c ≤ 51) ∨ c = 54 ∨ c = 55 ∨ c = 57 ∨ c = 58 → M' c = M c) (e3 : ∀ k, k = 2 ∨ k = 3 ∨ k = 4 ∨ k = 5 ∨ k = 16 ∨ k = 20 ∨ k = 28 ∨ k = 32 → M' 43 k = M 43 k) (hr : mRowAt (sP S) r (M' 44) 0) (hu : M' 43 22 = nI u.length ∧ ∀ j r, u[j]? = some r → mRowAt (sP S) r (M' 44) (120 + 30 * (u.length - 1 - j))) (hi : (∀ i, i < 2 → M' 45 i = if (I i).isSome = true then 1 else 0) ∧ ∀ i r q, i < 2 → I i = some (r, q) → mRowAt (sP S) r (M' 44) (60 + 30 * i) ∧ M' 44 (60 + 30 * i + 29) = nI q) (hq : M' 44 29 = nI q) : repM (stW S r u I q) M' := by
  obtain ⟨⟨a1, a2, a3, a4, a5⟩, _, _, _, h5, h6, h7, h8, _⟩ := h
  refine ⟨?_, hr, hu, hi, ?_, ?_, ?_, ?_, hq⟩
  · rw [e 46 (by omega), e 47 (by omega), e 48 (by omega), e 49 (by omega), e 50 (by omega)]
    exact ⟨(e3 2 (by omega)).trans a1, (e3 3 (by omega)).trans a2, (e3 4 (by omega)).trans a3, (e3 5 (by omega)).trans a4, a5⟩
  · rw [e 51 (by omega), e3 16 (by omega)]; exact h5
  · rw [e3 20 (by omega)]; exact h6
  · rw [e 54 (by omega), e 55 (by omega), e3 28 (by omega)]; exact h7
  · rw [e 57 (by omega), e 58 (by omega), e3 32 (by omega)]; exact h8
def stoF (f : Nat → Int32) (a b c d : Int32) (en pi pa : Nat → Int32) (o j : Nat) : Int32 := if o + 18 ≤ j ∧ j < o + 18 + 6 then pa (0 + (j - (o + 18))) else if o + 12 ≤ j ∧ j < o + 12 + 6 then pi (0 + (j - (o + 12))) else if o + 4 ≤ j ∧ j < o + 4 + 8 then en (0 + (j - (o + 4))) else if j = o + 3 then d else if j = o + 2 then c else if j = o + 1 then b else if j = o then a else f j
theorem stoF_out {f : Nat → Int32} {a b c d : Int32} {en pi pa : Nat → Int32} {o j : Nat} (h : j < o ∨ o + 24 ≤ j) : stoF f a b c d en pi pa o j = f j := by
  unfold stoF
  rw [if_neg (by omega), if_neg (by omega), if_neg (by omega), if_neg (by omega), if_neg (by omega), if_neg (by omega), if_neg (by omega)]
theorem cRow_ext {p : aPat} {r : aRow} {mi ru dn bu : Int32} {en pi pa en' pi' pa' : Nat → Int32} (hx : pNx p ≤ 8) (h : cRow p r mi ru dn bu en pi pa) (h1 : ∀ x, x < 8 → en' x = en x) (h2 : ∀ m, m < 6 → pi' m = pi m) (h3 : ∀ m, m < 6 → pa' m = pa m) : cRow p r mi ru dn bu en' pi' pa' := by
  obtain ⟨a1, a2, a3, a4, a5, a6, a7⟩ := h
  exact ⟨a1, a2, a3, a4, fun x hx hh => by rw [h1 x (by omega)]; exact a5 x hx hh, fun m hm => by rw [h2 m hm]; exact a6 m hm, fun m hm => by rw [h3 m hm]; exact a7 m hm⟩
theorem sto_row {p : aPat} {r : aRow} {f g : Nat → Int32} {a b c d : Int32} {en pi pa : Nat → Int32} {o : Nat} (hx : pNx p ≤ 8) (h : cRow p r a b c d en pi pa) (hg : ∀ j, g j = stoF f a b c d en pi pa o j) : cRowAt p r g o := by
  unfold cRowAt
  rw [show g o = a by rw [hg]; unfold stoF; rw [if_neg (by omega), if_neg (by omega), if_neg (by omega), if_neg (by omega), if_neg (by omega), if_neg (by omega), if_pos rfl],
    show g (o + 1) = b by rw [hg]; unfold stoF; rw [if_neg (by omega), if_neg (by omega), if_neg (by omega), if_neg (by omega), if_neg (by omega), if_pos rfl],
    show g (o + 2) = c by rw [hg]; unfold stoF; rw [if_neg (by omega), if_neg (by omega), if_neg (by omega), if_neg (by omega), if_pos rfl],
    show g (o + 3) = d by rw [hg]; unfold stoF; rw [if_neg (by omega), if_neg (by omega), if_neg (by omega), if_pos rfl]]
  refine cRow_ext hx h (fun x hx => ?_) (fun m hm => ?_) (fun m hm => ?_)
  · show g (o + 4 + x) = _
    rw [hg]; unfold stoF
    rw [if_neg (by omega), if_neg (by omega), if_pos (by omega), show 0 + (o + 4 + x - (o + 4)) = x by omega]
  · show g (o + 12 + m) = _
    rw [hg]; unfold stoF
    rw [if_neg (by omega), if_pos (by omega), show 0 + (o + 12 + m - (o + 12)) = m by omega]
  · show g (o + 18 + m) = _
    rw [hg]; unfold stoF
    rw [if_pos (by omega), show 0 + (o + 18 + m - (o + 18)) = m by omega]
theorem cRowAt_ext {p : aPat} {r : aRow} {f g : Nat → Int32} {o : Nat} (hx : pNx p ≤ 8) (h : cRowAt p r f o) (e : ∀ j, o ≤ j → j < o + 24 → g j = f j) : cRowAt p r g o := by
  unfold cRowAt at h ⊢
  rw [e o (by omega) (by omega), e (o + 1) (by omega) (by omega), e (o + 2) (by omega) (by omega), e (o + 3) (by omega) (by omega)]
  exact cRow_ext hx h (fun x hx => e _ (by omega) (by omega)) (fun m hm => e _ (by omega) (by omega)) (fun m hm => e _ (by omega) (by omega))
theorem v_store0 {d s : Nat} {M : lc_M} (hs : s < 30) : ∃ M', lc_val (d + 1) 22 0 [.ref 15, .ref 21, .int (nI s), .null] [] lc_SH M = some (none, lc_SH, M') ∧ (∀ c, c ≠ 21 → M' c = M c) ∧ ∀ j, M' 21 j = stoF (M 21) (M 16 1) (M 16 2) (M 16 3) (M 16 4) (M 17) (M 18) (M 19) (s * 24) j := by
  have hmul : nI s * 24 = nI (s * 24) := pk_mul s 24
  have a2 : nI (s * 24) + 2 = nI (s * 24 + 2) := nI_add _ 2
  have a3 : nI (s * 24) + 3 = nI (s * 24 + 3) := nI_add _ 3
  have a4 : nI (s * 24) + 4 = nI (s * 24 + 4) := nI_add _ 4
  have a12 : nI (s * 24 + 4) + 8 = nI (s * 24 + 12) := nI_add _ 8
  have a18 : nI (s * 24 + 12) + 6 = nI (s * 24 + 18) := nI_add _ 6
  refine ⟨lc_set (lc_set (lc_set (lc_up (lc_up (lc_up (lc_up M 21 (s * 24) (M 16 1)) 21 (s * 24 + 1) (M 16 2)) 21 (s * 24 + 2) (M 16 3)) 21 (s * 24 + 3) (M 16 4)) 21 (va_cpy (M 17) (lc_up (lc_up (lc_up (lc_up M 21 (s * 24) (M 16 1)) 21 (s * 24 + 1) (M 16 2)) 21 (s * 24 + 2) (M 16 3)) 21 (s * 24 + 3) (M 16 4) 21) 0 (s * 24 + 4) 8)) 21 (va_cpy (M 18) (va_cpy (M 17) (lc_up (lc_up (lc_up (lc_up M 21 (s * 24) (M 16 1)) 21 (s * 24 + 1) (M 16 2)) 21 (s * 24 + 2) (M 16 3)) 21 (s * 24 + 3) (M 16 4) 21) 0 (s * 24 + 4) 8) 0 (s * 24 + 12) 6)) 21 (va_cpy (M 19) (va_cpy (M 18) (va_cpy (M 17) (lc_up (lc_up (lc_up (lc_up M 21 (s * 24) (M 16 1)) 21 (s * 24 + 1) (M 16 2)) 21 (s * 24 + 2) (M 16 3)) 21 (s * 24 + 3) (M 16 4) 21) 0 (s * 24 + 4) 8) 0 (s * 24 + 12) 6) 0 (s * 24 + 18) 6), ?_, fun c hc => by rw [set_ne hc, set_ne hc, set_ne hc, up_ne hc, up_ne hc, up_ne hc, up_ne hc], fun j => ?_⟩
  · rw [sg_22_0_0, hmul, if_pos (nI_in (by omega) (by decide)), nI_clamp (by omega), sg_22_0_15, nI_1, if_pos (nI_in (by omega) (by decide)), nI_clamp (by omega), up_ne (c := 16) (by decide), sg_22_0_27, a2, if_pos (nI_in (by omega) (by decide)), nI_clamp (by omega), up_ne (c := 16) (by decide), up_ne (c := 16) (by decide), sg_22_0_39, a3, if_pos (nI_in (by omega) (by decide)), nI_clamp (by omega), up_ne (c := 16) (by decide), up_ne (c := 16) (by decide), up_ne (c := 16) (by decide), sg_22_0_51, a4, nI_clamp (by omega), if_pos ⟨by decide, nI_pos (by omega), by decide, by decide, by omega⟩, sg_22_0_68, a4, a12, nI_clamp (by omega), if_pos ⟨by decide, nI_pos (by omega), by decide, by decide, by omega⟩, sg_22_0_85, a4, a12, a18, nI_clamp (by omega), if_pos ⟨by decide, nI_pos (by omega), by decide, by decide, by omega⟩]
    rw [set_eq, set_eq, set_ne (c := 19) (by decide), set_ne (c := 18) (by decide), set_ne (c := 19) (by decide), up_ne (c := 17) (by decide), up_ne (c := 17) (by decide), up_ne (c := 17) (by decide), up_ne (c := 17) (by decide), up_ne (c := 18) (by decide), up_ne (c := 18) (by decide), up_ne (c := 18) (by decide), up_ne (c := 18) (by decide), up_ne (c := 19) (by decide), up_ne (c := 19) (by decide), up_ne (c := 19) (by decide), up_ne (c := 19) (by decide)]
  · rw [set_eq]
    unfold va_cpy stoF
    rw [up_at, if_pos rfl, up_at, if_pos rfl, up_at, if_pos rfl, up_at, if_pos rfl]
theorem v_load0 {d s : Nat} {M : lc_M} (hs : s < 30) : ∃ M', lc_val (d + 1) 23 0 [.ref 15, .ref 21, .int (nI s), .null] [] lc_SH M = some (none, lc_SH, M') ∧ (∀ c, c ≠ 16 → c ≠ 17 → c ≠ 18 → c ≠ 19 → M' c = M c) ∧ ∀ p r, pNx p ≤ 8 → cRowAt p r (M 21) (24 * s) → cRow p r (M' 16 1) (M' 16 2) (M' 16 3) (M' 16 4) (M' 17) (M' 18) (M' 19) := by
  have hmul : nI s * 24 = nI (s * 24) := pk_mul s 24
  have a2 : nI (s * 24) + 2 = nI (s * 24 + 2) := nI_add _ 2
  have a3 : nI (s * 24) + 3 = nI (s * 24 + 3) := nI_add _ 3
  have a4 : nI (s * 24) + 4 = nI (s * 24 + 4) := nI_add _ 4
  have a12 : nI (s * 24 + 4) + 8 = nI (s * 24 + 12) := nI_add _ 8
  have a18 : nI (s * 24 + 12) + 6 = nI (s * 24 + 18) := nI_add _ 6
  refine ⟨lc_set (lc_set (lc_set (lc_up (lc_up (lc_up (lc_up M 16 1 (M 21 (s * 24))) 16 2 (M 21 (s * 24 + 1))) 16 3 (M 21 (s * 24 + 2))) 16 4 (M 21 (s * 24 + 3))) 17 (va_cpy (M 21) (M 17) (s * 24 + 4) 0 8)) 18 (va_cpy (M 21) (M 18) (s * 24 + 12) 0 6)) 19 (va_cpy (M 21) (M 19) (s * 24 + 18) 0 6), ?_, fun c h1 h2 h3 h4 => by rw [set_ne h4, set_ne h3, set_ne h2, up_ne h1, up_ne h1, up_ne h1, up_ne h1], fun p r hx h => ?_⟩
  · rw [sg_23_0_0, hmul, if_pos (nI_in (by omega) (by decide)), nI_clamp (by omega), sg_23_0_15, nI_1, if_pos (nI_in (by omega) (by decide)), nI_clamp (by omega), up_ne (c := 21) (by decide), sg_23_0_27, a2, if_pos (nI_in (by omega) (by decide)), nI_clamp (by omega), up_ne (c := 21) (by decide), up_ne (c := 21) (by decide), sg_23_0_39, a3, if_pos (nI_in (by omega) (by decide)), nI_clamp (by omega), up_ne (c := 21) (by decide), up_ne (c := 21) (by decide), up_ne (c := 21) (by decide), sg_23_0_51, a4, nI_clamp (by omega), if_pos ⟨nI_pos (by omega), by decide, by decide, by omega, by decide⟩, sg_23_0_68, a4, a12, nI_clamp (by omega), if_pos ⟨nI_pos (by omega), by decide, by decide, by omega, by decide⟩, sg_23_0_85, a4, a12, a18, nI_clamp (by omega), if_pos ⟨nI_pos (by omega), by decide, by decide, by omega, by decide⟩]
    rw [set_ne (c := 21) (by decide), set_ne (c := 21) (by decide), set_ne (c := 21) (by decide), set_ne (c := 19) (by decide), set_ne (c := 19) (by decide), set_ne (c := 18) (by decide), up_ne (c := 21) (by decide), up_ne (c := 21) (by decide), up_ne (c := 21) (by decide), up_ne (c := 21) (by decide), up_ne (c := 17) (by decide), up_ne (c := 17) (by decide), up_ne (c := 17) (by decide), up_ne (c := 17) (by decide), up_ne (c := 18) (by decide), up_ne (c := 18) (by decide), up_ne (c := 18) (by decide), up_ne (c := 18) (by decide), up_ne (c := 19) (by decide), up_ne (c := 19) (by decide), up_ne (c := 19) (by decide), up_ne (c := 19) (by decide)]
  · rw [set_ne (c := 16) (by decide), set_ne (c := 16) (by decide), set_ne (c := 16) (by decide), set_ne (c := 17) (by decide), set_ne (c := 17) (by decide), set_ne (c := 18) (by decide), set_eq, set_eq, set_eq]
    rw [show lc_up (lc_up (lc_up (lc_up M 16 1 (M 21 (s * 24))) 16 2 (M 21 (s * 24 + 1))) 16 3 (M 21 (s * 24 + 2))) 16 4 (M 21 (s * 24 + 3)) 16 1 = M 21 (s * 24) from rfl, show lc_up (lc_up (lc_up (lc_up M 16 1 (M 21 (s * 24))) 16 2 (M 21 (s * 24 + 1))) 16 3 (M 21 (s * 24 + 2))) 16 4 (M 21 (s * 24 + 3)) 16 2 = M 21 (s * 24 + 1) from rfl, show lc_up (lc_up (lc_up (lc_up M 16 1 (M 21 (s * 24))) 16 2 (M 21 (s * 24 + 1))) 16 3 (M 21 (s * 24 + 2))) 16 4 (M 21 (s * 24 + 3)) 16 3 = M 21 (s * 24 + 2) from rfl, show lc_up (lc_up (lc_up (lc_up M 16 1 (M 21 (s * 24))) 16 2 (M 21 (s * 24 + 1))) 16 3 (M 21 (s * 24 + 2))) 16 4 (M 21 (s * 24 + 3)) 16 4 = M 21 (s * 24 + 3) from rfl]
    rw [Nat.mul_comm 24 s] at h
    unfold cRowAt at h
    refine cRow_ext hx h (fun x hx => ?_) (fun m hm => ?_) (fun m hm => ?_)
    · unfold va_cpy
      rw [if_pos (by omega), show s * 24 + 4 + (x - 0) = s * 24 + 4 + x by omega]
    · unfold va_cpy
      rw [if_pos (by omega), show s * 24 + 12 + (m - 0) = s * 24 + 12 + m by omega]
    · unfold va_cpy
      rw [if_pos (by omega), show s * 24 + 18 + (m - 0) = s * 24 + 18 + m by omega]
theorem v_store1 {d s : Nat} {M : lc_M} (hs : s < 2) : ∃ M', lc_val (d + 1) 22 0 [.ref 15, .ref 23, .int (nI s), .null] [] lc_SH M = some (none, lc_SH, M') ∧ (∀ c, c ≠ 23 → M' c = M c) ∧ ∀ j, M' 23 j = stoF (M 23) (M 16 1) (M 16 2) (M 16 3) (M 16 4) (M 17) (M 18) (M 19) (s * 24) j := by
  have hmul : nI s * 24 = nI (s * 24) := pk_mul s 24
  have a2 : nI (s * 24) + 2 = nI (s * 24 + 2) := nI_add _ 2
  have a3 : nI (s * 24) + 3 = nI (s * 24 + 3) := nI_add _ 3
  have a4 : nI (s * 24) + 4 = nI (s * 24 + 4) := nI_add _ 4
  have a12 : nI (s * 24 + 4) + 8 = nI (s * 24 + 12) := nI_add _ 8
  have a18 : nI (s * 24 + 12) + 6 = nI (s * 24 + 18) := nI_add _ 6
  refine ⟨lc_set (lc_set (lc_set (lc_up (lc_up (lc_up (lc_up M 23 (s * 24) (M 16 1)) 23 (s * 24 + 1) (M 16 2)) 23 (s * 24 + 2) (M 16 3)) 23 (s * 24 + 3) (M 16 4)) 23 (va_cpy (M 17) (lc_up (lc_up (lc_up (lc_up M 23 (s * 24) (M 16 1)) 23 (s * 24 + 1) (M 16 2)) 23 (s * 24 + 2) (M 16 3)) 23 (s * 24 + 3) (M 16 4) 23) 0 (s * 24 + 4) 8)) 23 (va_cpy (M 18) (va_cpy (M 17) (lc_up (lc_up (lc_up (lc_up M 23 (s * 24) (M 16 1)) 23 (s * 24 + 1) (M 16 2)) 23 (s * 24 + 2) (M 16 3)) 23 (s * 24 + 3) (M 16 4) 23) 0 (s * 24 + 4) 8) 0 (s * 24 + 12) 6)) 23 (va_cpy (M 19) (va_cpy (M 18) (va_cpy (M 17) (lc_up (lc_up (lc_up (lc_up M 23 (s * 24) (M 16 1)) 23 (s * 24 + 1) (M 16 2)) 23 (s * 24 + 2) (M 16 3)) 23 (s * 24 + 3) (M 16 4) 23) 0 (s * 24 + 4) 8) 0 (s * 24 + 12) 6) 0 (s * 24 + 18) 6), ?_, fun c hc => by rw [set_ne hc, set_ne hc, set_ne hc, up_ne hc, up_ne hc, up_ne hc, up_ne hc], fun j => ?_⟩
  · rw [sg_22_1_0, hmul, if_pos (nI_in (by omega) (by decide)), nI_clamp (by omega), sg_22_1_15, nI_1, if_pos (nI_in (by omega) (by decide)), nI_clamp (by omega), up_ne (c := 16) (by decide), sg_22_1_27, a2, if_pos (nI_in (by omega) (by decide)), nI_clamp (by omega), up_ne (c := 16) (by decide), up_ne (c := 16) (by decide), sg_22_1_39, a3, if_pos (nI_in (by omega) (by decide)), nI_clamp (by omega), up_ne (c := 16) (by decide), up_ne (c := 16) (by decide), up_ne (c := 16) (by decide), sg_22_1_51, a4, nI_clamp (by omega), if_pos ⟨by decide, nI_pos (by omega), by decide, by decide, by omega⟩, sg_22_1_68, a4, a12, nI_clamp (by omega), if_pos ⟨by decide, nI_pos (by omega), by decide, by decide, by omega⟩, sg_22_1_85, a4, a12, a18, nI_clamp (by omega), if_pos ⟨by decide, nI_pos (by omega), by decide, by decide, by omega⟩]
    rw [set_eq, set_eq, set_ne (c := 19) (by decide), set_ne (c := 18) (by decide), set_ne (c := 19) (by decide), up_ne (c := 17) (by decide), up_ne (c := 17) (by decide), up_ne (c := 17) (by decide), up_ne (c := 17) (by decide), up_ne (c := 18) (by decide), up_ne (c := 18) (by decide), up_ne (c := 18) (by decide), up_ne (c := 18) (by decide), up_ne (c := 19) (by decide), up_ne (c := 19) (by decide), up_ne (c := 19) (by decide), up_ne (c := 19) (by decide)]
  · rw [set_eq]
    unfold va_cpy stoF
    rw [up_at, if_pos rfl, up_at, if_pos rfl, up_at, if_pos rfl, up_at, if_pos rfl]
theorem v_load1 {d s : Nat} {M : lc_M} (hs : s < 2) : ∃ M', lc_val (d + 1) 23 0 [.ref 15, .ref 23, .int (nI s), .null] [] lc_SH M = some (none, lc_SH, M') ∧ (∀ c, c ≠ 16 → c ≠ 17 → c ≠ 18 → c ≠ 19 → M' c = M c) ∧ ∀ p r, pNx p ≤ 8 → cRowAt p r (M 23) (24 * s) → cRow p r (M' 16 1) (M' 16 2) (M' 16 3) (M' 16 4) (M' 17) (M' 18) (M' 19) := by
  have hmul : nI s * 24 = nI (s * 24) := pk_mul s 24
  have a2 : nI (s * 24) + 2 = nI (s * 24 + 2) := nI_add _ 2
  have a3 : nI (s * 24) + 3 = nI (s * 24 + 3) := nI_add _ 3
  have a4 : nI (s * 24) + 4 = nI (s * 24 + 4) := nI_add _ 4
  have a12 : nI (s * 24 + 4) + 8 = nI (s * 24 + 12) := nI_add _ 8
  have a18 : nI (s * 24 + 12) + 6 = nI (s * 24 + 18) := nI_add _ 6
  refine ⟨lc_set (lc_set (lc_set (lc_up (lc_up (lc_up (lc_up M 16 1 (M 23 (s * 24))) 16 2 (M 23 (s * 24 + 1))) 16 3 (M 23 (s * 24 + 2))) 16 4 (M 23 (s * 24 + 3))) 17 (va_cpy (M 23) (M 17) (s * 24 + 4) 0 8)) 18 (va_cpy (M 23) (M 18) (s * 24 + 12) 0 6)) 19 (va_cpy (M 23) (M 19) (s * 24 + 18) 0 6), ?_, fun c h1 h2 h3 h4 => by rw [set_ne h4, set_ne h3, set_ne h2, up_ne h1, up_ne h1, up_ne h1, up_ne h1], fun p r hx h => ?_⟩
  · rw [sg_23_1_0, hmul, if_pos (nI_in (by omega) (by decide)), nI_clamp (by omega), sg_23_1_15, nI_1, if_pos (nI_in (by omega) (by decide)), nI_clamp (by omega), up_ne (c := 23) (by decide), sg_23_1_27, a2, if_pos (nI_in (by omega) (by decide)), nI_clamp (by omega), up_ne (c := 23) (by decide), up_ne (c := 23) (by decide), sg_23_1_39, a3, if_pos (nI_in (by omega) (by decide)), nI_clamp (by omega), up_ne (c := 23) (by decide), up_ne (c := 23) (by decide), up_ne (c := 23) (by decide), sg_23_1_51, a4, nI_clamp (by omega), if_pos ⟨nI_pos (by omega), by decide, by decide, by omega, by decide⟩, sg_23_1_68, a4, a12, nI_clamp (by omega), if_pos ⟨nI_pos (by omega), by decide, by decide, by omega, by decide⟩, sg_23_1_85, a4, a12, a18, nI_clamp (by omega), if_pos ⟨nI_pos (by omega), by decide, by decide, by omega, by decide⟩]
    rw [set_ne (c := 23) (by decide), set_ne (c := 23) (by decide), set_ne (c := 23) (by decide), set_ne (c := 19) (by decide), set_ne (c := 19) (by decide), set_ne (c := 18) (by decide), up_ne (c := 23) (by decide), up_ne (c := 23) (by decide), up_ne (c := 23) (by decide), up_ne (c := 23) (by decide), up_ne (c := 17) (by decide), up_ne (c := 17) (by decide), up_ne (c := 17) (by decide), up_ne (c := 17) (by decide), up_ne (c := 18) (by decide), up_ne (c := 18) (by decide), up_ne (c := 18) (by decide), up_ne (c := 18) (by decide), up_ne (c := 19) (by decide), up_ne (c := 19) (by decide), up_ne (c := 19) (by decide), up_ne (c := 19) (by decide)]
  · rw [set_ne (c := 16) (by decide), set_ne (c := 16) (by decide), set_ne (c := 16) (by decide), set_ne (c := 17) (by decide), set_ne (c := 17) (by decide), set_ne (c := 18) (by decide), set_eq, set_eq, set_eq]
    rw [show lc_up (lc_up (lc_up (lc_up M 16 1 (M 23 (s * 24))) 16 2 (M 23 (s * 24 + 1))) 16 3 (M 23 (s * 24 + 2))) 16 4 (M 23 (s * 24 + 3)) 16 1 = M 23 (s * 24) from rfl, show lc_up (lc_up (lc_up (lc_up M 16 1 (M 23 (s * 24))) 16 2 (M 23 (s * 24 + 1))) 16 3 (M 23 (s * 24 + 2))) 16 4 (M 23 (s * 24 + 3)) 16 2 = M 23 (s * 24 + 1) from rfl, show lc_up (lc_up (lc_up (lc_up M 16 1 (M 23 (s * 24))) 16 2 (M 23 (s * 24 + 1))) 16 3 (M 23 (s * 24 + 2))) 16 4 (M 23 (s * 24 + 3)) 16 3 = M 23 (s * 24 + 2) from rfl, show lc_up (lc_up (lc_up (lc_up M 16 1 (M 23 (s * 24))) 16 2 (M 23 (s * 24 + 1))) 16 3 (M 23 (s * 24 + 2))) 16 4 (M 23 (s * 24 + 3)) 16 4 = M 23 (s * 24 + 3) from rfl]
    rw [Nat.mul_comm 24 s] at h
    unfold cRowAt at h
    refine cRow_ext hx h (fun x hx => ?_) (fun m hm => ?_) (fun m hm => ?_)
    · unfold va_cpy
      rw [if_pos (by omega), show s * 24 + 4 + (x - 0) = s * 24 + 4 + x by omega]
    · unfold va_cpy
      rw [if_pos (by omega), show s * 24 + 12 + (m - 0) = s * 24 + 12 + m by omega]
    · unfold va_cpy
      rw [if_pos (by omega), show s * 24 + 18 + (m - 0) = s * 24 + 18 + m by omega]
theorem v_copyMA {d a b : Nat} (ha : a ≤ 990) (hb : b ≤ 990) (hd : a + 30 ≤ b ∨ b + 30 ≤ a) : ∀ (k i : Nat) (M : lc_M), i + k = 30 → ∃ M', lc_val d 146 2 [.ref 43, .int (nI a), .int (nI b), .int (nI i)] [] lc_SH M = some (none, lc_SH, M') ∧ (∀ c, c ≠ 44 → M' c = M c) ∧ ∀ j, M' 44 j = if b + i ≤ j ∧ j < b + 30 then M 44 (a + (j - b)) else M 44 j
  | 0, i, M, h => by
    refine ⟨M, ?_, fun _ _ => rfl, fun j => by rw [if_neg (by omega)]⟩
    rw [sg_146_0_2, if_pos (show (30 : Int32) ≤ nI i from nI_le (a := 30) (by omega) (by omega))]
  | k + 1, i, M, h => by
    obtain ⟨M', e1, e2, e3⟩ := v_copyMA (d := d) ha hb hd k (i + 1) (lc_up M 44 (b + i) (M 44 (a + i))) (by omega)
    refine ⟨M', ?_, fun c hc => by rw [e2 c hc, up_ne hc], fun j => ?_⟩
    · rw [sg_146_0_2, if_neg (show ¬ (30 : Int32) ≤ nI i from nI_ge (b := 30) (by omega) (by decide)), lc_it_val, sg_146_0_8, nI_add, nI_add, if_pos (nI_in (by omega) (by decide)), if_pos (nI_in (by omega) (by decide)), nI_clamp (by omega), nI_clamp (by omega), nI_1]
      exact e1
    · rw [e3]
      by_cases h1 : b + (i + 1) ≤ j ∧ j < b + 30
      · rw [if_pos h1, if_pos (by omega), up_at, if_pos rfl, if_neg (by omega)]
      · rw [if_neg h1, up_at, if_pos rfl]
        by_cases h2 : j = b + i
        · rw [if_pos h2, if_pos (by omega), show a + (j - b) = a + i by omega]
        · rw [if_neg h2, if_neg (by omega)]
theorem v_copyM {d a b : Nat} {M : lc_M} (ha : a ≤ 990) (hb : b ≤ 990) (hd : a + 30 ≤ b ∨ b + 30 ≤ a) : ∃ M', lc_val d 146 0 [.ref 43, .int (nI a), .int (nI b), .null] [] lc_SH M = some (none, lc_SH, M') ∧ (∀ c, c ≠ 44 → M' c = M c) ∧ (∀ j, (j < b ∨ b + 30 ≤ j) → M' 44 j = M 44 j) ∧ ∀ j, j < 30 → M' 44 (b + j) = M 44 (a + j) := by
  obtain ⟨M', e1, e2, e3⟩ := v_copyMA (d := d) ha hb hd 30 0 M (by omega)
  refine ⟨M', ?_, e2, fun j hj => by rw [e3, if_neg (by omega)], fun j hj => by rw [e3, if_pos (by omega), show a + (b + j - b) = a + j by omega]⟩
  rw [sg_146_0_0]
  exact e1
theorem mRowAt_cp {p : aPat} {r : aRow} {f g : Nat → Int32} {a b : Nat} (hx : pNx p ≤ 8) (h : mRowAt p r f a) (e : ∀ j, j < 30 → g (b + j) = f (a + j)) : mRowAt p r g b := by
  obtain ⟨h1, h2, h3, h4, h5⟩ := h
  refine ⟨fun m hm => by rw [e m (by omega)]; exact h1 m hm, fun m hm => ?_, fun x hx => ?_, fun x hx => ?_, by rw [e 28 (by omega)]; exact h5⟩
  · rw [show b + 6 + m = b + (6 + m) by omega, e (6 + m) (by omega), show a + (6 + m) = a + 6 + m by omega]; exact h2 m hm
  · rw [show b + 12 + x = b + (12 + x) by omega, e (12 + x) (by omega), show a + (12 + x) = a + 12 + x by omega]; exact h3 x hx
  · rw [show b + 20 + x = b + (20 + x) by omega, e (20 + x) (by omega), show a + (20 + x) = a + 20 + x by omega]; exact h4 x hx
/-! remember -/
def remU (S : aSt) : List aRow := (sR S :: sU S).take 30
def remS (S : aSt) : aSt := stW S (sR S) (remU S) (sI S) (sS S)
theorem take_at {α : Type} {l : List α} {k j : Nat} {x : α} (h : (l.take k)[j]? = some x) : j < k ∧ l[j]? = some x := by
  rw [List.getElem?_take] at h
  by_cases q : j < k
  · rw [if_pos q] at h; exact ⟨q, h⟩
  · rw [if_neg q] at h; cases h
theorem remU_len {S : aSt} (h : (sU S).length ≤ 30) : (remU S).length = if (sU S).length = 30 then 30 else (sU S).length + 1 := by
  unfold remU
  rw [List.length_take, List.length_cons]
  split <;> omega
theorem v_remC {S : aSt} {d : Nat} {M : lc_M} (hx : pNx (sP S) ≤ 8) (hl : (sU S).length ≤ 30) (hM : repC S M) : ∃ M', lc_val (d + 2) 67 0 [.ref 20, .ref 15] [] lc_SH M = some (none, lc_SH, M') ∧ repC (remS S) M' ∧ (∀ c, c ≠ 20 → c ≠ 21 → M' c = M c) := by
  obtain ⟨nxt, h1, h2, h3, h4⟩ := hM.2.2.1
  obtain ⟨M1, f1, f2, f3⟩ := v_store0 (d := d) (M := M) h1
  have hlen := remU_len hl
  have e20 : M1 20 = M 20 := f2 20 (by decide)
  refine ⟨lc_up (lc_up M1 20 1 (nI (if nxt = 29 then 0 else nxt + 1))) 20 2 (nI (remU S).length), ?_, ?_, fun c h1 h2 => by rw [up_ne h1, up_ne h1, f2 c h2]⟩
  · have hcnt : (if 30 < nI (sU S).length + 1 then 30 else nI (sU S).length + 1) = nI (remU S).length := by
      rw [nI_1, hlen]
      by_cases q : (sU S).length = 30
      · rw [if_pos q, if_pos (show (30 : Int32) < nI ((sU S).length + 1) from nI_lt (a := 30) (by omega) (by omega))]
        rfl
      · rw [if_neg q, if_neg (show ¬ (30 : Int32) < nI ((sU S).length + 1) from nI_nlt (a := 30) (by omega) (by omega))]
    rw [sg_67_0_0, h2, f1, lc_bk0, sg_67_0_12, e20, h2, nI_1]
    by_cases q : nxt = 29
    · rw [if_pos (show (30 : Int32) ≤ nI (nxt + 1) from nI_le (a := 30) (by omega) (by omega)), lc_it_val, sg_67_0_34, e20, h3, hcnt, if_pos q]
      rfl
    · rw [if_neg (show ¬ (30 : Int32) ≤ nI (nxt + 1) from nI_ge (b := 30) (by omega) (by decide)), sg_67_0_34, e20, h3, hcnt, if_neg q]
  · refine repC_W hM (fun c hc => by rw [up_ne (by omega), up_ne (by omega), f2 c (by omega)]) ?_ ?_ ?_ ?_
    · rw [up_ne (c := 16) (by decide), up_ne (c := 16) (by decide), up_ne (c := 17) (by decide), up_ne (c := 17) (by decide), up_ne (c := 18) (by decide), up_ne (c := 18) (by decide), up_ne (c := 19) (by decide), up_ne (c := 19) (by decide), f2 16 (by decide), f2 17 (by decide), f2 18 (by decide), f2 19 (by decide)]
      exact hM.2.1
    · refine ⟨if nxt = 29 then 0 else nxt + 1, by split <;> omega, ?_, ?_, fun j r hj => ?_⟩
      · rw [up_at, if_pos rfl, if_neg (by decide), up_at, if_pos rfl, if_pos rfl]
      · rw [up_at, if_pos rfl, if_pos rfl]
      · rw [up_ne (by decide), up_ne (by decide)]
        obtain ⟨g1, g2⟩ := take_at hj
        cases j with
        | zero =>
          injection g2 with g2
          subst g2
          rw [show 24 * (((if nxt = 29 then 0 else nxt + 1) + 29 - 0) % 30) = nxt * 24 by split <;> omega]
          exact sto_row hx hM.2.1 f3
        | succ j =>
          rw [show 24 * (((if nxt = 29 then 0 else nxt + 1) + 29 - (j + 1)) % 30) = 24 * ((nxt + 29 - j) % 30) by split <;> omega]
          refine cRowAt_ext hx (h4 j r g2) (fun i k1 k2 => ?_)
          rw [f3, stoF_out (by omega)]
    · rw [up_ne (c := 22) (by decide), up_ne (c := 22) (by decide), up_ne (c := 23) (by decide), up_ne (c := 23) (by decide), up_ne (c := 24) (by decide), up_ne (c := 24) (by decide), f2 22 (by decide), f2 23 (by decide), f2 24 (by decide)]
      exact hM.2.2.2.1
    · rw [up_ne (by decide), up_ne (by decide), f2 0 (by decide)]
      exact hM.2.2.2.2.2.2.2.2
/-- the reference shifts its rows when it has thirty -/
theorem v_shift {d : Nat} : ∀ (k i : Nat) (M : lc_M), i + k = 30 → 1 ≤ i → ∃ M', lc_val (d + 1) 147 11 [.ref 43, .int (nI i)] [] lc_SH M = lc_val (d + 1) 147 43 [.ref 43, .int (nI 30)] [] lc_SH M' ∧ (∀ c, c ≠ 44 → M' c = M c) ∧ ∀ j, M' 44 j = if 120 + 30 * (i - 1) ≤ j ∧ j < 120 + 30 * 29 then M 44 (j + 30) else M 44 j
  | 0, i, M, h, hi => by
    refine ⟨M, ?_, fun _ _ => rfl, fun j => by rw [if_neg (by omega)]⟩
    rw [sg_147_0_11, if_pos (show (30 : Int32) ≤ nI i from nI_le (a := 30) (by omega) (by omega)), show i = 30 by omega]
  | k + 1, i, M, h, hi => by
    obtain ⟨M1, f1, f2, f3, f4⟩ := v_copyM (d := d) (M := M) (a := 120 + 30 * i) (b := 120 + 30 * (i - 1)) (by omega) (by omega) (by omega)
    obtain ⟨M', e1, e2, e3⟩ := v_shift (d := d) k (i + 1) M1 (by omega) (by omega)
    refine ⟨M', ?_, fun c hc => by rw [e2 c hc, f2 c hc], fun j => ?_⟩
    · have hp : nI i - 1 = nI (i - 1) := by
        obtain ⟨t, rfl⟩ : ∃ t, i = t + 1 := ⟨i - 1, by omega⟩
        exact nI_pred t
      have g1 : (120 : Int32) + 30 * nI i = nI (120 + 30 * i) := by rw [show (30 : Int32) * nI i = nI (30 * i) from pk_mul 30 i]; exact nI_add 120 _
      have g2 : (120 : Int32) + 30 * nI (i - 1) = nI (120 + 30 * (i - 1)) := by rw [show (30 : Int32) * nI (i - 1) = nI (30 * (i - 1)) from pk_mul 30 _]; exact nI_add 120 _
      rw [sg_147_0_11, if_neg (show ¬ (30 : Int32) ≤ nI i from nI_ge (b := 30) (by omega) (by decide)), sg_147_0_17, hp, g1, g2, f1, lc_bk0, sg_147_0_37, nI_1]
      exact e1
    · rw [e3]
      by_cases q : 120 + 30 * (i + 1 - 1) ≤ j ∧ j < 120 + 30 * 29
      · rw [if_pos q, if_pos (by omega), f3 _ (by omega)]
      · rw [if_neg q]
        by_cases q2 : 120 + 30 * (i - 1) ≤ j ∧ j < 120 + 30 * 29
        · have := f4 (j - (120 + 30 * (i - 1))) (by omega)
          rw [show 120 + 30 * (i - 1) + (j - (120 + 30 * (i - 1))) = j by omega, show 120 + 30 * i + (j - (120 + 30 * (i - 1))) = j + 30 by omega] at this
          rw [if_pos q2, this]
        · rw [if_neg q2, f3 _ (by omega)]
theorem v_remM {S : aSt} {d : Nat} {M : lc_M} (hx : pNx (sP S) ≤ 8) (hl : (sU S).length ≤ 30) (hM : repM S M) : ∃ M', lc_val (d + 1) 147 0 [.ref 43, .null] [] lc_SH M = some (none, lc_SH, M') ∧ repM (remS S) M' ∧ (∀ c, c ≠ 43 → c ≠ 44 → M' c = M c) ∧ M' 43 21 = M 43 21 := by
  obtain ⟨h1, h2⟩ := hM.2.2.1
  have hlen := remU_len hl
  -- the rows behind the shift: the newest first
  have key : ∃ (M1 : lc_M) (v : Value) (L : Nat), lc_val (d + 1) 147 0 [.ref 43, .null] [] lc_SH M = lc_val (d + 1) 147 53 [.ref 43, v] [] lc_SH M1 ∧ (∀ c, c ≠ 43 → c ≠ 44 → M1 c = M c) ∧ (∀ k, k ≠ 22 → M1 43 k = M 43 k) ∧ M1 43 22 = nI L ∧ L + 1 = (remU S).length ∧ (∀ j, j < 120 → M1 44 j = M 44 j) ∧ ∀ j r, j < L → (sU S)[j]? = some r → mRowAt (sP S) r (M1 44) (120 + 30 * (L - 1 - j)) := by
    by_cases q : (sU S).length = 30
    · obtain ⟨M1, f1, f2, f3⟩ := v_shift (d := d) 29 1 M (by omega) (by omega)
      refine ⟨lc_up M1 43 22 (nI 29), .int (nI 30), 29, ?_, fun c g1 g2 => by rw [up_ne g1, f2 c g2], fun k hk => by rw [up_at, if_pos rfl, if_neg hk, f2 43 (by decide)], by rw [up_at, if_pos rfl, if_pos rfl], by rw [hlen, if_pos q], fun j hj => by rw [up_ne (by decide), f3, if_neg (by omega)], fun j r hj hr => ?_⟩
      · rw [sg_147_0_0, h1, q, if_neg (show ¬ ¬ nI 30 = 30 from fun z => z rfl), show (.int 1 : Value) = .int (nI 1) from rfl, f1, sg_147_0_43, f2 43 (by decide), h1, q]
        rfl
      · rw [up_ne (by decide)]
        refine mRowAt_cp hx (h2 j r hr) (fun i hi => ?_)
        rw [f3, if_pos (by omega), q]
        congr 1
        omega
    · refine ⟨M, .null, (sU S).length, ?_, fun _ _ _ => rfl, fun _ _ => rfl, h1, by rw [hlen, if_neg q], fun _ _ => rfl, fun j r hj hr => h2 j r hr⟩
      rw [sg_147_0_0, h1, if_pos (show ¬ nI (sU S).length = 30 from fun z => q ((nI_eq (b := 30) (by omega) (by decide)).mp z)), lc_it_val]
  obtain ⟨M1, v, L, k1, k2, k3, k4, k5, k6, k7⟩ := key
  have hL : L ≤ 29 := by rw [hlen] at k5; split at k5 <;> omega
  have g1 : (120 : Int32) + 30 * nI L = nI (120 + 30 * L) := by rw [show (30 : Int32) * nI L = nI (30 * L) from pk_mul 30 L]; exact nI_add 120 _
  obtain ⟨M2, f1, f2, f3, f4⟩ := v_copyM (d := d) (M := M1) (a := 0) (b := 120 + 30 * L) (by omega) (by omega) (by omega)
  refine ⟨lc_up M2 43 22 (nI (L + 1)), ?_, ?_, fun c g1 g2 => by rw [up_ne g1, f2 c g2, k2 c g1 g2], by rw [up_at, if_pos rfl, if_neg (by decide), f2 43 (by decide), k3 21 (by decide)]⟩
  · rw [k1, sg_147_0_53, k4, g1, show (.int 0 : Value) = .int (nI 0) from rfl, f1, lc_bk0, sg_147_0_68, f2 43 (by decide), k4, nI_1]
  · have lo : ∀ j, j < 120 → lc_up M2 43 22 (nI (L + 1)) 44 j = M 44 j := fun j hj => by rw [up_ne (by decide), f3 j (by omega), k6 j hj]
    refine repM_W hM (fun c hc => by rw [up_ne (by omega), f2 c (by omega), k2 c (by omega) (by omega)]) (fun k hk => by rw [up_at, if_pos rfl, if_neg (by omega), f2 43 (by decide), k3 k (by omega)]) ?_ ⟨?_, fun j r hj => ?_⟩ ⟨fun i hi => ?_, fun i r q hi hq => ?_⟩ ?_
    · exact mRowAt_fr hx hM.2.1 (fun j a1 a2 => lo j (by omega))
    · rw [up_at, if_pos rfl, if_pos rfl, k5]
    · rw [up_ne (by decide)]
      obtain ⟨g1, g2⟩ := take_at hj
      have hjl : j < (remU S).length := (List.getElem?_eq_some_iff.mp hj).1
      cases j with
      | zero =>
        injection g2 with g2
        subst g2
        rw [show 120 + 30 * ((remU S).length - 1 - 0) = 120 + 30 * L by omega]
        refine mRowAt_cp hx hM.2.1 (fun i hi => by rw [f4 i hi, k6 _ (by omega)])
      | succ j =>
        rw [show 120 + 30 * ((remU S).length - 1 - (j + 1)) = 120 + 30 * (L - 1 - j) by omega]
        refine mRowAt_fr hx (k7 j r (by omega) g2) (fun i a1 a2 => by rw [f3 i (by omega)])
    · rw [up_ne (by decide), f2 45 (by decide), k2 45 (by decide) (by decide)]
      exact hM.2.2.2.1.1 i hi
    · obtain ⟨g1, g2⟩ := hM.2.2.2.1.2 i r q hi hq
      exact ⟨mRowAt_fr hx g1 (fun j a1 a2 => lo j (by omega)), by rw [lo _ (by omega)]; exact g2⟩
    · rw [lo 29 (by omega)]
      exact hM.2.2.2.2.2.2.2.2
