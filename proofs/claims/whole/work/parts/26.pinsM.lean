/-! pins on the reference's side -/
theorem v_change {d at0 a w : Nat} {M : lc_M} {pin : Nat → Nat} (h0 : at0 ≤ 900) (ha : a < 6) (hw : w < 6) (hp : ∀ m, m < 6 → M 44 (at0 + m) = nI (pin m)) : ∃ M', lc_val d 140 0 [.ref 43, .int (nI at0), .int (nI a), .int (nI w), .null] [] lc_SH M = some (none, lc_SH, M') ∧ (∀ c, c ≠ 44 → M' c = M c) ∧ (∀ j, (j < at0 ∨ at0 + 6 ≤ j) → M' 44 j = M 44 j) ∧ ∀ m, m < 6 → M' 44 (at0 + m) = nI (swapP pin a w m) := by
  refine ⟨lc_up (lc_up M 44 (at0 + a) (M 44 (at0 + w))) 44 (at0 + w) (M 44 (at0 + a)), ?_, fun c hc => by rw [up_ne hc, up_ne hc], fun j hj => ?_, fun m hm => ?_⟩
  · rw [sg_140_0_0, nI_add, if_pos (nI_in (by omega) (by decide)), nI_clamp (by omega), sg_140_0_10, nI_add, nI_add, if_pos (nI_in (by omega) (by decide)), if_pos (nI_in (by omega) (by decide)), sg_140_0_26, nI_add, if_pos (nI_in (by omega) (by decide)), nI_clamp (by omega), nI_clamp (by omega)]
  · rw [up_at, if_pos rfl, if_neg (by omega), up_at, if_pos rfl, if_neg (by omega)]
  · rw [up_at, if_pos rfl, up_at, if_pos rfl]
    unfold swapP
    by_cases h1 : m = w
    · rw [if_pos (by omega), if_pos h1]; exact hp a ha
    · rw [if_neg (by omega), if_neg h1]
      by_cases h2 : m = a
      · rw [if_pos (by omega), if_pos h2]; exact hp w hw
      · rw [if_neg (by omega), if_neg h2]; exact hp m hm
theorem swapP_self {pin : Nat → Nat} {a m : Nat} : swapP pin a a m = pin m := by
  unfold swapP
  by_cases h : m = a
  · rw [if_pos h, h]
  · rw [if_neg h, if_neg h]
theorem v_crossM {d at0 x : Nat} {p : aPat} {M : lc_M} {ear pin : Nat → Nat} (hn : M 43 4 = nI (pNm p)) (hab0 : M 47 x = nI (pA p x) ∧ M 48 x = nI (pB p x)) (hv : vPat p) (hx : x < pNx p) (h0 : at0 ≤ 900) (he : ∀ m, m < pNm p → M 46 m = nI (ear m) ∧ ear m ≤ 2) (hq : ∀ m, m < 6 → M 44 (at0 + m) = nI (pin m)) : ∃ M', lc_val (d + 1) 141 0 [.ref 43, .int (nI at0), .int (nI x), .null, .null, .null, .null, .null] [] lc_SH M = some (none, lc_SH, M') ∧ (∀ c, c ≠ 44 → M' c = M c) ∧ (∀ j, (j < at0 ∨ at0 + 6 ≤ j) → M' 44 j = M 44 j) ∧ ∀ m, m < 6 → M' 44 (at0 + m) = nI (crossP p ear pin x m) := by
  have h8 := hv.2.2.2.1
  have hm6 := hv.2.2.1
  have hab := hv.2.2.2.2.2.2.1 x hx
  have ea := he (pA p x) hab.1
  have eb := he (pB p x) hab.2.1
  have ne1 : ∀ {q : Nat}, q ≤ 2 → ¬ q = 1 → ¬ nI q = 1 := fun hq h z => h ((nI_eq (b := 1) (by omega) (by decide)).mp z)
  have ne2 : ∀ {q : Nat}, q ≤ 2 → ¬ q = 2 → ¬ nI q = 2 := fun hq h z => h ((nI_eq (b := 2) (by omega) (by decide)).mp z)
  rw [sg_141_0_0, if_pos (nI_in (by omega) (by decide)), nI_clamp (by omega), hab0.1, if_pos (nI_in (by omega) (by decide)), nI_clamp (by omega), ea.1, sg_141_0_12, if_pos (nI_in (by omega) (by decide)), nI_clamp (by omega), hab0.2, if_pos (nI_in (by omega) (by decide)), nI_clamp (by omega), eb.1, sg_141_0_25]
  -- deaf: nothing
  have deaf : (ear (pA p x) = 1 ∨ ear (pB p x) = 1) → ∃ M', lc_val (d + 1) 141 41 [.ref 43, .int (nI at0), .int (nI x), .int (nI (ear (pA p x))), .int (nI (ear (pB p x))), .null, .null, .null] [.int 1] lc_SH M = some (none, lc_SH, M') ∧ (∀ c, c ≠ 44 → M' c = M c) ∧ (∀ j, (j < at0 ∨ at0 + 6 ≤ j) → M' 44 j = M 44 j) ∧ ∀ m, m < 6 → M' 44 (at0 + m) = nI (crossP p ear pin x m) := by
    intro hd
    refine ⟨M, ?_, fun _ _ => rfl, fun _ _ => rfl, fun m hm => by rw [hq m hm, crossP, if_pos hd]⟩
    rw [sg_141_0_41, if_pos (by decide), sg_141_0_64, if_pos (by decide), sg_141_0_87, if_pos (nI_in (by omega) (by decide)), sg_141_0_93, if_pos (by decide), sg_141_0_124]
  by_cases d1 : ear (pA p x) = 1
  · rw [if_pos (show nI (ear (pA p x)) = 1 by rw [d1]; rfl)]
    exact deaf (Or.inl d1)
  · rw [if_neg (ne1 ea.2 d1), lc_it_val, sg_141_0_30]
    by_cases d2 : ear (pB p x) = 1
    · rw [if_neg (show ¬ ¬ nI (ear (pB p x)) = 1 from fun z => z (by rw [d2]; rfl))]
      exact deaf (Or.inr d2)
    · have hnd : ¬ (ear (pA p x) = 1 ∨ ear (pB p x) = 1) := fun z => z.elim d1 d2
      rw [if_pos (ne1 eb.2 d2), lc_it_val, sg_141_0_41, if_neg (by decide), lc_it_val, sg_141_0_48]
      -- behind the choice of the other pin
      have tail : ∀ (w : Nat) (x6 : Int32), w < 6 → (crossP p ear pin x = swapP pin (pA p x) w) → ∃ M', lc_val (d + 1) 141 93 [.ref 43, .int (nI at0), .int (nI x), .int (nI (ear (pA p x))), .int (nI (ear (pB p x))), .int 0, .int x6, .null] [.int (nI w)] lc_SH M = some (none, lc_SH, M') ∧ (∀ c, c ≠ 44 → M' c = M c) ∧ (∀ j, (j < at0 ∨ at0 + 6 ≤ j) → M' 44 j = M 44 j) ∧ ∀ m, m < 6 → M' 44 (at0 + m) = nI (crossP p ear pin x m) := by
        intro w x6 hw hcr
        rw [sg_141_0_93, if_neg (by decide), sg_141_0_100, if_pos (nI_in (by omega) (by decide)), nI_clamp (by omega), hab0.1]
        by_cases hwa : w = pA p x
        · rw [if_pos (by rw [hwa]), sg_141_0_124]
          refine ⟨M, rfl, fun _ _ => rfl, fun _ _ => rfl, fun m hm => by rw [hq m hm, hcr, hwa, swapP_self]⟩
        · obtain ⟨M', e1, e2, e3, e4⟩ := v_change (d := d) (M := M) (pin := pin) (a := pA p x) (w := w) h0 (by omega) hw hq
          refine ⟨M', ?_, e2, e3, fun m hm => by rw [e4 m hm, hcr]⟩
          rw [if_neg (fun z => hwa ((nI_eq (by omega) (by omega)).mp z)), sg_141_0_111, if_pos (nI_in (by omega) (by decide)), nI_clamp (by omega), hab0.1, e1, lc_bk0, sg_141_0_124]
      have mir : (ear (pA p x) = 2 ∨ ear (pB p x) = 2) → ∃ M', lc_val (d + 1) 141 64 [.ref 43, .int (nI at0), .int (nI x), .int (nI (ear (pA p x))), .int (nI (ear (pB p x))), .int 0, .null, .null] [.int 1] lc_SH M = some (none, lc_SH, M') ∧ (∀ c, c ≠ 44 → M' c = M c) ∧ (∀ j, (j < at0 ∨ at0 + 6 ≤ j) → M' 44 j = M 44 j) ∧ ∀ m, m < 6 → M' 44 (at0 + m) = nI (crossP p ear pin x m) := by
        intro hmi
        have hnr := nextR_lt hab.2.1
        rw [sg_141_0_64, if_neg (by decide), sg_141_0_71, if_pos (nI_in (by omega) (by decide)), hn, if_neg (nI_ne0 (by omega) (by omega)), nI_clamp (by omega), hab0.2, nI_1, pk_rem (by omega) (by omega) (by omega)]
        have hmod : (pB p x + 1) % pNm p = nextR (pNm p) (pB p x) := by
          unfold nextR
          by_cases hb : pB p x + 1 < pNm p
          · rw [if_pos hb, Nat.mod_eq_of_lt hb]
          · rw [if_neg hb, show pB p x + 1 = pNm p by omega, Nat.mod_self]
        rw [hmod]
        exact tail _ _ (by omega) (by rw [crossP, if_neg hnd, if_pos hmi])
      by_cases m1 : ear (pA p x) = 2
      · rw [if_pos (show nI (ear (pA p x)) = 2 by rw [m1]; rfl)]
        try rw [lc_it_val]
        exact mir (Or.inl m1)
      · rw [if_neg (ne2 ea.2 m1)]
        by_cases m2 : ear (pB p x) = 2
        · rw [if_neg (show ¬ ¬ nI (ear (pB p x)) = 2 from fun z => z (by rw [m2]; rfl))]
          try rw [lc_it_val]
          exact mir (Or.inr m2)
        · rw [if_pos (ne2 eb.2 m2)]
          try rw [lc_it_val]
          rw [sg_141_0_64, if_pos (by decide), sg_141_0_87, if_pos (nI_in (by omega) (by decide)), nI_clamp (by omega), hab0.2]
          exact tail _ _ (by omega) (by rw [crossP, if_neg hnd, if_neg (fun z => z.elim m1 m2)])
theorem v_layMA {d : Nat} {s : Int32} : ∀ (k i : Nat) (M : lc_M), i + k = 6 → (∀ m, m < i → M 44 (30 + m) = nI m) → ∃ M', lc_val (d + 1) 167 2 [.ref 43, .int s, .int (nI i)] [] lc_SH M = lc_val (d + 1) 167 26 [.ref 43, .int s, .int (nI 0)] [] lc_SH M' ∧ (∀ c, c ≠ 44 → M' c = M c) ∧ (∀ j, (j < 30 ∨ 36 ≤ j) → M' 44 j = M 44 j) ∧ ∀ m, m < 6 → M' 44 (30 + m) = nI m
  | 0, i, M, h, hf => by
    refine ⟨M, ?_, fun _ _ => rfl, fun _ _ => rfl, fun m hm => hf m (by omega)⟩
    rw [sg_167_0_2, if_pos (show (6 : Int32) ≤ nI i from nI_le (a := 6) (by omega) (by omega))]
    rfl
  | k + 1, i, M, h, hf => by
    obtain ⟨M', e1, e2, e3, e4⟩ := v_layMA (d := d) (s := s) k (i + 1) (lc_up M 44 (30 + i) (nI i)) (by omega) (fun m hm => by
      rw [up_at, if_pos rfl]
      by_cases q : m = i
      · rw [if_pos (by omega), q]
      · rw [if_neg (by omega)]; exact hf m (by omega))
    refine ⟨M', ?_, fun c hc => by rw [e2 c hc, up_ne hc], fun j hj => by rw [e3 j hj, up_at, if_pos rfl, if_neg (by omega)], e4⟩
    rw [sg_167_0_2, if_neg (show ¬ (6 : Int32) ≤ nI i from nI_ge (b := 6) (by omega) (by decide)), lc_it_val, sg_167_0_8, show (30 : Int32) = nI 30 from rfl, nI_add, if_pos (nI_in (by omega) (by decide)), nI_clamp (by omega), nI_1, e1]
/-- what laying needs of the reference's pattern -/
def mPat3 (p : aPat) (M : lc_M) : Prop := M 43 4 = nI (pNm p) ∧ M 43 5 = nI (pNx p) ∧ ∀ x, x < pNx p → M 47 x = nI (pA p x) ∧ M 48 x = nI (pB p x)
theorem v_layMB {d s : Nat} {p : aPat} {ear : Nat → Nat} (hv : vPat p) (hs : s < 256) : ∀ (k i : Nat) (M : lc_M), i + k = pNx p → mPat3 p M → (∀ m, m < pNm p → M 46 m = nI (ear m) ∧ ear m ≤ 2) → (∀ m, m < 6 → M 44 (30 + m) = nI (layP p ear s i m)) → ∃ M', lc_val (d + 2) 167 26 [.ref 43, .int (nI s), .int (nI i)] [] lc_SH M = some (none, lc_SH, M') ∧ (∀ c, c ≠ 44 → M' c = M c) ∧ (∀ j, (j < 30 ∨ 36 ≤ j) → M' 44 j = M 44 j) ∧ ∀ m, m < 6 → M' 44 (30 + m) = nI (layP p ear s (pNx p) m)
  | 0, i, M, h, hp, he, hq => by
    have h8 := hv.2.2.2.1
    refine ⟨M, ?_, fun _ _ => rfl, fun _ _ => rfl, fun m hm => by rw [hq m hm, show i = pNx p by omega]⟩
    rw [sg_167_0_26, hp.2.1, if_pos (nI_le (by omega) (by omega))]
  | k + 1, i, M, h, hp, he, hq => by
    have h8 := hv.2.2.2.1
    rw [sg_167_0_26, hp.2.1, if_neg (nI_ge (by omega) (by omega))]
    by_cases ht : s.testBit i = true
    · obtain ⟨M', e1, e2, e3, e4⟩ := v_layMB (d := d) hv hs k (i + 1) M (by omega) hp he (fun m hm => by rw [hq m hm, layP, if_pos ht])
      refine ⟨M', ?_, e2, e3, e4⟩
      rw [v_mhas1 hs (by omega) ht, lc_bk1, sg_167_0_39, if_pos (by decide)]
      try rw [lc_it_val]
      rw [sg_167_0_49, nI_1, e1]
    · obtain ⟨M1, f1, f2, f3, f4⟩ := v_crossM (d := d) (at0 := 30) hp.1 (hp.2.2 i (by omega)) hv (x := i) (by omega) (by omega) he hq
      obtain ⟨M', e1, e2, e3, e4⟩ := v_layMB (d := d) hv hs k (i + 1) M1 (by omega) (by unfold mPat3; rw [f2 43 (by decide), f2 47 (by decide), f2 48 (by decide)]; exact hp) (by rw [f2 46 (by decide)]; exact he) (fun m hm => by rw [f4 m hm, layP, if_neg ht])
      refine ⟨M', ?_, fun c hc => by rw [e2 c hc, f2 c hc], fun j hj => by rw [e3 j hj, f3 j (by omega)], e4⟩
      rw [v_mhas0 hs (by omega) ht, lc_bk1, sg_167_0_39, if_neg (by decide), show (30 : Int32) = nI 30 from rfl, f1, lc_bk0, sg_167_0_49, nI_1, e1]
theorem v_layM {d s : Nat} {p : aPat} {ear : Nat → Nat} {M : lc_M} (hv : vPat p) (hs : s < 256) (hp : mPat3 p M) (he : ∀ m, m < pNm p → M 46 m = nI (ear m) ∧ ear m ≤ 2) : ∃ M', lc_val (d + 2) 167 0 [.ref 43, .int (nI s), .null] [] lc_SH M = some (none, lc_SH, M') ∧ (∀ c, c ≠ 44 → M' c = M c) ∧ (∀ j, (j < 30 ∨ 36 ≤ j) → M' 44 j = M 44 j) ∧ ∀ m, m < 6 → M' 44 (30 + m) = nI (layP p ear s (pNx p) m) := by
  obtain ⟨M1, f1, f2, f3, f4⟩ := v_layMA (d := d + 1) (s := nI s) 6 0 M (by omega) (fun m hm => by omega)
  obtain ⟨M', e1, e2, e3, e4⟩ := v_layMB (d := d) hv hs (pNx p) 0 M1 (by omega) (by unfold mPat3; rw [f2 43 (by decide), f2 47 (by decide), f2 48 (by decide)]; exact hp) (by rw [f2 46 (by decide)]; exact he) (fun m hm => f4 m hm)
  exact ⟨M', by rw [sg_167_0_0]; exact f1.trans e1, fun c hc => by rw [e2 c hc, f2 c hc], fun j hj => by rw [e3 j hj, f3 j hj], e4⟩
theorem mPat_3 {p : aPat} {M : lc_M} (h : cPat p (fun k => M 43 (k + 2)) (M 46) (M 47) (M 48) (M 49) (M 50)) : mPat3 p M := ⟨h.2.2.1, h.2.2.2.1, fun x hx => ⟨(h.2.2.2.2.2 x hx).1, (h.2.2.2.2.2 x hx).2.1⟩⟩
/-! what lies there is so -/
def soB (pin : Nat → Nat) (l : List (Nat × Nat)) : Bool := l.all (fun q => decide (pin q.1 = q.2))
theorem fo_so {pin : Nat → Nat} : ∀ (l : List (Nat × Nat)) (j : Nat), j + l.length < 2 ^ 30 → (foI pin l j = -1 ↔ soB pin l = true)
  | [], j, _ => by simp [foI, soB]
  | (a, b) :: t, j, h => by
    rw [List.length_cons] at h
    by_cases q : pin a = b
    · rw [foI, if_pos q, fo_so t (j + 1) (by omega)]
      simp [soB, q]
    · rw [foI, if_neg q]
      have hs : ¬ soB pin ((a, b) :: t) = true := by simp [soB, q]
      refine ⟨fun z => ?_, fun z => absurd z hs⟩
      have := congrArg Int32.toInt z
      rw [nI_toInt (by omega), show (-1 : Int32).toInt = -1 by decide] at this
      omega
theorem v_soM {d : Nat} {M : lc_M} {l : List (Nat × Nat)} {pin : Nat → Nat} (hc : M 43 28 = nI l.length) (hl : l.length ≤ 6) (ha : ∀ j x y, l[j]? = some (x, y) → M 54 j = nI x ∧ M 55 j = nI y ∧ x < 6 ∧ y < 6) (hp : ∀ m, m < 6 → M 44 (30 + m) = nI (pin m) ∧ pin m < 6) : ∀ (t : List (Nat × Nat)) (j : Nat), l.drop j = t → j ≤ l.length → lc_val d 175 4 [.ref 43, .int 1, .int (nI j)] [] lc_SH M = some (some (.int (if soB pin t = true then 1 else 0)), lc_SH, M)
  | [], j, h, hj => by
    have : l.length ≤ j := by
      have := congrArg List.length h
      rw [List.length_drop] at this
      simp at this; omega
    rw [sg_175_0_4, hc, if_pos (nI_le this (by omega)), if_pos (Or.inr rfl)]; rfl
  | (x, y) :: t, j, h, hj => by
    obtain ⟨h1, h2, h3⟩ := drop_cons h
    obtain ⟨q1, q2, q3, q4⟩ := ha j x y h1
    have e := hp x q3
    rw [sg_175_0_4, hc, if_neg (nI_ge h3 (by omega)), lc_it_val, sg_175_0_12, if_neg (by decide), lc_it_val, sg_175_0_16, nI_clamp (by omega), q1, q2, show (30 : Int32) = nI 30 from rfl, nI_add, nI_clamp (by omega), e.1, if_pos (nin (j := j) (N := 6) (by omega) (by decide)), if_pos (nin (j := 30 + x) (N := 1020) (by omega) (by decide)), if_pos (nin (j := j) (N := 6) (by omega) (by decide))]
    by_cases q : pin x = y
    · rw [if_neg (fun z => z (by rw [q])), sg_175_0_39, nI_1, v_soM hc hl ha hp t (j + 1) h2 h3]
      rw [show soB pin ((x, y) :: t) = soB pin t by simp [soB, q]]
    · rw [if_pos (fun z => q ((nI_eq (by omega) (by omega)).mp z)), sg_175_0_43, nI_1, sg_175_0_4, hc]
      rw [if_neg (show ¬ soB pin ((x, y) :: t) = true by simp [soB, q])]
      by_cases hend : l.length ≤ j + 1
      · rw [if_pos (nI_le hend (by omega)), if_pos (Or.inl rfl)]
      · rw [if_neg (nI_ge (by omega) (by omega)), lc_it_val, sg_175_0_12, if_pos (by decide), if_pos (Or.inl rfl)]
theorem v_foLie {d : Nat} {M : lc_M} {l : List (Nat × Nat)} {pin : Nat → Nat} (hc : M 33 3 = nI l.length) (hl : l.length ≤ 20) (ha : ∀ j x y, l[j]? = some (x, y) → M 34 j = nI x ∧ M 35 j = nI y ∧ x < 6 ∧ y < 6) (hp : ∀ m, m < 6 → M 31 m = nI (pin m) ∧ pin m < 6) : ∀ (t : List (Nat × Nat)) (j : Nat), l.drop j = t → j ≤ l.length → lc_val d 27 2 [.ref 33, .ref 31, .int (nI j)] [] lc_SH M = some (some (.int (foI pin t j)), lc_SH, M)
  | [], j, h, hj => by
    have : l.length ≤ j := by
      have := congrArg List.length h
      rw [List.length_drop] at this
      simp at this; omega
    rw [sg_27_0_2, hc, if_pos (nI_le this (by omega))]; rfl
  | (x, y) :: t, j, h, hj => by
    obtain ⟨h1, h2, h3⟩ := drop_cons h
    obtain ⟨q1, q2, q3, q4⟩ := ha j x y h1
    have e := hp x q3
    rw [sg_27_0_2, hc, if_neg (nI_ge h3 (by omega)), lc_it_val, sg_27_0_10, nI_clamp (by omega), q1, q2, nI_clamp (by omega), e.1]
    have ht := v_foLie (d := d) hc hl ha hp t (j + 1) h2 h3
    by_cases q : pin x = y
    · rw [if_pos (nin (j := j) (N := 20) (by omega) (by decide)), if_pos (nin (j := x) (N := 6) (by omega) (by decide)), if_pos (nin (j := j) (N := 20) (by omega) (by decide)), if_pos (by rw [q]), nI_1]
      rw [show foI pin ((x, y) :: t) j = foI pin t (j + 1) from if_pos q]
      exact ht
    · rw [if_pos (nin (j := j) (N := 20) (by omega) (by decide)), if_pos (nin (j := x) (N := 6) (by omega) (by decide)), if_pos (nin (j := j) (N := 20) (by omega) (by decide)), if_neg (fun z => q ((nI_eq (by omega) (by omega)).mp z))]
      rw [show foI pin ((x, y) :: t) j = nI j from if_neg q]
