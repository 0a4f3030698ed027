/-! the text, read by the reference -/
def txM (t : Nat → Nat) (L : Nat) (M : lc_M) : Prop := M 43 16 = nI L ∧ ∀ j, j < L → M 51 j = nI (t j)
def RM (t : Nat → Nat) (L i : Nat) (M : lc_M) : Prop := txM t L M ∧ M 43 19 = 0 ∧ M 43 20 = -1 ∧ M 43 17 = nI i
def flM (e : aErr) (M : lc_M) : Prop := M 43 19 = nI e.1 ∧ M 43 20 = nI e.2
def frN (M' M : lc_M) : Prop := (∀ c, c ≠ 43 → M' c = M c) ∧ ∀ k, (k < 17 ∨ 20 < k) → M' 43 k = M 43 k
theorem frN_trans {M1 M2 M3 : lc_M} (h : frN M1 M2) (g : frN M2 M3) : frN M1 M3 := ⟨fun c hc => (h.1 c hc).trans (g.1 c hc), fun k hk => (h.2 k hk).trans (g.2 k hk)⟩
theorem frN_tx {t : Nat → Nat} {L : Nat} {M M' : lc_M} (h : frN M' M) (g : txM t L M) : txM t L M' := ⟨(h.2 16 (by decide)).trans g.1, fun j hj => by rw [h.1 51 (by decide)]; exact g.2 j hj⟩
def hereI (t : Nat → Nat) (L j : Nat) : Int32 := if j < L then nI (t j) else -1
theorem v_hereL {d L : Nat} {t : Nat → Nat} (hL : L ≤ 200) (ht : ∀ j, j < L → t j ≤ 255) : ∀ (k i : Nat) (M : lc_M), i + k = L → txM t L M → M 43 17 = nI i → ∃ M', lc_val d 121 0 [.ref 43] [] lc_SH M = some (some (.int (hereI t L (skA t k i))), lc_SH, M') ∧ (∀ c, c ≠ 43 → M' c = M c) ∧ (∀ j, j ≠ 17 → M' 43 j = M 43 j) ∧ M' 43 17 = nI (skA t k i)
  | 0, i, M, h, hx, h4 => by
    refine ⟨M, ?_, fun _ _ => rfl, fun _ _ => rfl, h4⟩
    rw [sg_121_0_0, h4, hx.1, if_pos (nI_le (by omega) (by omega)), sg_121_0_38, h4, hx.1, if_pos (nI_le (by omega) (by omega)), skA]
    unfold hereI
    rw [if_neg (by omega)]
  | k + 1, i, M, h, hx, h4 => by
    have hti := ht i (by omega)
    have pre : lc_val d 121 0 [.ref 43] [] lc_SH M = (if ¬ nI (t i) = 32 then lc_val d 121 38 [.ref 43] [] lc_SH M else lc_val d 121 25 [.ref 43] [] lc_SH M) := by
      rw [sg_121_0_0, h4, hx.1, if_neg (nI_ge (by omega) (by omega)), sg_121_0_11, h4, if_pos (nI_in (by omega) (by decide)), nI_clamp (by omega), hx.2 i (by omega)]
    rw [pre, skA]
    by_cases q : t i = 32
    · have c1 : ∀ j, lc_up M 43 17 (nI (i + 1)) 43 j = if j = 17 then nI (i + 1) else M 43 j := fun j => by rw [up_at, if_pos rfl]
      obtain ⟨M', e1, e2, e3, e4⟩ := v_hereL (d := d) hL ht k (i + 1) (lc_up M 43 17 (nI (i + 1))) (by omega) ⟨by rw [c1, if_neg (by decide)]; exact hx.1, fun j hj => by rw [up_ne (by decide)]; exact hx.2 j hj⟩ (by rw [c1, if_pos rfl])
      refine ⟨M', ?_, fun c hc => by rw [e2 c hc, up_ne hc], fun j hj => by rw [e3 j hj, c1, if_neg hj], by rw [if_pos q]; exact e4⟩
      rw [if_neg (fun z => z (by rw [q]; rfl)), sg_121_0_25, h4, nI_1, if_pos q]
      exact e1
    · refine ⟨M, ?_, fun _ _ => rfl, fun _ _ => rfl, by rw [if_neg q]; exact h4⟩
      rw [if_pos (show ¬ nI (t i) = 32 from fun z => q ((nI_eq (b := 32) (by omega) (by decide)).mp z)), sg_121_0_38, h4, hx.1, if_neg (nI_ge (by omega) (by omega)), lc_it_val, sg_121_0_49, h4, if_pos (nI_in (by omega) (by decide)), nI_clamp (by omega), hx.2 i (by omega), if_neg q]
      unfold hereI
      rw [if_pos (by omega)]
theorem v_here {d L i : Nat} {t : Nat → Nat} {M : lc_M} (hL : L ≤ 200) (ht : ∀ j, j < L → t j ≤ 255) (hi : i ≤ L) (hx : txM t L M) (h4 : M 43 17 = nI i) : ∃ M', lc_val d 121 0 [.ref 43] [] lc_SH M = some (some (.int (hereI t L (skN t L i))), lc_SH, M') ∧ (∀ c, c ≠ 43 → M' c = M c) ∧ (∀ j, j ≠ 17 → M' 43 j = M 43 j) ∧ M' 43 17 = nI (skN t L i) := v_hereL hL ht (L - i) i M (by omega) hx h4
theorem v_w1 {d : Nat} {f w : Int32} {M : lc_M} (h : M 43 19 = 0) : lc_val d 122 0 [.ref 43, .int 1, .int f, .int w] [] lc_SH M = some (some (.int 1), lc_SH, M) := by
  rw [sg_122_0_0, if_pos (by decide), sg_122_0_21, if_neg (fun z => z h)]
theorem v_w1f {d : Nat} {f w : Int32} {M : lc_M} (h : ¬ M 43 19 = 0) : lc_val d 122 0 [.ref 43, .int 1, .int f, .int w] [] lc_SH M = some (some (.int 0), lc_SH, M) := by
  rw [sg_122_0_0, if_pos (by decide), sg_122_0_21, if_pos h]
theorem v_w0 {d : Nat} {f w : Int32} {M : lc_M} (h : M 43 19 = 0) (hf : ¬ f = 0) : lc_val d 122 0 [.ref 43, .int 0, .int f, .int w] [] lc_SH M = some (some (.int 0), lc_SH, lc_up (lc_up M 43 19 f) 43 20 w) := by
  rw [sg_122_0_0, if_neg (fun z => z rfl), sg_122_0_4, if_neg (fun z => z h), sg_122_0_21, if_pos (show ¬ lc_up (lc_up M 43 19 f) 43 20 w 43 19 = 0 from hf)]
theorem dgA_first {t : Nat → Nat} {L s : Nat} (h : s ≤ L) : dgA t (L - s) s = s ↔ ¬ (s < L ∧ isD (t s) = true) := by
  cases e : L - s with
  | zero => exact ⟨fun _ z => by omega, fun _ => rfl⟩
  | succ k =>
    rw [dgA]
    by_cases q : isD (t s) = true
    · rw [if_pos q]
      have := (dgA_in (t := t) k (s + 1)).1
      exact ⟨fun z => by omega, fun z => absurd ⟨by omega, q⟩ z⟩
    · rw [if_neg q]
      exact ⟨fun _ z => q z.2, fun _ => rfl⟩
theorem L48 : (48 : Int64).toInt = 48 := by decide
theorem L57 : (57 : Int64).toInt = 57 := by decide
theorem v_inD {d c : Nat} {M : lc_M} (hc : c ≤ 255) : lc_val d 116 0 [.long (Int32.toInt64 (nI c)), .null, .long 48, .null, .long 57, .null] [] lc_SH M = some (some (.int (if isD c = true then 1 else 0)), lc_SH, M) := by
  by_cases q : isD c = true
  · have := isD_iff.mp q
    rw [if_pos q, v_in1 (by rw [L48, nI_toInt (by omega)]; omega) (by rw [L57, nI_toInt (by omega)]; omega)]
  · rw [if_neg q, v_in0 (by
      rw [L48, L57, nI_toInt (by omega)]
      rcases Nat.lt_or_ge c 48 with z | z
      · left; omega
      · right
        rcases Nat.lt_or_ge 57 c with y | y
        · omega
        · exact absurd (isD_iff.mpr ⟨z, y⟩) q)]
theorem v_dgM {d L : Nat} {t : Nat → Nat} {x1 : Int32} (hL : L ≤ 200) (ht : ∀ j, j < L → t j ≤ 255) : ∀ (k i v : Nat) (M : lc_M), i + k = L → v ≤ 1000000 → txM t L M → M 43 17 = nI i → ∃ M', lc_val (d + 1) 123 49 [.ref 43, .int x1, .int (nI v), .null] [] lc_SH M = lc_val (d + 1) 123 123 [.ref 43, .int x1, .int (nI (mvA t k i v)), .null] [] lc_SH M' ∧ (∀ c, c ≠ 43 → M' c = M c) ∧ (∀ j, j ≠ 17 → M' 43 j = M 43 j) ∧ M' 43 17 = nI (dgA t k i)
  | 0, i, v, M, h, hv, hx, h4 => by
    refine ⟨M, ?_, fun _ _ => rfl, fun _ _ => rfl, h4⟩
    rw [sg_123_0_49, h4, hx.1, if_pos (nI_le (by omega) (by omega))]
    rfl
  | k + 1, i, v, M, h, hv, hx, h4 => by
    have hti := ht i (by omega)
    have pre : lc_val (d + 1) 123 49 [.ref 43, .int x1, .int (nI v), .null] [] lc_SH M = lc_val (d + 1) 123 79 [.ref 43, .int x1, .int (nI v), .null] [.int (if isD (t i) = true then 1 else 0)] lc_SH M := by
      rw [sg_123_0_49, h4, hx.1, if_neg (nI_ge (by omega) (by omega)), sg_123_0_60, h4, if_pos (nI_in (by omega) (by decide)), nI_clamp (by omega), hx.2 i (by omega), v_inD hti, lc_bk1]
    rw [pre, sg_123_0_79, mvA, dgA]
    by_cases q : isD (t i) = true
    · have hd := isD_iff.mp q
      have c1 : ∀ j, lc_up M 43 17 (nI (i + 1)) 43 j = if j = 17 then nI (i + 1) else M 43 j := fun j => by rw [up_at, if_pos rfl]
      obtain ⟨M', e1, e2, e3, e4⟩ := v_dgM (d := d) (x1 := x1) hL ht k (i + 1) (if v ≤ 99999 then 10 * v + t i - 48 else v) (lc_up M 43 17 (nI (i + 1))) (by omega) (by split <;> omega) ⟨by rw [c1, if_neg (by decide)]; exact hx.1, fun j hj => by rw [up_ne (by decide)]; exact hx.2 j hj⟩ (by rw [c1, if_pos rfl])
      refine ⟨M', ?_, fun c hc => by rw [e2 c hc, up_ne hc], fun j hj => by rw [e3 j hj, c1, if_neg hj], by rw [if_pos q]; exact e4⟩
      rw [if_pos q, if_neg (by decide), if_pos q]
      by_cases z : v ≤ 99999
      · rw [if_pos z] at e1
        rw [if_pos (show nI v ≤ (99999 : Int32) from nI_le (b := 99999) z (by decide)), lc_it_val, sg_123_0_92, h4, if_pos (nI_in (by omega) (by decide)), nI_clamp (by omega), hx.2 i (by omega), show 10 * nI v = nI (10 * v) from pk_mul 10 v, nI_add, show nI (10 * v + t i) - 48 = nI (10 * v + t i - 48) from subI (b := 48) (by omega), sg_123_0_109, h4, nI_1, if_pos z]
        exact e1
      · rw [if_neg z] at e1
        rw [if_neg (show ¬ nI v ≤ (99999 : Int32) from nI_ge (a := 99999) (by omega) (by omega)), sg_123_0_109, h4, nI_1, if_neg z]
        exact e1
    · refine ⟨M, ?_, fun _ _ => rfl, fun _ _ => rfl, by rw [if_neg q]; exact h4⟩
      rw [if_neg q, if_pos rfl, lc_it_val, if_neg q]
theorem numP_le {t : Nat → Nat} {L i v j s : Nat} (h : numP t L i = .inr (v, j, s)) : v ≤ 1000000 := by
  unfold numP at h
  by_cases q1 : dgA t (L - skN t L i) (skN t L i) = skN t L i
  · rw [if_pos q1] at h; cases h
  · rw [if_neg q1] at h
    by_cases q2 : 3 < dgA t (L - skN t L i) (skN t L i) - skN t L i
    · rw [if_pos q2] at h; cases h
    · rw [if_neg q2] at h
      injection h with h
      injection h with h1 h2
      subst h1
      rw [← mvA_nv (by omega)]
      exact mvA_le _ _ _ (by omega)
def ftM (M : lc_M) : Prop := ∃ f, 1 ≤ f ∧ f ≤ 4 ∧ M 43 19 = nI f
theorem ftM_ne {M : lc_M} (h : ftM M) : ¬ M 43 19 = 0 := by
  obtain ⟨f, h1, h2, h3⟩ := h
  rw [h3]
  exact nI_ne0 (by omega) (by omega)
theorem ftM_nle {M : lc_M} (h : ftM M) : ¬ M 43 19 ≤ 0 := by
  obtain ⟨f, h1, h2, h3⟩ := h
  rw [h3]
  exact nI_nle (by omega) (by omega)
theorem ftM_pos {M : lc_M} (h : ftM M) : 0 < M 43 19 := by
  obtain ⟨f, h1, h2, h3⟩ := h
  rw [h3]
  exact nI_lt (a := 0) (by omega) (by omega)
theorem flM_ft {L : Nat} {e : aErr} {M : lc_M} (h : flM e M) (he : okE L e) : ftM M := ⟨e.1, he.1, he.2.1, h.1⟩
theorem v_tn0 {d : Nat} {M : lc_M} (h : ftM M) : lc_val (d + 1) 123 0 [.ref 43, .null, .null, .null] [] lc_SH M = some (some (.int 0), lc_SH, M) := by
  rw [sg_123_0_0, if_neg (ftM_nle h)]
theorem v_tnM {d L i : Nat} {t : Nat → Nat} {M : lc_M} (hL : L ≤ 200) (ht : ∀ j, j < L → t j ≤ 255) (hi : i ≤ L) (hM : RM t L i M) : ∃ (M' : lc_M) (w : Int32), lc_val (d + 1) 123 0 [.ref 43, .null, .null, .null] [] lc_SH M = some (some (.int w), lc_SH, M') ∧ frN M' M ∧ (match numP t L i with
    | .inl e => flM e M'
    | .inr (v, j, s) => w = nI v ∧ RM t L j M' ∧ M' 43 18 = nI s) := by
  obtain ⟨hx, h2, h3, h4⟩ := hM
  obtain ⟨M1, f1, f2, f3, f4⟩ := v_here (d := d) hL ht hi hx h4
  have hs := skN_in (t := t) hi
  have hd := dgA_in (t := t) (L - skN t L i) (skN t L i)
  have u1 : ∀ j, lc_up M1 43 18 (nI (skN t L i)) 43 j = if j = 18 then nI (skN t L i) else M1 43 j := fun j => by rw [up_at, if_pos rfl]
  have uc : ∀ c, c ≠ 43 → lc_up M1 43 18 (nI (skN t L i)) c = M c := fun c hc => by rw [up_ne hc, f2 c hc]
  have frU : frN (lc_up M1 43 18 (nI (skN t L i))) M := ⟨uc, fun k hk => by rw [u1, if_neg (by omega), f3 k (by omega)]⟩
  have u19 : lc_up M1 43 18 (nI (skN t L i)) 43 19 = 0 := by rw [u1, if_neg (by decide), f3 19 (by decide)]; exact h2
  have u20 : lc_up M1 43 18 (nI (skN t L i)) 43 20 = -1 := by rw [u1, if_neg (by decide), f3 20 (by decide)]; exact h3
  have u17 : lc_up M1 43 18 (nI (skN t L i)) 43 17 = nI (skN t L i) := by rw [u1, if_neg (by decide)]; exact f4
  have pre : lc_val (d + 1) 123 0 [.ref 43, .null, .null, .null] [] lc_SH M = lc_val (d + 1) 123 34 [.ref 43, .int (hereI t L (skN t L i)), .null, .null] [.int (if skN t L i < L ∧ isD (t (skN t L i)) = true then 1 else 0), .ref 43] lc_SH (lc_up M1 43 18 (nI (skN t L i))) := by
    rw [sg_123_0_0, h2, if_pos (by decide), f1, lc_bk1, sg_123_0_13, f4]
    unfold hereI
    by_cases q : skN t L i < L
    · rw [if_pos q, v_inD (ht _ q)]
      by_cases z : isD (t (skN t L i)) = true
      · have hq := And.intro q z
        rw [if_pos z, if_pos hq]
        rfl
      · have hq : ¬ (skN t L i < L ∧ isD (t (skN t L i)) = true) := fun y => z y.2
        rw [if_neg z, if_neg hq]
        rfl
    · have hq : ¬ (skN t L i < L ∧ isD (t (skN t L i)) = true) := fun y => q y.1
      rw [if_neg q, v_in0 (a := -1) (Or.inl (by rw [L48]; decide)), if_neg hq]
      rfl
  rw [pre, sg_123_0_34, u17]
  have hfst := dgA_first (t := t) hs.2
  unfold numP
  by_cases q1 : skN t L i < L ∧ isD (t (skN t L i)) = true
  · have n1 : ¬ dgA t (L - skN t L i) (skN t L i) = skN t L i := fun z => hfst.mp z q1
    rw [if_pos q1, if_neg n1, v_w1 u19, lc_bk1, sg_123_0_42, if_pos (by decide), show (.int 0 : Value) = .int (nI 0) from rfl]
    obtain ⟨M2, g1, g2, g3, g4⟩ := v_dgM (d := d) (x1 := hereI t L (skN t L i)) hL ht (L - skN t L i) (skN t L i) 0 (lc_up M1 43 18 (nI (skN t L i))) (by omega) (by omega) (frN_tx frU hx) u17
    have m18 : M2 43 18 = nI (skN t L i) := by rw [g3 18 (by decide), u1, if_pos rfl]
    have m19 : M2 43 19 = 0 := by rw [g3 19 (by decide)]; exact u19
    have m20 : M2 43 20 = -1 := by rw [g3 20 (by decide)]; exact u20
    have fr2 : frN M2 M := frN_trans ⟨g2, fun k hk => g3 k (by omega)⟩ frU
    rw [g1, sg_123_0_123, g4, m18, subI hd.1]
    by_cases q2 : 3 < dgA t (L - skN t L i) (skN t L i) - skN t L i
    · rw [if_pos q2]
      refine ⟨lc_up (lc_up M2 43 19 2) 43 20 (nI (skN t L i)), nI (mvA t (L - skN t L i) (skN t L i) 0), ?_, frN_trans ⟨fun c hc => by rw [up_ne hc, up_ne hc], fun k hk => by rw [up_at, if_pos rfl, if_neg (by omega), up_at, if_pos rfl, if_neg (by omega)]⟩ fr2, rfl, rfl⟩
      rw [if_pos (show (4 : Int32) ≤ nI (dgA t (L - skN t L i) (skN t L i) - skN t L i) from nI_le (a := 4) (by omega) (by omega)), sg_123_0_141, m18, v_w0 m19 (by decide), lc_bk1, sg_123_0_150]
    · rw [if_neg q2]
      refine ⟨M2, nI (mvA t (L - skN t L i) (skN t L i) 0), ?_, fr2, ?_⟩
      · rw [if_neg (show ¬ (4 : Int32) ≤ nI (dgA t (L - skN t L i) (skN t L i) - skN t L i) from nI_ge (b := 4) (by omega) (by decide)), sg_123_0_137, m18, v_w1 m19, lc_bk1, sg_123_0_150]
      · exact ⟨by rw [mvA_nv (by omega)], ⟨frN_tx fr2 hx, m19, m20, g4⟩, m18⟩
  · have n1 : dgA t (L - skN t L i) (skN t L i) = skN t L i := hfst.mpr q1
    rw [if_neg q1, if_pos n1, v_w0 u19 (by decide), lc_bk1, sg_123_0_42, if_neg (fun z => z rfl)]
    exact ⟨_, _, rfl, frN_trans ⟨fun c hc => by rw [up_ne hc, up_ne hc], fun k hk => by rw [up_at, if_pos rfl, if_neg (by omega), up_at, if_pos rfl, if_neg (by omega)]⟩ frU, rfl, rfl⟩
theorem v_ti0 {d : Nat} {x1 x2 : Int32} {M : lc_M} (h : ftM M) : lc_val (d + 2) 124 0 [.ref 43, .int x1, .int x2, .null, .null] [] lc_SH M = some (some (.int 0), lc_SH, M) := by
  rw [sg_124_0_0, v_tn0 h, lc_bk1, sg_124_0_4, if_pos (ftM_pos h), sg_124_0_25, v_w1f (ftM_ne h), lc_bk1, sg_124_0_38]
theorem v_tiM {d L i lo H : Nat} {t : Nat → Nat} {x2 : Int32} {M : lc_M} (hL : L ≤ 200) (ht : ∀ j, j < L → t j ≤ 255) (hi : i ≤ L) (hlo : lo ≤ 1) (hx2 : x2.toInt = (H : Int) - 1) (hM : RM t L i M) : ∃ (M' : lc_M) (w : Int32), lc_val (d + 2) 124 0 [.ref 43, .int (nI lo), .int x2, .null, .null] [] lc_SH M = some (some (.int w), lc_SH, M') ∧ frN M' M ∧ (match readN t L lo H i with
    | .inl e => flM e M'
    | .inr (v, j, s) => w = nI v ∧ RM t L j M' ∧ M' 43 18 = nI s) := by
  obtain ⟨M1, w, f1, f2, f3⟩ := v_tnM (d := d) hL ht hi hM
  rw [sg_124_0_0, f1, lc_bk1, sg_124_0_4]
  unfold readN
  cases hn : numP t L i with
  | inl e =>
    rw [hn] at f3
    have hf := flM_ft f3 (numP_err hi hn)
    refine ⟨M1, w, ?_, f2, f3⟩
    rw [if_pos (ftM_pos hf), sg_124_0_25, v_w1f (ftM_ne hf), lc_bk1, sg_124_0_38]
  | inr r =>
    obtain ⟨v, j, s⟩ := r
    rw [hn] at f3
    obtain ⟨rfl, f4, f5⟩ := f3
    have hvl := numP_le hn
    have e1 : (Int32.toInt64 (nI lo)).toInt = (lo : Int) := by rw [Int32.toInt_toInt64, nI_toInt (by omega)]
    have e2 : (Int32.toInt64 x2).toInt = (H : Int) - 1 := by rw [Int32.toInt_toInt64]; exact hx2
    show ∃ (M' : lc_M) (w : Int32), _ ∧ frN M' M ∧ (match (if lo ≤ v ∧ v < H then (.inr (v, j, s) : aErr ⊕ (Nat × Nat × Nat)) else .inl (2, s)) with
      | .inl e => flM e M'
      | .inr (v, j, s) => w = nI v ∧ RM t L j M' ∧ M' 43 18 = nI s)
    rw [f4.2.1, if_neg (by decide), sg_124_0_13]
    by_cases q : lo ≤ v ∧ v < H
    · rw [if_pos q]
      refine ⟨M1, nI v, ?_, f2, rfl, f4, f5⟩
      rw [v_in1 (by rw [e1, nI_toInt (by omega)]; omega) (by rw [e2, nI_toInt (by omega)]; omega)]
      show lc_val (d + 2) 124 22 [.ref 43, .int (nI lo), .int x2, .int (nI v), .null] [.int 1, .ref 43] lc_SH M1 = _
      rw [sg_124_0_22, if_neg (by decide), lc_it_val, sg_124_0_25, v_w1 f4.2.1, lc_bk1, sg_124_0_38]
    · rw [if_neg q]
      refine ⟨lc_up (lc_up M1 43 19 2) 43 20 (nI s), nI v, ?_, frN_trans ⟨fun c hc => by rw [up_ne hc, up_ne hc], fun k hk => by rw [up_at, if_pos rfl, if_neg (by omega), up_at, if_pos rfl, if_neg (by omega)]⟩ f2, rfl, rfl⟩
      rw [v_in0 (by rw [e1, e2, nI_toInt (by omega)]; omega)]
      show lc_val (d + 2) 124 22 [.ref 43, .int (nI lo), .int x2, .int (nI v), .null] [.int 0, .ref 43] lc_SH M1 = _
      rw [sg_124_0_22, if_pos rfl, f5, v_w0 f4.2.1 (by decide), lc_bk1, sg_124_0_38]
