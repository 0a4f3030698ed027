/-! the text, read by the class -/
def txC (t : Nat → Nat) (L : Nat) (M : lc_M) : Prop := M 1 1 = nI L ∧ ∀ j, j < L → M 2 j = nI (t j)
def RC (t : Nat → Nat) (L i : Nat) (M : lc_M) : Prop := txC t L M ∧ M 1 2 = 0 ∧ M 1 3 = -1 ∧ M 1 4 = nI i
def flC (L : Nat) (e : aErr) (M : lc_M) : Prop := M 1 2 = nI e.1 ∧ M 1 3 = nI e.2 ∧ ∃ k, k ≤ L ∧ M 1 4 = nI k
def frR (M' M : lc_M) : Prop := (∀ c, c ≠ 1 → M' c = M c) ∧ M' 1 1 = M 1 1
theorem frR_trans {M1 M2 M3 : lc_M} (h : frR M1 M2) (g : frR M2 M3) : frR M1 M3 := ⟨fun c hc => (h.1 c hc).trans (g.1 c hc), h.2.trans g.2⟩
theorem frR_tx {t : Nat → Nat} {L : Nat} {M M' : lc_M} (h : frR M' M) (g : txC t L M) : txC t L M' := ⟨h.2.trans g.1, fun j hj => by rw [h.1 2 (by decide)]; exact g.2 j hj⟩
theorem v_skC {d L : Nat} {t : Nat → Nat} (hL : L ≤ 200) (ht : ∀ j, j < L → t j ≤ 255) : ∀ (k i : Nat) (M : lc_M), i + k = L → txC t L M → M 1 4 = nI i → ∃ M', lc_val d 57 0 [.ref 1] [] lc_SH M = some (none, lc_SH, M') ∧ (∀ c, c ≠ 1 → M' c = M c) ∧ (∀ j, j ≠ 4 → M' 1 j = M 1 j) ∧ M' 1 4 = nI (skA t k i)
  | 0, i, M, h, hx, h4 => by
    refine ⟨M, ?_, fun _ _ => rfl, fun _ _ => rfl, h4⟩
    rw [sg_57_0_0, h4, hx.1, if_pos (nI_le (by omega) (by omega))]
  | k + 1, i, M, h, hx, h4 => by
    have hti := ht i (by omega)
    have pre : lc_val d 57 0 [.ref 1] [] lc_SH M = (if ¬ nI (t i) = 32 then some (none, lc_SH, M) else lc_val d 57 25 [.ref 1] [] lc_SH M) := by
      rw [sg_57_0_0, h4, hx.1, if_neg (nI_ge (by omega) (by omega)), lc_it_val, sg_57_0_11, h4, if_pos (nI_in (by omega) (by decide)), nI_clamp (by omega), hx.2 i (by omega), lc_it_val]
    rw [pre, skA]
    by_cases q : t i = 32
    · have c1 : ∀ j, lc_up M 1 4 (nI (i + 1)) 1 j = if j = 4 then nI (i + 1) else M 1 j := fun j => by rw [up_at, if_pos rfl]
      obtain ⟨M', e1, e2, e3, e4⟩ := v_skC (d := d) hL ht k (i + 1) (lc_up M 1 4 (nI (i + 1))) (by omega) ⟨by rw [c1, if_neg (by decide)]; exact hx.1, fun j hj => by rw [up_ne (by decide)]; exact hx.2 j hj⟩ (by rw [c1, if_pos rfl])
      refine ⟨M', ?_, fun c hc => by rw [e2 c hc, up_ne hc], fun j hj => by rw [e3 j hj, c1, if_neg hj], by rw [if_pos q]; exact e4⟩
      rw [if_neg (fun z => z (by rw [q]; rfl)), sg_57_0_25, h4, nI_1]
      exact e1
    · refine ⟨M, ?_, fun _ _ => rfl, fun _ _ => rfl, by rw [if_neg q]; exact h4⟩
      rw [if_pos (show ¬ nI (t i) = 32 from fun z => q ((nI_eq (b := 32) (by omega) (by decide)).mp z))]
theorem v_skip {d L i : Nat} {t : Nat → Nat} {M : lc_M} (hL : L ≤ 200) (ht : ∀ j, j < L → t j ≤ 255) (hi : i ≤ L) (hx : txC t L M) (h4 : M 1 4 = nI i) : ∃ M', lc_val d 57 0 [.ref 1] [] lc_SH M = some (none, lc_SH, M') ∧ (∀ c, c ≠ 1 → M' c = M c) ∧ (∀ j, j ≠ 4 → M' 1 j = M 1 j) ∧ M' 1 4 = nI (skN t L i) := v_skC hL ht (L - i) i M (by omega) hx h4
theorem v_fig {d c : Nat} {M : lc_M} (hc : c ≤ 255) : lc_val d 58 0 [.int (nI c)] [] lc_SH M = some (some (.int (if isD c = true then 1 else 0)), lc_SH, M) := by
  rw [sg_58_0_0]
  by_cases q1 : c < 48
  · rw [if_pos (show nI c < 48 from nI_lt (b := 48) q1 (by decide)), if_neg (fun z => by have := isD_iff.mp z; omega)]
  · rw [if_neg (show ¬ nI c < 48 from nI_nlt (b := 48) (by omega) (by omega)), lc_it_val, sg_58_0_6]
    by_cases q2 : 57 < c
    · rw [if_pos (show (57 : Int32) < nI c from nI_lt (a := 57) q2 (by omega)), if_neg (fun z => by have := isD_iff.mp z; omega)]
    · rw [if_neg (show ¬ (57 : Int32) < nI c from nI_nlt (a := 57) (by omega) (by decide)), if_pos (isD_iff.mpr ⟨by omega, by omega⟩)]
theorem v_dgC {d L : Nat} {t : Nat → Nat} {x1 x2 : Int32} (hL : L ≤ 200) (ht : ∀ j, j < L → t j ≤ 255) : ∀ (k i v : Nat) (M : lc_M), i + k = L → v ≤ 1000 → txC t L M → M 1 4 = nI i → ∃ M', lc_val (d + 1) 55 23 [.ref 1, .int x1, .int x2, .int (nI v), .null] [] lc_SH M = lc_val (d + 1) 55 86 [.ref 1, .int x1, .int x2, .int (nI (cvA t k i v)), .null] [] lc_SH M' ∧ (∀ c, c ≠ 1 → M' c = M c) ∧ (∀ j, j ≠ 4 → M' 1 j = M 1 j) ∧ M' 1 4 = nI (dgA t k i)
  | 0, i, v, M, h, hv, hx, h4 => by
    refine ⟨M, ?_, fun _ _ => rfl, fun _ _ => rfl, h4⟩
    rw [sg_55_0_23, h4, hx.1, if_pos (nI_le (by omega) (by omega)), lc_it_val]
    rfl
  | k + 1, i, v, M, h, hv, hx, h4 => by
    have hti := ht i (by omega)
    have pre : lc_val (d + 1) 55 23 [.ref 1, .int x1, .int x2, .int (nI v), .null] [] lc_SH M = lc_val (d + 1) 55 46 [.ref 1, .int x1, .int x2, .int (nI v), .null] [.int (if isD (t i) = true then 1 else 0)] lc_SH M := by
      rw [sg_55_0_23, h4, hx.1, if_neg (nI_ge (by omega) (by omega)), if_pos (nI_in (by omega) (by decide)), nI_clamp (by omega), hx.2 i (by omega), v_fig hti, lc_bk1]
    rw [pre, sg_55_0_46, cvA, dgA]
    by_cases q : isD (t i) = true
    · have hd := isD_iff.mp q
      have c1 : ∀ j, lc_up M 1 4 (nI (i + 1)) 1 j = if j = 4 then nI (i + 1) else M 1 j := fun j => by rw [up_at, if_pos rfl]
      have hval : (if (1000 : Int32) < nI v * 10 + nI (t i) - 48 then (1000 : Int32) else nI v * 10 + nI (t i) - 48) = nI (if 1000 < v * 10 + t i - 48 then 1000 else v * 10 + t i - 48) := by
        rw [show nI v * 10 = nI (v * 10) from pk_mul v 10, nI_add, show nI (v * 10 + t i) - 48 = nI (v * 10 + t i - 48) from subI (b := 48) (by omega)]
        by_cases z : 1000 < v * 10 + t i - 48
        · rw [if_pos (show (1000 : Int32) < nI (v * 10 + t i - 48) from nI_lt (a := 1000) z (by omega)), if_pos z]; rfl
        · rw [if_neg (show ¬ (1000 : Int32) < nI (v * 10 + t i - 48) from nI_nlt (a := 1000) (by omega) (by decide)), if_neg z]
      obtain ⟨M', e1, e2, e3, e4⟩ := v_dgC (d := d) (x1 := x1) (x2 := x2) hL ht k (i + 1) (if 1000 < v * 10 + t i - 48 then 1000 else v * 10 + t i - 48) (lc_up M 1 4 (nI (i + 1))) (by omega) (by split <;> omega) ⟨by rw [c1, if_neg (by decide)]; exact hx.1, fun j hj => by rw [up_ne (by decide)]; exact hx.2 j hj⟩ (by rw [c1, if_pos rfl])
      refine ⟨M', ?_, fun c hc => by rw [e2 c hc, up_ne hc], fun j hj => by rw [e3 j hj, c1, if_neg hj], by rw [if_pos q]; exact e4⟩
      rw [if_pos q, if_neg (by decide), sg_55_0_49, h4, if_pos (nI_in (by omega) (by decide)), nI_clamp (by omega), hx.2 i (by omega), hval, sg_55_0_73, h4, nI_1, if_pos q]
      exact e1
    · refine ⟨M, ?_, fun _ _ => rfl, fun _ _ => rfl, by rw [if_neg q]; exact h4⟩
      rw [if_neg q, if_pos rfl, if_neg q]
theorem v_blame {d : Nat} {f w : Int32} {M : lc_M} (h : M 1 2 = 0) : lc_val d 59 0 [.ref 1, .int f, .int w] [] lc_SH M = some (none, lc_SH, lc_up (lc_up M 1 2 f) 1 3 w) := by
  rw [sg_59_0_0, if_neg (fun z => z h)]
theorem v_blame0 {d : Nat} {f w : Int32} {M : lc_M} (h : ¬ M 1 2 = 0) : lc_val d 59 0 [.ref 1, .int f, .int w] [] lc_SH M = some (none, lc_SH, M) := by
  rw [sg_59_0_0, if_pos h]
theorem v_num0 {d : Nat} {f w : Int32} {M : lc_M} (h : ¬ M 1 2 = 0) : lc_val (d + 1) 55 0 [.ref 1, .int f, .int w, .null, .null] [] lc_SH M = some (some (.int 0), lc_SH, M) := by
  rw [sg_55_0_0, if_neg h]
theorem v_rEnd0 {d : Nat} {M : lc_M} (h : ¬ M 1 2 = 0) : lc_val (d + 1) 56 0 [.ref 1] [] lc_SH M = some (none, lc_SH, M) := by
  rw [sg_56_0_0, if_neg h]
theorem flC_ne {L : Nat} {e : aErr} {M : lc_M} (h : flC L e M) (he : okE L e) : ¬ M 1 2 = 0 := by
  rw [h.1]
  have h1 := he.1
  have h2 := he.2.1
  exact nI_ne0 (by omega) (by omega)
theorem v_numC {d L i lo H : Nat} {t : Nat → Nat} {x2 : Int32} {M : lc_M} (hL : L ≤ 200) (ht : ∀ j, j < L → t j ≤ 255) (hi : i ≤ L) (hlo : lo ≤ 1) (hH : H ≤ 100) (hx2 : x2.toInt = (H : Int) - 1) (hM : RC t L i M) : ∃ (M' : lc_M) (w : Int32), lc_val (d + 1) 55 0 [.ref 1, .int (nI lo), .int x2, .null, .null] [] lc_SH M = some (some (.int w), lc_SH, M') ∧ frR M' M ∧ (match readN t L lo H i with
    | .inl e => flC L e M'
    | .inr (v, j, s) => w = nI v ∧ RC t L j M' ∧ M' 1 5 = nI s) := by
  obtain ⟨hx, h2, h3, h4⟩ := hM
  obtain ⟨M1, f1, f2, f3, f4⟩ := v_skip (d := d) hL ht hi hx h4
  have hs := skN_in (t := t) hi
  have u1 : ∀ j, lc_up M1 1 5 (nI (skN t L i)) 1 j = if j = 5 then nI (skN t L i) else M1 1 j := fun j => by rw [up_at, if_pos rfl]
  have uc : ∀ c, c ≠ 1 → lc_up M1 1 5 (nI (skN t L i)) c = M c := fun c hc => by rw [up_ne hc, f2 c hc]
  obtain ⟨M2, g1, g2, g3, g4⟩ := v_dgC (d := d) (x1 := nI lo) (x2 := x2) hL ht (L - skN t L i) (skN t L i) 0 (lc_up M1 1 5 (nI (skN t L i))) (by omega) (by omega) ⟨by rw [u1, if_neg (by decide), f3 1 (by decide)]; exact hx.1, fun j hj => by rw [uc 2 (by decide)]; exact hx.2 j hj⟩ (by rw [u1, if_neg (by decide)]; exact f4)
  have hd := dgA_in (t := t) (L - skN t L i) (skN t L i)
  have m5 : M2 1 5 = nI (skN t L i) := by rw [g3 5 (by decide), u1, if_pos rfl]
  have m2 : M2 1 2 = 0 := by rw [g3 2 (by decide), u1, if_neg (by decide), f3 2 (by decide)]; exact h2
  have m3 : M2 1 3 = -1 := by rw [g3 3 (by decide), u1, if_neg (by decide), f3 3 (by decide)]; exact h3
  have m1 : M2 1 1 = M 1 1 := by rw [g3 1 (by decide), u1, if_neg (by decide), f3 1 (by decide)]
  have fr2 : frR M2 M := ⟨fun c hc => by rw [g2 c hc, uc c hc], m1⟩
  have frb : ∀ f w : Int32, frR (lc_up (lc_up M2 1 2 f) 1 3 w) M := fun f w => ⟨fun c hc => by rw [up_ne hc, up_ne hc, fr2.1 c hc], m1⟩
  have pre : lc_val (d + 1) 55 0 [.ref 1, .int (nI lo), .int x2, .null, .null] [] lc_SH M = lc_val (d + 1) 55 86 [.ref 1, .int (nI lo), .int x2, .int (nI (cvA t (L - skN t L i) (skN t L i) 0)), .null] [] lc_SH M2 := by
    rw [sg_55_0_0, if_pos h2, f1, lc_bk0, sg_55_0_13, f4, show (.int 0 : Value) = .int (nI 0) from rfl]
    exact g1
  have hcv := cvA_nv (t := t) (L - skN t L i) (skN t L i) 0
  rw [if_neg (show ¬ 1000 < 0 by decide)] at hcv
  rw [pre, sg_55_0_86, g4, m5, subI hd.1]
  unfold readN numP
  by_cases q1 : dgA t (L - skN t L i) (skN t L i) = skN t L i
  · rw [if_pos q1]
    refine ⟨lc_up (lc_up M2 1 2 1) 1 3 (nI (skN t L i)), nI (cvA t (L - skN t L i) (skN t L i) 0), ?_, frb _ _, rfl, rfl, skN t L i, hs.2, ?_⟩
    · rw [if_neg (fun z => z (by rw [q1, Nat.sub_self]; rfl)), sg_55_0_102, g4, q1, v_blame m2, lc_bk0, sg_55_0_111, sg_55_0_139]
    · rw [up_at, if_pos rfl, if_neg (by decide), up_at, if_pos rfl, if_neg (by decide), g4, q1]
  · rw [if_neg q1, if_pos (nI_ne0 (by omega) (by omega)), sg_55_0_114]
    have bad : lc_val (d + 1) 55 130 [.ref 1, .int (nI lo), .int x2, .int (nI (cvA t (L - skN t L i) (skN t L i) 0)), .int (nI (dgA t (L - skN t L i) (skN t L i) - skN t L i))] [] lc_SH M2 = some (some (.int (nI (cvA t (L - skN t L i) (skN t L i) 0))), lc_SH, lc_up (lc_up M2 1 2 2) 1 3 (nI (skN t L i))) := by
      rw [sg_55_0_130, m5, v_blame m2, lc_bk0, sg_55_0_139]
    have fbad : flC L (2, skN t L i) (lc_up (lc_up M2 1 2 2) 1 3 (nI (skN t L i))) := ⟨rfl, rfl, dgA t (L - skN t L i) (skN t L i), by omega, by rw [up_at, if_pos rfl, if_neg (by decide), up_at, if_pos rfl, if_neg (by decide), g4]⟩
    by_cases q2 : 3 < dgA t (L - skN t L i) (skN t L i) - skN t L i
    · rw [if_pos q2]
      refine ⟨lc_up (lc_up M2 1 2 2) 1 3 (nI (skN t L i)), nI (cvA t (L - skN t L i) (skN t L i) 0), ?_, frb _ _, fbad⟩
      rw [if_pos (show (3 : Int32) < nI (dgA t (L - skN t L i) (skN t L i) - skN t L i) from nI_lt (a := 3) q2 (by omega)), bad]
    · rw [if_neg q2]
      have hcl := cvA_le (t := t) (L - skN t L i) (skN t L i) 0 (by omega)
      have vle : nI (cvA t (L - skN t L i) (skN t L i) 0) ≤ x2 ↔ cvA t (L - skN t L i) (skN t L i) 0 < H := by
        rw [Int32.le_iff_toInt_le, nI_toInt (by omega), hx2]
        omega
      show ∃ (M' : lc_M) (w : Int32), _ ∧ frR M' M ∧ (match (if lo ≤ nvA t (L - skN t L i) (skN t L i) 0 ∧ nvA t (L - skN t L i) (skN t L i) 0 < H then (.inr (nvA t (L - skN t L i) (skN t L i) 0, dgA t (L - skN t L i) (skN t L i), skN t L i) : aErr ⊕ (Nat × Nat × Nat)) else .inl (2, skN t L i)) with
        | .inl e => flC L e M'
        | .inr (v, j, s) => w = nI v ∧ RC t L j M' ∧ M' 1 5 = nI s)
      rw [if_neg (show ¬ (3 : Int32) < nI (dgA t (L - skN t L i) (skN t L i) - skN t L i) from nI_nlt (a := 3) (by omega) (by decide)), sg_55_0_120]
      by_cases q3 : lo ≤ nvA t (L - skN t L i) (skN t L i) 0
      · have c3 : lo ≤ cvA t (L - skN t L i) (skN t L i) 0 := by rw [hcv]; split <;> omega
        rw [if_neg (nI_nlt c3 (by omega))]
        by_cases q4 : nvA t (L - skN t L i) (skN t L i) 0 < H
        · have c4 : cvA t (L - skN t L i) (skN t L i) 0 = nvA t (L - skN t L i) (skN t L i) 0 := by rw [hcv, if_neg (by omega)]
          have hq := And.intro q3 q4
          rw [if_pos hq, if_pos (vle.mpr (by omega))]
          refine ⟨M2, _, by rw [sg_55_0_139], fr2, ?_⟩
          exact ⟨by rw [c4], ⟨frR_tx fr2 hx, m2, m3, g4⟩, m5⟩
        · have c4 : ¬ cvA t (L - skN t L i) (skN t L i) 0 < H := by rw [hcv]; split <;> omega
          have hq : ¬ (lo ≤ nvA t (L - skN t L i) (skN t L i) 0 ∧ nvA t (L - skN t L i) (skN t L i) 0 < H) := fun z => q4 z.2
          rw [if_neg hq, if_neg (fun z => c4 (vle.mp z))]
          exact ⟨_, _, bad, frb _ _, fbad⟩
      · have c3 : cvA t (L - skN t L i) (skN t L i) 0 < lo := by rw [hcv]; split <;> omega
        have hq : ¬ (lo ≤ nvA t (L - skN t L i) (skN t L i) 0 ∧ nvA t (L - skN t L i) (skN t L i) 0 < H) := fun z => q3 z.1
        rw [if_neg hq, if_pos (nI_lt c3 (by omega)), lc_it_val]
        exact ⟨_, _, bad, frb _ _, fbad⟩
theorem v_rEnd {d L i : Nat} {t : Nat → Nat} {M : lc_M} (hL : L ≤ 200) (ht : ∀ j, j < L → t j ≤ 255) (hi : i ≤ L) (hM : RC t L i M) : ∃ M' : lc_M, lc_val (d + 1) 56 0 [.ref 1] [] lc_SH M = some (none, lc_SH, M') ∧ frR M' M ∧ (match enP t L i with
    | .inl e => flC L e M'
    | .inr k => RC t L k M') := by
  obtain ⟨hx, h2, h3, h4⟩ := hM
  obtain ⟨M1, f1, f2, f3, f4⟩ := v_skip (d := d) hL ht hi hx h4
  have hs := skN_in (t := t) hi
  have m1 : M1 1 1 = nI L := by rw [f3 1 (by decide)]; exact hx.1
  have m2 : M1 1 2 = 0 := by rw [f3 2 (by decide)]; exact h2
  have m3 : M1 1 3 = -1 := by rw [f3 3 (by decide)]; exact h3
  have fr1 : frR M1 M := ⟨f2, f3 1 (by decide)⟩
  have bad : lc_val (d + 1) 56 37 [.ref 1] [] lc_SH M1 = some (none, lc_SH, lc_up (lc_up M1 1 2 1) 1 3 (nI (skN t L i))) := by
    rw [sg_56_0_37, f4, v_blame m2, lc_bk0, sg_56_0_46]
  have fbad : frR (lc_up (lc_up M1 1 2 1) 1 3 (nI (skN t L i))) M ∧ flC L (1, skN t L i) (lc_up (lc_up M1 1 2 1) 1 3 (nI (skN t L i))) := ⟨⟨fun c hc => by rw [up_ne hc, up_ne hc, f2 c hc], by rw [← fr1.2]; rfl⟩, rfl, rfl, skN t L i, hs.2, by rw [up_at, if_pos rfl, if_neg (by decide), up_at, if_pos rfl, if_neg (by decide), f4]⟩
  rw [sg_56_0_0, if_pos h2, f1, lc_bk0, sg_56_0_12, m1, f4]
  unfold enP
  by_cases q1 : skN t L i < L
  · have hti := ht _ q1
    rw [if_neg (nI_ge q1 (by omega)), sg_56_0_23, f4, if_pos (nI_in (by omega) (by decide)), nI_clamp (by omega), f2 2 (by decide), hx.2 _ q1]
    by_cases q2 : t (skN t L i) = 59
    · have hq := And.intro q1 q2
      rw [if_pos hq, if_pos (show nI (t (skN t L i)) = 59 by rw [q2]; rfl), sg_56_0_47, f4, nI_1]
      exact ⟨_, rfl, ⟨fun c hc => by rw [up_ne hc, f2 c hc], fr1.2⟩, ⟨m1, fun j hj => by rw [up_ne (by decide), f2 2 (by decide)]; exact hx.2 j hj⟩, m2, m3, rfl⟩
    · have hq : ¬ (skN t L i < L ∧ t (skN t L i) = 59) := fun z => q2 z.2
      rw [if_neg hq, if_neg (show ¬ nI (t (skN t L i)) = 59 from fun z => q2 ((nI_eq (b := 59) (by omega) (by decide)).mp z)), bad]
      exact ⟨_, rfl, fbad.1, fbad.2⟩
  · have hq : ¬ (skN t L i < L ∧ t (skN t L i) = 59) := fun z => q1 z.1
    rw [if_neg hq, if_pos (nI_le (by omega) (by omega)), bad]
    exact ⟨_, rfl, fbad.1, fbad.2⟩
