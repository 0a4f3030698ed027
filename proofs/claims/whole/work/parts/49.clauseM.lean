/-! clauses, read by the reference -/
def patE (D : aPat) (M : lc_M) : Prop := cPat D (fun k => M 43 (k + 6)) (fun m => M 46 (6 + m)) (fun x => M 47 (8 + x)) (fun x => M 48 (8 + x)) (fun x => M 49 (8 + x)) (fun x => M 50 (8 + x))
def frT (M' M : lc_M) : Prop := (∀ c, c ≠ 43 → (c < 46 ∨ 50 < c) → M' c = M c) ∧ (∀ k, (k < 6 ∨ (9 < k ∧ k < 17) ∨ 20 < k) → M' 43 k = M 43 k) ∧ (∀ j, j < 6 → M' 46 j = M 46 j) ∧ ∀ j, j < 8 → M' 47 j = M 47 j ∧ M' 48 j = M 48 j ∧ M' 49 j = M 49 j ∧ M' 50 j = M 50 j
theorem frT_refl {M : lc_M} : frT M M := ⟨fun _ _ _ => rfl, fun _ _ => rfl, fun _ _ => rfl, fun _ _ => ⟨rfl, rfl, rfl, rfl⟩⟩
theorem frT_trans {M1 M2 M3 : lc_M} (h : frT M1 M2) (g : frT M2 M3) : frT M1 M3 := ⟨fun c h1 h2 => (h.1 c h1 h2).trans (g.1 c h1 h2), fun k hk => (h.2.1 k hk).trans (g.2.1 k hk), fun j hj => (h.2.2.1 j hj).trans (g.2.2.1 j hj), fun j hj => ⟨(h.2.2.2 j hj).1.trans (g.2.2.2 j hj).1, (h.2.2.2 j hj).2.1.trans (g.2.2.2 j hj).2.1, (h.2.2.2 j hj).2.2.1.trans (g.2.2.2 j hj).2.2.1, (h.2.2.2 j hj).2.2.2.trans (g.2.2.2 j hj).2.2.2⟩⟩
theorem frT_N {M' M : lc_M} (h : frN M' M) : frT M' M := ⟨fun c h1 _ => h.1 c h1, fun k hk => h.2 k (by omega), fun j _ => by rw [h.1 46 (by decide)], fun j _ => ⟨by rw [h.1 47 (by decide)], by rw [h.1 48 (by decide)], by rw [h.1 49 (by decide)], by rw [h.1 50 (by decide)]⟩⟩
theorem frT_43 {M : lc_M} {k : Nat} {v : Int32} (hk : 6 ≤ k ∧ k ≤ 9 ∨ 17 ≤ k ∧ k ≤ 20) : frT (lc_up M 43 k v) M := ⟨fun c h1 _ => up_ne h1, fun j hj => by rw [up_at, if_pos rfl, if_neg (by omega)], fun j _ => by rw [up_ne (by decide)], fun j _ => ⟨by rw [up_ne (by decide)], by rw [up_ne (by decide)], by rw [up_ne (by decide)], by rw [up_ne (by decide)]⟩⟩
theorem frT_46 {M : lc_M} {k : Nat} {v : Int32} (hk : 6 ≤ k) : frT (lc_up M 46 k v) M := ⟨fun c h1 h2 => up_ne (by omega), fun j hj => by rw [up_ne (by decide)], fun j hj => by rw [up_at, if_pos rfl, if_neg (by omega)], fun j _ => ⟨by rw [up_ne (by decide)], by rw [up_ne (by decide)], by rw [up_ne (by decide)], by rw [up_ne (by decide)]⟩⟩
theorem frT_47 {M : lc_M} {k : Nat} {v : Int32} (hk : 8 ≤ k) : frT (lc_up M 47 k v) M := ⟨fun c h1 h2 => up_ne (by omega), fun j hj => by rw [up_ne (by decide)], fun j hj => by rw [up_ne (by decide)], fun j hj => ⟨by rw [up_at, if_pos rfl, if_neg (by omega)], by rw [up_ne (by decide)], by rw [up_ne (by decide)], by rw [up_ne (by decide)]⟩⟩
theorem frT_48 {M : lc_M} {k : Nat} {v : Int32} (hk : 8 ≤ k) : frT (lc_up M 48 k v) M := ⟨fun c h1 h2 => up_ne (by omega), fun j hj => by rw [up_ne (by decide)], fun j hj => by rw [up_ne (by decide)], fun j hj => ⟨by rw [up_ne (by decide)], by rw [up_at, if_pos rfl, if_neg (by omega)], by rw [up_ne (by decide)], by rw [up_ne (by decide)]⟩⟩
theorem frT_49 {M : lc_M} {k : Nat} {v : Int32} (hk : 8 ≤ k) : frT (lc_up M 49 k v) M := ⟨fun c h1 h2 => up_ne (by omega), fun j hj => by rw [up_ne (by decide)], fun j hj => by rw [up_ne (by decide)], fun j hj => ⟨by rw [up_ne (by decide)], by rw [up_ne (by decide)], by rw [up_at, if_pos rfl, if_neg (by omega)], by rw [up_ne (by decide)]⟩⟩
theorem frT_50 {M : lc_M} {k : Nat} {v : Int32} (hk : 8 ≤ k) : frT (lc_up M 50 k v) M := ⟨fun c h1 h2 => up_ne (by omega), fun j hj => by rw [up_ne (by decide)], fun j hj => by rw [up_ne (by decide)], fun j hj => ⟨by rw [up_ne (by decide)], by rw [up_ne (by decide)], by rw [up_ne (by decide)], by rw [up_at, if_pos rfl, if_neg (by omega)]⟩⟩
theorem patE_N {D : aPat} {M M' : lc_M} (h : patE D M) (e : frN M' M) : patE D M' := by
  unfold patE at h ⊢
  rw [e.1 46 (by decide), e.1 47 (by decide), e.1 48 (by decide), e.1 49 (by decide), e.1 50 (by decide)]
  obtain ⟨q1, q2, q3, q4, q5⟩ := h
  exact ⟨(e.2 6 (by decide)).trans q1, (e.2 7 (by decide)).trans q2, (e.2 8 (by decide)).trans q3, (e.2 9 (by decide)).trans q4, q5⟩
def resM (t : Nat → Nat) (L : Nat) (r : aErr ⊕ (aPat × Nat)) (M : lc_M) : Prop := match r with
  | .inl e => flM e M
  | .inr (D, k) => RM t L k M ∧ patE D M
theorem RM_up {t : Nat → Nat} {L i c k : Nat} {v : Int32} {M : lc_M} (h : RM t L i M) (hc : c ≠ 51 ∧ (c ≠ 43 ∨ (k ≠ 16 ∧ k ≠ 17 ∧ k ≠ 19 ∧ k ≠ 20))) : RM t L i (lc_up M c k v) := by
  obtain ⟨hx, h2, h3, h4⟩ := h
  have key : ∀ j, (j = 16 ∨ j = 17 ∨ j = 19 ∨ j = 20) → lc_up M c k v 43 j = M 43 j := fun j hj => by
    rw [up_at]
    by_cases e : 43 = c
    · rw [if_pos e, if_neg (by omega)]
    · rw [if_neg e]
  exact ⟨⟨(key 16 (by decide)).trans hx.1, fun j hj => by rw [up_ne (fun z => hc.1 z.symm)]; exact hx.2 j hj⟩, (key 19 (by decide)).trans h2, (key 20 (by decide)).trans h3, (key 17 (by decide)).trans h4⟩
theorem fl_up {e : aErr} {c k : Nat} {v : Int32} {M : lc_M} (h : flM e M) (hc : c ≠ 43 ∨ (k ≠ 19 ∧ k ≠ 20)) : flM e (lc_up M c k v) := by
  have key : ∀ j, (j = 19 ∨ j = 20) → lc_up M c k v 43 j = M 43 j := fun j hj => by
    rw [up_at]
    by_cases e : 43 = c
    · rw [if_pos e, if_neg (by omega)]
    · rw [if_neg e]
  exact ⟨(key 19 (by decide)).trans h.1, (key 20 (by decide)).trans h.2⟩
theorem v_exM {d L i : Nat} {t : Nat → Nat} {D : aPat} {M : lc_M} {wh : Int32} (hL : L ≤ 200) (ht : ∀ j, j < L → t j ≤ 255) (hi : i ≤ L) (hM : RM t L i M) (hD : patE D M) (h0 : pLn D = 0) : ∃ M', lc_val (d + 3) 125 0 [.ref 43, .int wh] [] lc_SH M = some (none, lc_SH, M') ∧ frT M' M ∧ resM t L (exP t L D i) M' := by
  have h6 : M 43 6 = 0 := by have : M 43 6 = nI (pLn D) := hD.1; rw [this, h0]; rfl
  obtain ⟨M1, w1, f1, f2, f3⟩ := v_tiM (d := d) (lo := 1) (H := 4) (x2 := 3) hL ht hi (by decide) (by decide) hM
  have pre : lc_val (d + 3) 125 0 [.ref 43, .int wh] [] lc_SH M = lc_val (d + 3) 125 28 [.ref 43, .int wh] [.int w1, .ref 43] lc_SH M1 := by
    rw [sg_125_0_0, if_neg (fun z => z h6), v_w1 hM.2.1, lc_bk1, sg_125_0_18, if_neg (by decide), show (.int 1 : Value) = .int (nI 1) from rfl, f1]
    rfl
  rw [pre, sg_125_0_28]
  unfold exP
  cases h1 : readN t L 1 4 i with
  | inl e =>
    rw [h1] at f3
    have hok := readN_err hi h1
    have fl1 : flM e (lc_up M1 43 6 w1) := fl_up f3 (Or.inr (by decide))
    refine ⟨lc_up (lc_up M1 43 6 w1) 43 7 0, ?_, frT_trans (frT_43 (by decide)) (frT_trans (frT_43 (by decide)) (frT_N f2)), fl_up fl1 (Or.inr (by decide))⟩
    rw [v_ti0 (flM_ft fl1 hok)]
    show lc_val (d + 3) 125 39 [.ref 43, .int wh] [.int 0, .ref 43] lc_SH (lc_up M1 43 6 w1) = _
    rw [sg_125_0_39]
  | inr r =>
    obtain ⟨l, j, s⟩ := r
    rw [h1] at f3
    obtain ⟨rfl, f4, _⟩ := f3
    have g1 := readN_ok hi h1
    obtain ⟨M2, w2, k1, k2, k3⟩ := v_tiM (d := d) (lo := 0) (H := 100) (x2 := 99) (M := lc_up M1 43 6 (nI l)) hL ht (show j ≤ L by omega) (by decide) (by decide) (RM_up f4 (by omega))
    have frE2 : frT (lc_up M2 43 7 w2) M := frT_trans (frT_43 (by decide)) (frT_trans (frT_N k2) (frT_trans (frT_43 (by decide)) (frT_N f2)))
    have go : lc_back 59 (fun st' Sh' M' => lc_val (d + 3) 125 39 [.ref 43, .int wh] st' Sh' M') [.ref 43] (lc_val (d + 2) 124 0 [.ref 43, .int 0, .int 99, .null, .null] [] lc_SH (lc_up M1 43 6 (nI l))) = some (none, lc_SH, lc_up M2 43 7 w2) := by
      rw [show (.int 0 : Value) = .int (nI 0) from rfl, k1]
      show lc_val (d + 3) 125 39 [.ref 43, .int wh] [.int w2, .ref 43] lc_SH M2 = _
      rw [sg_125_0_39]
    refine ⟨lc_up M2 43 7 w2, go, frE2, ?_⟩
    show resM t L (match readN t L 0 100 j with
      | .inl e => .inl e
      | .inr (c, j2, _) => .inr (setE D l c, j2)) _
    cases h2 : readN t L 0 100 j with
    | inl e =>
      rw [h2] at k3
      exact fl_up k3 (Or.inr (by decide))
    | inr r =>
      obtain ⟨c, j2, s2⟩ := r
      rw [h2] at k3
      obtain ⟨rfl, k4, _⟩ := k3
      refine ⟨RM_up k4 (by omega), ?_⟩
      have hD1 := patE_N hD f2
      obtain ⟨q1, q2, q3, q4, q5⟩ := hD1
      have key : ∀ k, (k = 8 ∨ k = 9) → lc_up M2 43 7 (nI c) 43 k = M1 43 k := fun k hk => by rw [up_at, if_pos rfl, if_neg (by omega), k2.2 k (by omega), up_at, if_pos rfl, if_neg (by omega)]
      unfold patE
      rw [up_ne (c := 46) (by decide), up_ne (c := 47) (by decide), up_ne (c := 48) (by decide), up_ne (c := 49) (by decide), up_ne (c := 50) (by decide), k2.1 46 (by decide), k2.1 47 (by decide), k2.1 48 (by decide), k2.1 49 (by decide), k2.1 50 (by decide), up_ne (c := 46) (by decide), up_ne (c := 47) (by decide), up_ne (c := 48) (by decide), up_ne (c := 49) (by decide), up_ne (c := 50) (by decide)]
      refine ⟨?_, ?_, (key 8 (by decide)).trans q3, (key 9 (by decide)).trans q4, q5⟩
      · show lc_up M2 43 7 (nI c) 43 6 = nI l
        rw [up_at, if_pos rfl, if_neg (by decide), k2.2 6 (by decide), up_at, if_pos rfl, if_pos rfl]
      · show lc_up M2 43 7 (nI c) 43 7 = nI c
        rw [up_at, if_pos rfl, if_pos rfl]
theorem v_maM {d L i : Nat} {t : Nat → Nat} {D : aPat} {M : lc_M} {wh : Int32} (hL : L ≤ 200) (ht : ∀ j, j < L → t j ≤ 255) (hi : i ≤ L) (hM : RM t L i M) (hD : patE D M) (hn : pNm D < 6) : ∃ M', lc_val (d + 3) 126 0 [.ref 43, .int wh] [] lc_SH M = some (none, lc_SH, M') ∧ frT M' M ∧ resM t L (maP t L D i) M' := by
  have h8 : M 43 8 = nI (pNm D) := hD.2.2.1
  obtain ⟨M1, w1, f1, f2, f3⟩ := v_tiM (d := d) (lo := 0) (H := 3) (x2 := 2) hL ht hi (by decide) (by decide) hM
  have h81 : M1 43 8 = nI (pNm D) := by rw [f2.2 8 (by decide)]; exact h8
  have run : lc_val (d + 3) 126 0 [.ref 43, .int wh] [] lc_SH M = some (none, lc_SH, lc_up (lc_up M1 46 (6 + pNm D) w1) 43 8 (nI (pNm D + 1))) := by
    rw [sg_126_0_0, h8, if_neg (show ¬ (6 : Int32) ≤ nI (pNm D) from nI_ge (b := 6) hn (by decide)), v_w1 hM.2.1, lc_bk1, sg_126_0_20, if_neg (by decide), h8, show (6 : Int32) + nI (pNm D) = nI (6 + pNm D) from nI_add 6 _, show (.int 0 : Value) = .int (nI 0) from rfl, f1]
    show lc_val (d + 3) 126 40 [.ref 43, .int wh] [.int w1, .int (nI (6 + pNm D)), .ref 46] lc_SH M1 = _
    rw [sg_126_0_40, if_pos (nI_in (by omega) (by decide)), nI_clamp (by omega), h81, nI_1]
  refine ⟨_, run, frT_trans (frT_43 (by decide)) (frT_trans (frT_46 (by omega)) (frT_N f2)), ?_⟩
  unfold maP
  cases h1 : readN t L 0 3 i with
  | inl e =>
    rw [h1] at f3
    exact fl_up (fl_up f3 (Or.inl (by decide))) (Or.inr (by decide))
  | inr r =>
    obtain ⟨v, j, s⟩ := r
    rw [h1] at f3
    obtain ⟨rfl, f4, _⟩ := f3
    refine ⟨RM_up (RM_up f4 (by omega)) (by omega), ?_⟩
    have hD1 := patE_N hD f2
    obtain ⟨q1, q2, q3, q4, q5, q6⟩ := hD1
    have key : ∀ k, k ≠ 8 → lc_up (lc_up M1 46 (6 + pNm D) (nI v)) 43 8 (nI (pNm D + 1)) 43 k = M1 43 k := fun k hk => by rw [up_at, if_pos rfl, if_neg hk, up_ne (by decide)]
    unfold patE
    rw [up_ne (c := 47) (by decide), up_ne (c := 48) (by decide), up_ne (c := 49) (by decide), up_ne (c := 50) (by decide), up_ne (c := 47) (by decide), up_ne (c := 48) (by decide), up_ne (c := 49) (by decide), up_ne (c := 50) (by decide)]
    refine ⟨(key 6 (by decide)).trans q1, (key 7 (by decide)).trans q2, ?_, (key 9 (by decide)).trans q4, fun m hm => ?_, q6⟩
    · show lc_up (lc_up M1 46 (6 + pNm D) (nI v)) 43 8 (nI (pNm D + 1)) 43 8 = nI (pNm D + 1)
      rw [up_at, if_pos rfl, if_pos rfl]
    · show lc_up (lc_up M1 46 (6 + pNm D) (nI v)) 43 8 (nI (pNm D + 1)) 46 (6 + m) = nI (if m = pNm D then v else pEar D m)
      have hm' : m < pNm D + 1 := hm
      rw [up_ne (by decide), up_at, if_pos rfl]
      by_cases e : m = pNm D
      · rw [if_pos (by omega), if_pos e]
      · rw [if_neg (by omega), if_neg e]; exact q5 m (by omega)
/-- behind a fault nothing but the draft is written -/
def badM (M' M : lc_M) : Prop := frT M' M ∧ M' 43 19 = M 43 19 ∧ M' 43 20 = M 43 20
theorem badM_up {M' M : lc_M} {c k : Nat} {v : Int32} (h : badM M' (lc_up M c k v)) (g : frT (lc_up M c k v) M) (hc : c ≠ 43) : badM M' M := ⟨frT_trans h.1 g, by rw [h.2.1, up_ne (fun z => hc z.symm)], by rw [h.2.2, up_ne (fun z => hc z.symm)]⟩
theorem ft_up {c k : Nat} {v : Int32} {M : lc_M} (h : ftM M) (hc : c ≠ 43) : ftM (lc_up M c k v) := by
  obtain ⟨f, h1, h2, h3⟩ := h
  exact ⟨f, h1, h2, by rw [up_ne (fun z => hc z.symm)]; exact h3⟩
theorem bad_fl {e : aErr} {M' M : lc_M} (h : badM M' M) (g : flM e M) : flM e M' := ⟨h.2.1.trans g.1, h.2.2.trans g.2⟩
theorem v_b158 {d nx : Nat} {x1 x3 x4 s0 : Int32} {M : lc_M} (hn : nx < 8) : ∃ M', lc_val (d + 1) 127 158 [.ref 43, .int x1, .int (nI (8 + nx)), .int x3, .int x4] [.int s0] lc_SH M = some (none, lc_SH, M') ∧ badM M' M := by
  rw [sg_127_0_158]
  by_cases q : x4 = 9
  · rw [if_neg (fun z => z q), sg_127_0_171, if_pos (nI_in (by omega) (by decide)), nI_clamp (by omega)]
    exact ⟨_, rfl, frT_trans (frT_43 (by decide)) (frT_50 (by omega)), rfl, rfl⟩
  · rw [if_pos q, sg_127_0_175, if_pos (nI_in (by omega) (by decide)), nI_clamp (by omega)]
    exact ⟨_, rfl, frT_trans (frT_43 (by decide)) (frT_50 (by omega)), rfl, rfl⟩
theorem v_b119 {d nx : Nat} {x1 x3 s0 : Int32} {M : lc_M} (hn : nx < 8) (h : ftM M) : ∃ M', lc_val (d + 1) 127 119 [.ref 43, .int x1, .int (nI (8 + nx)), .int x3, .null] [.int s0] lc_SH M = some (none, lc_SH, M') ∧ badM M' M := by
  rw [sg_127_0_119, if_pos (ftM_pos h), sg_127_0_145, v_w1f (ftM_ne h), lc_bk1]
  exact v_b158 hn
theorem v_b114 {d nx : Nat} {x1 x3 s0 : Int32} {M : lc_M} (hn : nx < 8) (h : ftM M) : ∃ M', lc_val (d + 2) 127 114 [.ref 43, .int x1, .int (nI (8 + nx)), .int x3, .null] [.int s0, .int (nI (8 + nx)), .ref 49] lc_SH M = some (none, lc_SH, M') ∧ badM M' M := by
  have hf := ft_up (c := 49) (k := 8 + nx) (v := s0) h (by decide)
  obtain ⟨M', e1, e2⟩ := v_b119 (d := d + 1) (x1 := x1) (x3 := x3) (s0 := 0) (M := lc_up M 49 (8 + nx) s0) hn hf
  refine ⟨M', ?_, badM_up e2 (frT_49 (by omega)) (by decide)⟩
  rw [sg_127_0_114, if_pos (nI_in (by omega) (by decide)), nI_clamp (by omega), v_tn0 hf, lc_bk1]
  exact e1
theorem v_b101 {d nx : Nat} {x1 s0 : Int32} {M : lc_M} (hn : nx < 8) (h : ftM M) : ∃ M', lc_val (d + 3) 127 101 [.ref 43, .int x1, .int (nI (8 + nx)), .null, .null] [.int s0] lc_SH M = some (none, lc_SH, M') ∧ badM M' M := by
  rw [sg_127_0_101, v_ti0 h]
  exact v_b114 (d := d + 1) (s0 := 0) hn h
theorem v_b64 {d nx : Nat} {x1 s0 : Int32} {M : lc_M} (hn : nx < 8) (h : ftM M) : ∃ M', lc_val (d + 3) 127 64 [.ref 43, .int x1, .int (nI (8 + nx)), .null, .null] [.int s0, .int (nI (8 + nx)), .ref 48] lc_SH M = some (none, lc_SH, M') ∧ badM M' M := by
  have hf := ft_up (c := 48) (k := 8 + nx) (v := s0) h (by decide)
  obtain ⟨M', e1, e2⟩ := v_b101 (d := d) (x1 := x1) (s0 := 0) (M := lc_up M 48 (8 + nx) s0) hn hf
  refine ⟨M', ?_, badM_up e2 (frT_48 (by omega)) (by decide)⟩
  rw [sg_127_0_64, if_pos (nI_in (by omega) (by decide)), nI_clamp (by omega), if_pos (ftM_pos h), sg_127_0_88, v_w1f (ftM_ne hf), lc_bk1]
  exact e1
theorem v_b47 {d nx : Nat} {x1 s0 : Int32} {M : lc_M} (hn : nx < 8) (h : ftM M) : ∃ M', lc_val (d + 3) 127 47 [.ref 43, .int x1, .int (nI (8 + nx)), .null, .null] [.int s0, .int (nI (8 + nx)), .ref 47] lc_SH M = some (none, lc_SH, M') ∧ badM M' M := by
  have hf := ft_up (c := 47) (k := 8 + nx) (v := s0) h (by decide)
  obtain ⟨M', e1, e2⟩ := v_b64 (d := d) (x1 := x1) (s0 := 0) (M := lc_up M 47 (8 + nx) s0) hn hf
  refine ⟨M', ?_, badM_up e2 (frT_47 (by omega)) (by decide)⟩
  rw [sg_127_0_47, if_pos (nI_in (by omega) (by decide)), nI_clamp (by omega), v_ti0 hf]
  exact e1
theorem v_crM {d L i : Nat} {t : Nat → Nat} {D : aPat} {M : lc_M} {wh : Int32} (hL : L ≤ 200) (ht : ∀ j, j < L → t j ≤ 255) (hi : i ≤ L) (hM : RM t L i M) (hD : patE D M) (hm : pNm D ≤ 6) (hn : pNx D < 8) : ∃ M', lc_val (d + 3) 127 0 [.ref 43, .int wh, .null, .null, .null] [] lc_SH M = some (none, lc_SH, M') ∧ frT M' M ∧ resM t L (crP t L D i) M' := by
  have h8 : M 43 8 = nI (pNm D) := hD.2.2.1
  have h9 : M 43 9 = nI (pNx D) := hD.2.2.2.1
  obtain ⟨M1, w1, f1, f2, f3⟩ := v_tiM (d := d) (lo := 0) (H := pNm D) (x2 := nI (pNm D) - 1) hL ht hi (by decide) (hi_I (by omega)) hM
  have pre : lc_val (d + 3) 127 0 [.ref 43, .int wh, .null, .null, .null] [] lc_SH M = lc_val (d + 3) 127 47 [.ref 43, .int wh, .int (nI (8 + pNx D)), .null, .null] [.int w1, .int (nI (8 + pNx D)), .ref 47] lc_SH M1 := by
    rw [sg_127_0_0, h9, if_neg (show ¬ (8 : Int32) ≤ nI (pNx D) from nI_ge (b := 8) hn (by decide)), v_w1 hM.2.1, lc_bk1, sg_127_0_20, if_neg (by decide), h9, h8, show (8 : Int32) + nI (pNx D) = nI (8 + pNx D) from nI_add 8 _, show (.int 0 : Value) = .int (nI 0) from rfl, f1]
    rfl
  rw [pre]
  unfold crP
  cases h1 : readN t L 0 (pNm D) i with
  | inl e =>
    rw [h1] at f3
    obtain ⟨M', e1, e2⟩ := v_b47 (d := d) (x1 := wh) (s0 := w1) (M := M1) hn (flM_ft f3 (readN_err hi h1))
    exact ⟨M', e1, frT_trans e2.1 (frT_N f2), bad_fl e2 f3⟩
  | inr r =>
    obtain ⟨a, j, s⟩ := r
    rw [h1] at f3
    obtain ⟨rfl, f4, _⟩ := f3
    have g1 := readN_ok hi h1
    obtain ⟨M2, w2, k1, k2, k3⟩ := v_tiM (d := d) (lo := 0) (H := pNm D) (x2 := nI (pNm D) - 1) (M := lc_up M1 47 (8 + pNx D) (nI a)) hL ht (show j ≤ L by omega) (by decide) (hi_I (by omega)) (RM_up f4 (by omega))
    have fr2 : frT M2 M := frT_trans (frT_N k2) (frT_trans (frT_47 (by omega)) (frT_N f2))
    have h81 : lc_up M1 47 (8 + pNx D) (nI a) 43 8 = nI (pNm D) := by rw [up_ne (by decide), f2.2 8 (by decide)]; exact h8
    have pre2 : lc_val (d + 3) 127 47 [.ref 43, .int wh, .int (nI (8 + pNx D)), .null, .null] [.int (nI a), .int (nI (8 + pNx D)), .ref 47] lc_SH M1 = lc_val (d + 3) 127 64 [.ref 43, .int wh, .int (nI (8 + pNx D)), .null, .null] [.int w2, .int (nI (8 + pNx D)), .ref 48] lc_SH M2 := by
      rw [sg_127_0_47, if_pos (nI_in (by omega) (by decide)), nI_clamp (by omega), f2.2 8 (by decide), h8, show (.int 0 : Value) = .int (nI 0) from rfl, k1]
      rfl
    rw [pre2]
    show ∃ M', _ ∧ frT M' M ∧ resM t L (match readN t L 0 (pNm D) j with
      | .inl e => .inl e
      | .inr (b, j2, s) => if a = b then .inl (4, s) else crP2 t L D a b j2) M'
    cases h2 : readN t L 0 (pNm D) j with
    | inl e =>
      rw [h2] at k3
      obtain ⟨M', e1, e2⟩ := v_b64 (d := d) (x1 := wh) (s0 := w2) (M := M2) hn (flM_ft k3 (readN_err (by omega) h2))
      exact ⟨M', e1, frT_trans e2.1 fr2, bad_fl e2 k3⟩
    | inr r =>
      obtain ⟨b, j2, s2⟩ := r
      rw [h2] at k3
      obtain ⟨rfl, k4, k5⟩ := k3
      have g2 := readN_ok (by omega) h2
      show ∃ M', _ ∧ frT M' M ∧ resM t L (if a = b then .inl (4, s2) else crP2 t L D a b j2) M'
      have u47 : lc_up M2 48 (8 + pNx D) (nI b) 47 (8 + pNx D) = nI a := by rw [up_ne (by decide), k2.1 47 (by decide), up_at, if_pos rfl, if_pos rfl]
      have u48 : lc_up M2 48 (8 + pNx D) (nI b) 48 (8 + pNx D) = nI b := by rw [up_at, if_pos rfl, if_pos rfl]
      have rm2 : RM t L j2 (lc_up M2 48 (8 + pNx D) (nI b)) := RM_up k4 (by omega)
      have u18 : lc_up M2 48 (8 + pNx D) (nI b) 43 18 = nI s2 := by rw [up_ne (by decide)]; exact k5
      have frU : frT (lc_up M2 48 (8 + pNx D) (nI b)) M := frT_trans (frT_48 (by omega)) fr2
      have pre3 : lc_val (d + 3) 127 64 [.ref 43, .int wh, .int (nI (8 + pNx D)), .null, .null] [.int (nI b), .int (nI (8 + pNx D)), .ref 48] lc_SH M2 = (if nI a = nI b then lc_val (d + 3) 127 92 [.ref 43, .int wh, .int (nI (8 + pNx D)), .null, .null] [.ref 43] lc_SH (lc_up M2 48 (8 + pNx D) (nI b)) else lc_val (d + 3) 127 88 [.ref 43, .int wh, .int (nI (8 + pNx D)), .null, .null] [.ref 43] lc_SH (lc_up M2 48 (8 + pNx D) (nI b))) := by
        rw [sg_127_0_64, if_pos (nI_in (by omega) (by decide)), nI_clamp (by omega), k4.2.1, if_neg (by decide), sg_127_0_73, if_pos (nI_in (by omega) (by decide)), if_pos (nI_in (by omega) (by decide)), nI_clamp (by omega), u47, u48]
      rw [pre3]
      by_cases q : a = b
      · have hok : okE L (4, s2) := okE_of (by decide) (by decide) (by omega)
        have flq : flM (4, s2) (lc_up (lc_up (lc_up M2 48 (8 + pNx D) (nI b)) 43 19 4) 43 20 (nI s2)) := ⟨rfl, rfl⟩
        obtain ⟨M', e1, e2⟩ := v_b101 (d := d) (x1 := wh) (s0 := 0) (M := lc_up (lc_up (lc_up M2 48 (8 + pNx D) (nI b)) 43 19 4) 43 20 (nI s2)) hn (flM_ft flq hok)
        rw [if_pos q, if_pos (by rw [q])]
        refine ⟨M', ?_, frT_trans e2.1 (frT_trans (frT_43 (by decide)) (frT_trans (frT_43 (by decide)) frU)), bad_fl e2 flq⟩
        rw [sg_127_0_92, u18, v_w0 rm2.2.1 (by decide), lc_bk1]
        exact e1
      · have qI : ¬ nI a = nI b := fun z => q ((nI_eq (by omega) (by omega)).mp z)
        rw [if_neg q, if_neg qI, sg_127_0_88, v_w1 rm2.2.1, lc_bk1, sg_127_0_101]
        unfold crP2
        obtain ⟨M3, w3, p1, p2, p3⟩ := v_tiM (d := d) (lo := 1) (H := 21) (x2 := 20) (M := lc_up M2 48 (8 + pNx D) (nI b)) hL ht (show j2 ≤ L by omega) (by decide) (by decide) rm2
        have fr3 : frT M3 M := frT_trans (frT_N p2) frU
        have pre4 : lc_back 59 (fun st' Sh' M' => lc_val (d + 3) 127 114 [.ref 43, .int wh, .int (nI (8 + pNx D)), .int 1, .null] st' Sh' M') [.int (nI (8 + pNx D)), .ref 49] (lc_val (d + 2) 124 0 [.ref 43, .int 1, .int 20, .null, .null] [] lc_SH (lc_up M2 48 (8 + pNx D) (nI b))) = lc_val (d + 3) 127 114 [.ref 43, .int wh, .int (nI (8 + pNx D)), .int 1, .null] [.int w3, .int (nI (8 + pNx D)), .ref 49] lc_SH M3 := by
          rw [show lc_val (d + 2) 124 0 [.ref 43, .int 1, .int 20, .null, .null] [] lc_SH (lc_up M2 48 (8 + pNx D) (nI b)) = _ from p1]
          rfl
        rw [pre4]
        cases h3 : readN t L 1 21 j2 with
        | inl e =>
          rw [h3] at p3
          obtain ⟨M', e1, e2⟩ := v_b114 (d := d + 1) (x1 := wh) (x3 := 1) (s0 := w3) (M := M3) hn (flM_ft p3 (readN_err (by omega) h3))
          exact ⟨M', e1, frT_trans e2.1 fr3, bad_fl e2 p3⟩
        | inr r =>
          obtain ⟨m, j3, s3⟩ := r
          rw [h3] at p3
          obtain ⟨rfl, p4, _⟩ := p3
          have g3 := readN_ok (by omega) h3
          obtain ⟨M4, w4, y1, y2, y3⟩ := v_tnM (d := d + 1) (M := lc_up M3 49 (8 + pNx D) (nI m)) hL ht (show j3 ≤ L by omega) (RM_up p4 (by omega))
          have fr4 : frT M4 M := frT_trans (frT_N y2) (frT_trans (frT_49 (by omega)) fr3)
          show ∃ M', _ ∧ frT M' M ∧ resM t L (match readP t L (pNx D) j3 with
            | .inl e => .inl e
            | .inr (q, j2, _) => .inr (addX D a b m (if q = 9 then none else some q), j2)) M'
          rw [sg_127_0_114, if_pos (nI_in (by omega) (by decide)), nI_clamp (by omega), y1, lc_bk1]
          unfold readP
          cases h4 : numP t L j3 with
          | inl e =>
            rw [h4] at y3
            obtain ⟨M', e1, e2⟩ := v_b119 (d := d + 2) (x1 := wh) (x3 := 1) (s0 := w4) (M := M4) hn (flM_ft y3 (numP_err (by omega) h4))
            exact ⟨M', e1, frT_trans e2.1 fr4, bad_fl e2 y3⟩
          | inr r =>
            obtain ⟨z, j4, s4⟩ := r
            rw [h4] at y3
            obtain ⟨rfl, y4, y5⟩ := y3
            have hzl := numP_le h4
            have g4 := numP_ok (by omega) h4
            have h94 : M4 43 9 = nI (pNx D) := by rw [y2.2 9 (by decide), up_ne (by decide), p2.2 9 (by decide), up_ne (by decide), k2.2 9 (by decide), up_ne (by decide), f2.2 9 (by decide)]; exact h9
            show ∃ M', _ ∧ frT M' M ∧ resM t L (match (if z = 9 ∨ z < pNx D then (.inr (z, j4, s4) : aErr ⊕ (Nat × Nat × Nat)) else .inl (2, s4)) with
              | .inl e => .inl e
              | .inr (q, j2, _) => .inr (addX D a b m (if q = 9 then none else some q), j2)) M'
            have pre5 : lc_val (d + 3) 127 119 [.ref 43, .int wh, .int (nI (8 + pNx D)), .int 1, .null] [.int (nI z)] lc_SH M4 = (if nI z = 9 then lc_val (d + 3) 127 145 [.ref 43, .int wh, .int (nI (8 + pNx D)), .int 1, .int (nI z)] [.ref 43] lc_SH M4 else (if nI (pNx D) ≤ nI z then lc_back 59 (fun st' Sh' M' => lc_val (d + 3) 127 158 [.ref 43, .int wh, .int (nI (8 + pNx D)), .int 1, .int (nI z)] st' Sh' M') [] (lc_val (d + 2) 122 0 [.ref 43, .int 0, .int 2, .int (M4 43 18)] [] lc_SH M4) else lc_val (d + 3) 127 145 [.ref 43, .int wh, .int (nI (8 + pNx D)), .int 1, .int (nI z)] [.ref 43] lc_SH M4)) := by
              rw [sg_127_0_119, y4.2.1, if_neg (by decide), sg_127_0_129, h94, lc_it_val, lc_it_val]
            have e9 : nI z = 9 ↔ z = 9 := nI_eq (b := 9) (by omega) (by decide)
            rw [pre5]
            by_cases hz : z = 9 ∨ z < pNx D
            · have to145 : (if nI z = 9 then lc_val (d + 3) 127 145 [.ref 43, .int wh, .int (nI (8 + pNx D)), .int 1, .int (nI z)] [.ref 43] lc_SH M4 else (if nI (pNx D) ≤ nI z then lc_back 59 (fun st' Sh' M' => lc_val (d + 3) 127 158 [.ref 43, .int wh, .int (nI (8 + pNx D)), .int 1, .int (nI z)] st' Sh' M') [] (lc_val (d + 2) 122 0 [.ref 43, .int 0, .int 2, .int (M4 43 18)] [] lc_SH M4) else lc_val (d + 3) 127 145 [.ref 43, .int wh, .int (nI (8 + pNx D)), .int 1, .int (nI z)] [.ref 43] lc_SH M4)) = lc_val (d + 3) 127 145 [.ref 43, .int wh, .int (nI (8 + pNx D)), .int 1, .int (nI z)] [.ref 43] lc_SH M4 := by
                by_cases u : z = 9
                · rw [if_pos (e9.mpr u)]
                · rw [if_neg (fun y => u (e9.mp y)), if_neg (nI_ge (show z < pNx D by omega) (by omega))]
              rw [to145, if_pos hz, sg_127_0_145, v_w1 y4.2.1, lc_bk1, sg_127_0_158]
              refine ⟨lc_up (lc_up M4 50 (8 + pNx D) (beI (if z = 9 then none else some z))) 43 9 (nI (pNx D + 1)), ?_, frT_trans (frT_43 (by decide)) (frT_trans (frT_50 (by omega)) fr4), RM_up (RM_up y4 (by omega)) (by omega), ?_⟩
              · by_cases u : z = 9
                · rw [if_neg (fun y => y (e9.mpr u)), sg_127_0_171, if_pos (nI_in (by omega) (by decide)), nI_clamp (by omega), h94, nI_1, if_pos u]
                  rfl
                · rw [if_pos (fun y => u (e9.mp y)), sg_127_0_175, if_pos (nI_in (by omega) (by decide)), nI_clamp (by omega), h94, nI_1, if_neg u]
                  rfl
              · obtain ⟨q1, q2, q3, q4, q5, q6⟩ := hD
                have k43 : ∀ k, (k = 6 ∨ k = 7 ∨ k = 8) → lc_up (lc_up M4 50 (8 + pNx D) (beI (if z = 9 then none else some z))) 43 9 (nI (pNx D + 1)) 43 k = M 43 k := fun k hk => by rw [up_at, if_pos rfl, if_neg (by omega), up_ne (by decide), y2.2 k (by omega), up_ne (by decide), p2.2 k (by omega), up_ne (by decide), k2.2 k (by omega), up_ne (by decide), f2.2 k (by omega)]
                have c46 : lc_up (lc_up M4 50 (8 + pNx D) (beI (if z = 9 then none else some z))) 43 9 (nI (pNx D + 1)) 46 = M 46 := by rw [up_ne (by decide), up_ne (by decide), y2.1 46 (by decide), up_ne (by decide), p2.1 46 (by decide), up_ne (by decide), k2.1 46 (by decide), up_ne (by decide), f2.1 46 (by decide)]
                have c47 : ∀ x, lc_up (lc_up M4 50 (8 + pNx D) (beI (if z = 9 then none else some z))) 43 9 (nI (pNx D + 1)) 47 (8 + x) = if x = pNx D then nI a else M 47 (8 + x) := fun x => by
                  rw [up_ne (by decide), up_ne (by decide), y2.1 47 (by decide), up_ne (by decide), p2.1 47 (by decide), up_ne (by decide), k2.1 47 (by decide), up_at, if_pos rfl, f2.1 47 (by decide)]
                  by_cases e : x = pNx D
                  · rw [if_pos (by omega), if_pos e]
                  · rw [if_neg (by omega), if_neg e]
                have c48 : ∀ x, lc_up (lc_up M4 50 (8 + pNx D) (beI (if z = 9 then none else some z))) 43 9 (nI (pNx D + 1)) 48 (8 + x) = if x = pNx D then nI b else M 48 (8 + x) := fun x => by
                  rw [up_ne (by decide), up_ne (by decide), y2.1 48 (by decide), up_ne (by decide), p2.1 48 (by decide), up_at, if_pos rfl, k2.1 48 (by decide), up_ne (by decide), f2.1 48 (by decide)]
                  by_cases e : x = pNx D
                  · rw [if_pos (by omega), if_pos e]
                  · rw [if_neg (by omega), if_neg e]
                have c49 : ∀ x, lc_up (lc_up M4 50 (8 + pNx D) (beI (if z = 9 then none else some z))) 43 9 (nI (pNx D + 1)) 49 (8 + x) = if x = pNx D then nI m else M 49 (8 + x) := fun x => by
                  rw [up_ne (by decide), up_ne (by decide), y2.1 49 (by decide), up_at, if_pos rfl, p2.1 49 (by decide), up_ne (by decide), k2.1 49 (by decide), up_ne (by decide), f2.1 49 (by decide)]
                  by_cases e : x = pNx D
                  · rw [if_pos (by omega), if_pos e]
                  · rw [if_neg (by omega), if_neg e]
                have c50 : ∀ x, lc_up (lc_up M4 50 (8 + pNx D) (beI (if z = 9 then none else some z))) 43 9 (nI (pNx D + 1)) 50 (8 + x) = if x = pNx D then beI (if z = 9 then none else some z) else M 50 (8 + x) := fun x => by
                  rw [up_ne (by decide), up_at, if_pos rfl, y2.1 50 (by decide), up_ne (by decide), p2.1 50 (by decide), up_ne (by decide), k2.1 50 (by decide), up_ne (by decide), f2.1 50 (by decide)]
                  by_cases e : x = pNx D
                  · rw [if_pos (by omega), if_pos e]
                  · rw [if_neg (by omega), if_neg e]
                refine ⟨(k43 6 (by decide)).trans q1, (k43 7 (by decide)).trans q2, (k43 8 (by decide)).trans q3, ?_, fun mm hmm => by rw [c46]; exact q5 mm hmm, fun x hx => ?_⟩
                · show lc_up (lc_up M4 50 (8 + pNx D) (beI (if z = 9 then none else some z))) 43 9 (nI (pNx D + 1)) 43 9 = nI (pNx D + 1)
                  rw [up_at, if_pos rfl, if_pos rfl]
                · have hx' : x < pNx D + 1 := hx
                  show lc_up (lc_up M4 50 (8 + pNx D) (beI (if z = 9 then none else some z))) 43 9 (nI (pNx D + 1)) 47 (8 + x) = nI (if x = pNx D then a else pA D x) ∧ lc_up (lc_up M4 50 (8 + pNx D) (beI (if z = 9 then none else some z))) 43 9 (nI (pNx D + 1)) 48 (8 + x) = nI (if x = pNx D then b else pB D x) ∧ lc_up (lc_up M4 50 (8 + pNx D) (beI (if z = 9 then none else some z))) 43 9 (nI (pNx D + 1)) 49 (8 + x) = nI (if x = pNx D then m else pMi D x) ∧ lc_up (lc_up M4 50 (8 + pNx D) (beI (if z = 9 then none else some z))) 43 9 (nI (pNx D + 1)) 50 (8 + x) = beI (if x = pNx D then (if z = 9 then none else some z) else pBe D x)
                  rw [c47, c48, c49, c50]
                  by_cases e : x = pNx D
                  · rw [if_pos e, if_pos e, if_pos e, if_pos e, if_pos e, if_pos e, if_pos e, if_pos e]; exact ⟨rfl, rfl, rfl, rfl⟩
                  · rw [if_neg e, if_neg e, if_neg e, if_neg e, if_neg e, if_neg e, if_neg e, if_neg e]; exact q6 x (by omega)
            · have u : ¬ z = 9 := fun y => hz (Or.inl y)
              have flq : flM (2, s4) (lc_up (lc_up M4 43 19 2) 43 20 (nI s4)) := ⟨rfl, rfl⟩
              obtain ⟨M', e1, e2⟩ := v_b158 (d := d + 2) (x1 := wh) (x3 := 1) (x4 := nI z) (s0 := 0) (M := lc_up (lc_up M4 43 19 2) 43 20 (nI s4)) hn
              rw [if_neg hz]
              refine ⟨M', ?_, frT_trans e2.1 (frT_trans (frT_43 (by decide)) (frT_trans (frT_43 (by decide)) fr4)), bad_fl e2 flq⟩
              rw [if_neg (fun y => u (e9.mp y)), if_pos (nI_le (by omega) (by omega)), y5, v_w0 y4.2.1 (by decide), lc_bk1]
              exact e1
