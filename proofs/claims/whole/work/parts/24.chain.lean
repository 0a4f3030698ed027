/-! chain -/
def rs (p : aPat) : Nat → Option Nat → Nat
  | 0, _ => 0
  | _ + 1, none => 0
  | f + 1, some x => pMi p x + rs p f (pBe p x)
theorem rs_fuel {p : aPat} (hv : vPat p) : ∀ (f g x : Nat), x < pNx p → x < f → x < g → rs p f (some x) = rs p g (some x)
  | 0, g, x, _, h, _ => by omega
  | f + 1, 0, x, _, _, h => by omega
  | f + 1, g + 1, x, hx, h1, h2 => by
    rw [rs, rs]
    cases hb : pBe p x with
    | none => cases f <;> cases g <;> rfl
    | some q =>
      have hq := hv.2.2.2.2.2.2.2 x q hx hb
      rw [rs_fuel hv f g q (by omega) (by omega) (by omega)]
theorem rs_le {p : aPat} (hv : vPat p) : ∀ (f : Nat) (o : Option Nat), (∀ x, o = some x → x < pNx p) → rs p f o ≤ 20 * f
  | 0, _, _ => Nat.le_refl _
  | f + 1, none, _ => Nat.zero_le _
  | f + 1, some x, h => by
    have hx := h x rfl
    have h1 := (hv.2.2.2.2.2.2.1 x hx).2.2.2.2
    have h2 := rs_le hv f (pBe p x) (fun q hq => by have := hv.2.2.2.2.2.2.2 x q hx hq; omega)
    rw [rs]; omega
theorem v_rowC {d x0 : Nat} {p : aPat} {M : lc_M} (hp : cPat p (M 9) (M 10) (M 11) (M 12) (M 13) (M 14)) (hv : vPat p) :
    ∀ (k i acc : Nat) (o : Option Nat), i + k = 8 → (∀ y, o = some y → y < k ∧ y < pNx p) → acc ≤ 20 * i → lc_val d 36 7 [.ref 9, .int (nI x0), .int (nI acc), .int (beI o), .int (nI i)] [] lc_SH M = some (some (.int (nI (acc + rs p k o))), lc_SH, M)
  | 0, i, acc, o, h, ho, ha => by
    rw [sg_36_0_7, if_pos (show (8 : Int32) ≤ nI i from nI_le (a := 8) (by omega) (by omega))]; rfl
  | k + 1, i, acc, none, h, ho, ha => by
    rw [sg_36_0_7, if_neg (show ¬ (8 : Int32) ≤ nI i from nI_ge (b := 8) (by omega) (by decide)), lc_it_val, sg_36_0_14, if_pos (show beI none = -1 from rfl)]; rfl
  | k + 1, i, acc, some y, h, ho, ha => by
    obtain ⟨hy, hyx⟩ := ho y rfl
    have h8 := hv.2.2.2.1
    have hc := hp.2.2.2.2.2 y hyx
    have hmi := (hv.2.2.2.2.2.2.1 y hyx).2.2.2.2
    have ne : ¬ nI y = -1 := fun q => by
      have := congrArg Int32.toInt q
      rw [nI_toInt (by omega)] at this
      rw [show (-1 : Int32).toInt = -1 by decide] at this
      omega
    rw [sg_36_0_7, if_neg (show ¬ (8 : Int32) ≤ nI i from nI_ge (b := 8) (by omega) (by decide)), lc_it_val, sg_36_0_14, show beI (some y) = nI y from rfl, if_neg ne, lc_it_val, sg_36_0_19, if_pos (nI_in (by omega) (by decide)), nI_clamp (by omega), hc.2.2.1, sg_36_0_28, if_pos (nI_in (by omega) (by decide)), nI_clamp (by omega), hc.2.2.2, nI_add, nI_1]
    rw [v_rowC hp hv k (i + 1) (acc + pMi p y) (pBe p y) (by omega) (fun q hq => by have := hv.2.2.2.2.2.2.2 y q hyx hq; omega) (by omega)]
    rw [show acc + pMi p y + rs p k (pBe p y) = acc + rs p (k + 1) (some y) by rw [rs]; omega]
theorem v_rowC0 {d x : Nat} {p : aPat} {M : lc_M} (hp : cPat p (M 9) (M 10) (M 11) (M 12) (M 13) (M 14)) (hv : vPat p) (hx : x < pNx p) : lc_val d 36 0 [.ref 9, .int (nI x), .null, .null, .null] [] lc_SH M = some (some (.int (nI (rs p 8 (some x)))), lc_SH, M) := by
  have h8 := hv.2.2.2.1
  rw [sg_36_0_0]
  have := v_rowC (d := d) (x0 := x) hp hv 8 0 0 (some x) (by omega) (fun y hy => by cases hy; omega) (by omega)
  rw [Nat.zero_add] at this
  exact this
theorem v_rowM {d : Nat} {p : aPat} {M : lc_M} {x1 x2 x3 x4 : Int32} (hp : cPat p (fun k => M 43 (k + 2)) (M 46) (M 47) (M 48) (M 49) (M 50)) (hv : vPat p) :
    ∀ (k acc : Nat) (o : Option Nat), (∀ y, o = some y → y < k ∧ y < pNx p) → acc + 20 * k ≤ 1000 → lc_val (d + 1) 166 36 [.ref 43, .int x1, .int x2, .int x3, .int x4, .int (nI acc), .int (beI o)] [] lc_SH M = lc_val (d + 1) 166 65 [.ref 43, .int x1, .int x2, .int x3, .int x4, .int (nI (acc + rs p k o)), .int (-1)] [] lc_SH M
  | 0, acc, none, ho, ha => by rw [sg_166_0_36, show beI none = -1 from rfl, if_pos (by decide)]; rfl
  | 0, acc, some y, ho, ha => by have := (ho y rfl).1; omega
  | k + 1, acc, none, ho, ha => by rw [sg_166_0_36, show beI none = -1 from rfl, if_pos (by decide)]; rfl
  | k + 1, acc, some y, ho, ha => by
    obtain ⟨hy, hyx⟩ := ho y rfl
    have h8 := hv.2.2.2.1
    have hc := hp.2.2.2.2.2 y hyx
    have hmi := (hv.2.2.2.2.2.2.1 y hyx).2.2.2.2
    rw [sg_166_0_36, show beI (some y) = nI y from rfl, if_neg (nI_pos (by omega)), sg_166_0_41, if_pos (nI_in (by omega) (by decide)), nI_clamp (by omega), hc.2.2.1, sg_166_0_53, if_pos (nI_in (by omega) (by decide)), nI_clamp (by omega), hc.2.2.2, nI_add]
    rw [v_rowM hp hv k (acc + pMi p y) (pBe p y) (fun q hq => by have := hv.2.2.2.2.2.2.2 y q hyx hq; omega) (by omega)]
    rw [show acc + pMi p y + rs p k (pBe p y) = acc + rs p (k + 1) (some y) by rw [rs]; omega]
/-- longest, last: by the crossings below -/
def chI (p : aPat) : Nat → Int32 × Int32
  | 0 => (-1, -1)
  | i + 1 => if nI (rs p 8 (some i)) ≤ (chI p i).1 then chI p i else (nI (rs p 8 (some i)), nI i)
theorem v_chC {d : Nat} {a : Int32} {p : aPat} {M : lc_M} (hp : cPat p (M 9) (M 10) (M 11) (M 12) (M 13) (M 14)) (hv : vPat p) :
    ∀ (k i : Nat) (v5 : Value), i + k = pNx p → lc_val (d + 1) 88 19 [.ref 0, .int a, .int (chI p i).1, .int (chI p i).2, .int (nI i), v5] [] lc_SH M = (if ¬ a = 0 then some (some (.int (chI p (pNx p)).2), lc_SH, M) else some (some (.int (chI p (pNx p)).1), lc_SH, M))
  | 0, i, v5, h => by
    have h8 := hv.2.2.2.1
    rw [sg_88_0_19, hp.2.2.2.1, if_pos (nI_le (by omega) (by omega)), sg_88_0_60, show i = pNx p by omega]
  | k + 1, i, v5, h => by
    have h8 := hv.2.2.2.1
    have ih := v_chC (d := d) (a := a) hp hv k (i + 1) (.int (nI (rs p 8 (some i)))) (by omega)
    rw [sg_88_0_19, hp.2.2.2.1, if_neg (nI_ge (by omega) (by omega)), sg_88_0_31, v_rowC0 hp hv (by omega), lc_bk1, sg_88_0_40]
    by_cases q : nI (rs p 8 (some i)) ≤ (chI p i).1
    · rw [if_pos q, lc_it_val, nI_1]
      rw [show chI p (i + 1) = chI p i by rw [chI, if_pos q]] at ih
      exact ih
    · rw [if_neg q, nI_1]
      rw [show chI p (i + 1) = (nI (rs p 8 (some i)), nI i) by rw [chI, if_neg q]] at ih
      exact ih
theorem v_chM {d : Nat} {a : Int32} {p : aPat} {M : lc_M} (hp : cPat p (fun k => M 43 (k + 2)) (M 46) (M 47) (M 48) (M 49) (M 50)) (hv : vPat p) :
    ∀ (k i : Nat) (v5 v6 : Value), i + k = pNx p → lc_val (d + 1) 166 20 [.ref 43, .int a, .int (chI p i).2, .int (chI p i).1, .int (nI i), v5, v6] [] lc_SH M = (if ¬ a = 0 then some (some (.int (chI p (pNx p)).2), lc_SH, M) else some (some (.int (chI p (pNx p)).1), lc_SH, M))
  | 0, i, v5, v6, h => by
    have h8 := hv.2.2.2.1
    have h5 : M 43 5 = nI (pNx p) := hp.2.2.2.1
    rw [sg_166_0_20, h5, if_pos (nI_le (by omega) (by omega)), sg_166_0_83, show i = pNx p by omega]
  | k + 1, i, v5, v6, h => by
    have h8 := hv.2.2.2.1
    have h5 : M 43 5 = nI (pNx p) := hp.2.2.2.1
    have ih := v_chM (d := d) (a := a) hp hv k (i + 1) (.int (nI (rs p 8 (some i)))) (.int (-1)) (by omega)
    have hr := v_rowM (d := d) (M := M) (x1 := a) (x2 := (chI p i).2) (x3 := (chI p i).1) (x4 := nI i) hp hv 8 0 (some i) (fun y hy => by cases hy; omega) (by omega)
    rw [Nat.zero_add] at hr
    rw [sg_166_0_20, h5, if_neg (nI_ge (by omega) (by omega)), sg_166_0_29, show (.int 0 : Value) = .int (nI 0) from rfl]
    rw [show (nI i) = beI (some i) from rfl] at hr ⊢
    rw [hr, sg_166_0_65]
    rw [show beI (some i) = nI i from rfl]
    by_cases q : nI (rs p 8 (some i)) ≤ (chI p i).1
    · rw [if_pos q, lc_it_val, nI_1]
      rw [show chI p (i + 1) = chI p i by rw [chI, if_pos q]] at ih
      exact ih
    · rw [if_neg q, nI_1]
      rw [show chI p (i + 1) = (nI (rs p 8 (some i)), nI i) by rw [chI, if_neg q]] at ih
      exact ih
theorem op_chain (a : Int32) : opOK 88 166 [.int a] := by
  refine opOK_const (fun n S hn hv => ?_)
  have L1 : (1 : Int64).toInt = 1 := by decide
  by_cases h : vp_in a 2
  · have h' := vp_in_iff.mp h
    refine ⟨if ¬ a = 0 then (chI (sP S) (pNx (sP S))).2 else (chI (sP S) (pNx (sP S))).1, fun M hM => ⟨M, ?_, hM, fun _ _ => rfl⟩, fun M hM => ⟨M, ?_, hM, fun _ _ => rfl⟩⟩
    · show lc_val 8 88 0 [.ref 0, .int a, .null, .null, .null, .null] [] lc_SH M = _
      have hc := v_chC (d := 7) (a := a) hM.1 hv.1 (pNx (sP S)) 0 .null (by omega)
      have go : lc_val 8 88 12 [.ref 0, .int a, .null, .null, .null, .null] [] lc_SH M = some (some (.int (if ¬ a = 0 then (chI (sP S) (pNx (sP S))).2 else (chI (sP S) (pNx (sP S))).1)), lc_SH, M) := by
        rw [sg_88_0_12]
        refine Eq.trans hc ?_
        by_cases q : a = 0
        · rw [if_neg (fun z => z q), if_neg (fun z => z q)]
        · rw [if_pos q, if_pos q]
      rw [sg_88_0_0]
      by_cases q : a = 0
      · rw [if_pos q]; exact go
      · have q1 : a = 1 := Int32.toInt_inj.mp (by
          have : a.toInt ≠ 0 := fun z => q (Int32.toInt_inj.mp z)
          rw [show (1 : Int32).toInt = 1 by decide]; omega)
        rw [if_neg q, sg_88_0_4, if_pos q1, lc_it_val]; exact go
    · show lc_val 8 166 0 [.ref 43, .int a, .null, .null, .null, .null, .null] [] lc_SH M = _
      have hc := v_chM (d := 7) (a := a) hM.1 hv.1 (pNx (sP S)) 0 .null .null (by omega)
      rw [sg_166_0_0, v_in1 (by rw [L0]; omega) (by rw [L1]; omega), lc_bk1, sg_166_0_7, if_pos (by decide)]
      refine Eq.trans hc ?_
      by_cases q : a = 0
      · rw [if_neg (fun z => z q), if_neg (fun z => z q)]
      · rw [if_pos q, if_pos q]
  · have h' := h
    rw [vp_in_iff] at h'
    refine ⟨-1000000002, fun M hM => ⟨M, ?_, hM, fun _ _ => rfl⟩, fun M hM => ⟨M, ?_, hM, fun _ _ => rfl⟩⟩
    · show lc_val 8 88 0 [.ref 0, .int a, .null, .null, .null, .null] [] lc_SH M = _
      rw [sg_88_0_0, if_neg (fun q => h (by rw [q]; exact vp_in_nI (n := 0) (by decide) (by decide))), sg_88_0_4, if_neg (fun q => h (by rw [q]; exact vp_in_nI (n := 1) (by decide) (by decide)))]
    · show lc_val 8 166 0 [.ref 43, .int a, .null, .null, .null, .null, .null] [] lc_SH M = _
      rw [sg_166_0_0, v_in0 (by rw [L0, L1]; omega), lc_bk1, sg_166_0_7, if_neg (by decide)]
