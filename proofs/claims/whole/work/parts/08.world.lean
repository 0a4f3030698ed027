/-! the small machine's cells and the heap's: ad says where each cell lies -/
def lc_em (ad : Nat → Nat) : Value → Value
  | .ref r => .ref (ad r)
  | v => v
def lc_cv (ad : Nat → Nat) (x : Int32) : Value → Value
  | .int _ => .int x
  | v => lc_em ad v
def lc_ce (ad : Nat → Nat) (cI cZ : ClassId) (f : Nat → Int32) : lc_C → va_E
  | .inl (z, n) => .inl (bif z then cZ else cI, n, .inl f)
  | .inr (ci, fs) => .inr (ci, fs.mapIdx (fun j v => lc_cv ad (f j) v))
def lc_ws (ad : Nat → Nat) (cI cZ : ClassId) (Sh : lc_Sh) (M : lc_M) : va_W := Sh.mapIdx (fun k c => (ad k, lc_ce ad cI cZ (M k) c))
theorem lc_ws_at {ad : Nat → Nat} {cI cZ : ClassId} {Sh : lc_Sh} {M : lc_M} {k : Nat} {c : lc_C} (h : Sh[k]? = some c) : (lc_ws ad cI cZ Sh M)[k]? = some (ad k, lc_ce ad cI cZ (M k) c) := by
  simp [lc_ws, h]
theorem lc_ws_mem {ad : Nat → Nat} {cI cZ : ClassId} {Sh : lc_Sh} {M : lc_M} {r : Nat} {c : lc_C} {f : Nat → Int32} (h : Sh[r]? = some c) : (lc_ws ad cI cZ Sh M).set r (ad r, lc_ce ad cI cZ f c) = lc_ws ad cI cZ Sh (lc_set M r f) := by
  have hl : r < Sh.length := (List.getElem?_eq_some_iff.mp h).1
  apply List.ext_getElem?
  intro i
  by_cases hi : r = i
  · subst hi
    rw [List.getElem?_set_self (by simpa [lc_ws] using hl)]
    simp [lc_ws, h, lc_set]
  · rw [List.getElem?_set_ne hi]
    simp only [lc_ws, List.getElem?_mapIdx, lc_set, if_neg (Ne.symm hi)]
theorem lc_ws_shape {ad : Nat → Nat} {cI cZ : ClassId} {Sh : lc_Sh} {M : lc_M} {r : Nat} {c c' : lc_C} (h : Sh[r]? = some c) : (lc_ws ad cI cZ Sh M).set r (ad r, lc_ce ad cI cZ (M r) c') = lc_ws ad cI cZ (Sh.set r c') M := by
  have hl : r < Sh.length := (List.getElem?_eq_some_iff.mp h).1
  apply List.ext_getElem?
  intro i
  by_cases hi : r = i
  · subst hi
    rw [List.getElem?_set_self (by simpa [lc_ws] using hl)]
    simp [lc_ws, hl]
  · rw [List.getElem?_set_ne hi]
    simp only [lc_ws, List.getElem?_mapIdx, List.getElem?_set_ne hi]
theorem lc_fs_int {ad : Nat → Nat} {f : Nat → Int32} {fs : List Value} {b : Nat} {x y : Int32} (h : fs[b]? = some (.int y)) : (fs.mapIdx (fun j v => lc_cv ad (f j) v)).set b (.int x) = fs.mapIdx (fun j v => lc_cv ad (upd f b x j) v) := by
  have hl : b < fs.length := (List.getElem?_eq_some_iff.mp h).1
  apply List.ext_getElem?
  intro i
  by_cases hi : b = i
  · subst hi
    rw [List.getElem?_set_self (by simpa using hl)]
    simp [h, upd, lc_cv]
  · rw [List.getElem?_set_ne hi]
    simp only [List.getElem?_mapIdx, upd, if_neg (Ne.symm hi)]
theorem lc_fs_ref {ad : Nat → Nat} {f : Nat → Int32} {fs : List Value} {b q : Nat} {y : Value} (h : fs[b]? = some y) : (fs.mapIdx (fun j v => lc_cv ad (f j) v)).set b (.ref (ad q)) = (fs.set b (.ref q)).mapIdx (fun j v => lc_cv ad (f j) v) := by
  have hl : b < fs.length := (List.getElem?_eq_some_iff.mp h).1
  apply List.ext_getElem?
  intro i
  by_cases hi : b = i
  · subst hi
    rw [List.getElem?_set_self (by simpa using hl)]
    simp [hl, lc_cv, lc_em]
  · rw [List.getElem?_set_ne hi]
    simp only [List.getElem?_mapIdx, List.getElem?_set_ne hi]
theorem lc_em_wf {ad ad' : Nat → Nat} {n : Nat} (ha : ∀ i, i < n → ad' i = ad i) : ∀ (vs : List Value), lc_wf n vs = true → ∀ v ∈ vs, lc_em ad' v = lc_em ad v
  | [], _, v, hv => by cases hv
  | u :: t, h, v, hv => by
    have h2 : lc_wf n t = true ∧ ∀ r, u = .ref r → r < n := by
      cases u with
      | ref r =>
        simp only [lc_wf, Bool.and_eq_true] at h
        exact ⟨h.2, fun r' e => by cases e; exact Nat.ble_eq.mp h.1⟩
      | _ => exact ⟨h, fun r' e => by cases e⟩
    rcases List.mem_cons.mp hv with e | e
    · subst e
      cases v with
      | ref r => exact congrArg Value.ref (ha r (h2.2 r rfl))
      | _ => rfl
    · exact lc_em_wf ha t h2.1 v e
theorem lc_map_wf {ad ad' : Nat → Nat} {n : Nat} (ha : ∀ i, i < n → ad' i = ad i) {vs : List Value} (h : lc_wf n vs = true) : vs.map (lc_em ad') = vs.map (lc_em ad) := List.map_congr_left (lc_em_wf ha vs h)
theorem lc_wfS_at {n : Nat} : ∀ (Sh : lc_Sh), lc_wfS n Sh = true → ∀ (i ci : Nat) (fs : List Value), Sh[i]? = some (.inr (ci, fs)) → lc_wf n fs = true
  | [], _, i, ci, fs, h => by simp at h
  | c :: t, hw, i, ci, fs, h => by
    cases i with
    | zero =>
      rw [List.getElem?_cons_zero] at h
      cases h
      simp only [lc_wfS, Bool.and_eq_true] at hw
      exact hw.1
    | succ i =>
      rw [List.getElem?_cons_succ] at h
      refine lc_wfS_at t ?_ i ci fs h
      cases c with
      | inl q => exact hw
      | inr q =>
        simp only [lc_wfS, Bool.and_eq_true] at hw
        exact hw.2
theorem lc_ce_ad {ad ad' : Nat → Nat} {n : Nat} (ha : ∀ i, i < n → ad' i = ad i) {cI cZ : ClassId} {f : Nat → Int32} {c : lc_C} (h : ∀ ci fs, c = .inr (ci, fs) → lc_wf n fs = true) : lc_ce ad' cI cZ f c = lc_ce ad cI cZ f c := by
  cases c with
  | inl q => rfl
  | inr q =>
    obtain ⟨ci, fs⟩ := q
    have hw := h ci fs rfl
    show (Sum.inr (ci, _) : va_E) = Sum.inr (ci, _)
    congr 2
    apply List.ext_getElem?
    intro i
    simp only [List.getElem?_mapIdx]
    cases hi : fs[i]? with
    | none => rfl
    | some v =>
      have e := lc_em_wf ha fs hw v (List.mem_of_getElem? hi)
      cases v with
      | int x => rfl
      | _ => exact congrArg some e
def lc_ext (ad : Nat → Nat) (n q : Nat) : Nat → Nat := fun i => if i = n then q else ad i
theorem lc_ext_lt {ad : Nat → Nat} {n q i : Nat} (h : i < n) : lc_ext ad n q i = ad i := if_neg (by omega)
theorem lc_ext_at {ad : Nat → Nat} {n q : Nat} : lc_ext ad n q n = q := if_pos rfl
theorem lc_ws_push {ad : Nat → Nat} {cI cZ : ClassId} {Sh : lc_Sh} {M : lc_M} {q : Nat} {c : lc_C} (hw : lc_wfS Sh.length Sh = true) :
    lc_ws ad cI cZ Sh M ++ [(q, lc_ce (lc_ext ad Sh.length q) cI cZ (fun _ => 0) c)] = lc_ws (lc_ext ad Sh.length q) cI cZ (Sh ++ [c]) (lc_set M Sh.length (fun _ => 0)) := by
  have hlen : (lc_ws ad cI cZ Sh M).length = Sh.length := by simp [lc_ws]
  apply List.ext_getElem?
  intro i
  by_cases hi : i < Sh.length
  · rw [List.getElem?_append_left (by rw [hlen]; exact hi)]
    simp only [lc_ws, List.getElem?_mapIdx, List.getElem?_append_left hi]
    cases hc : Sh[i]? with
    | none => rfl
    | some c0 =>
      show some (ad i, lc_ce ad cI cZ (M i) c0) = some (lc_ext ad Sh.length q i, lc_ce (lc_ext ad Sh.length q) cI cZ (lc_set M Sh.length (fun _ => 0) i) c0)
      rw [lc_ext_lt hi, show lc_set M Sh.length (fun _ => 0) i = M i from if_neg (by omega)]
      rw [lc_ce_ad (ad := ad) (ad' := lc_ext ad Sh.length q) (n := Sh.length) (c := c0) (fun i h => lc_ext_lt h) (fun ci fs e => lc_wfS_at Sh hw i ci fs (by rw [hc, e]))]
  · by_cases he : i = Sh.length
    · subst he
      rw [List.getElem?_append_right (by rw [hlen]; exact Nat.le_refl _), hlen, Nat.sub_self]
      simp only [lc_ws, List.getElem?_mapIdx, List.getElem?_append_right (Nat.le_refl _), Nat.sub_self]
      simp [lc_ext_at, lc_set]
    · rw [List.getElem?_eq_none (by simp [lc_ws]; omega), List.getElem?_eq_none (by simp [lc_ws]; omega)]
/-! the locals -/
def lc_LV (ad : Nat → Nat) (ls : Array Slot) (lst : List Value) : Prop := ls.size = lst.length ∧ lv_wf ls ∧ ∀ (i : Nat) (v : Value), lst[i]? = some v → v ≠ .null → ls[i]? = some (.val (lc_em ad v))
def lc_prs (ad : Nat → Nat) (lst : List Value) : List (Nat × Value) := (List.range lst.length).filterMap (fun i => match (lst[i]? : Option Value) with
  | some Value.null => none
  | some v => some (i, lc_em ad v)
  | none => none)
theorem lc_prs_mem {ad : Nat → Nat} {lst : List Value} {q : Nat × Value} : q ∈ lc_prs ad lst ↔ ∃ v, lst[q.1]? = some v ∧ v ≠ .null ∧ q.2 = lc_em ad v := by
  unfold lc_prs
  rw [List.mem_filterMap]
  constructor
  · rintro ⟨i, -, h⟩
    cases hv : lst[i]? with
    | none => rw [hv] at h; cases h
    | some v =>
      rw [hv] at h
      have h2 : v ≠ .null ∧ q = (i, lc_em ad v) := by
        cases v with
        | null => cases h
        | _ => exact ⟨(fun e => by cases e), (Option.some.inj h).symm⟩
      obtain ⟨h3, rfl⟩ := h2
      exact ⟨v, hv, h3, rfl⟩
  · rintro ⟨v, h1, h2, h3⟩
    refine ⟨q.1, List.mem_range.mpr (List.getElem?_eq_some_iff.mp h1).1, ?_⟩
    rw [h1]
    obtain ⟨i, w⟩ := q
    dsimp only at h3
    subst h3
    cases v with
    | null => exact absurd rfl h2
    | _ => rfl
theorem lc_LV.has {ad : Nat → Nat} {ls : Array Slot} {lst : List Value} (h : lc_LV ad ls lst) : lv_has ls lst.length (lc_prs ad lst) := ⟨h.1, h.2.1, fun q hq => by
  obtain ⟨v, a, b, c⟩ := lc_prs_mem.mp hq
  rw [c]
  exact h.2.2 _ _ a b⟩
theorem lc_LV.of {ad : Nat → Nat} {ls : Array Slot} {n : Nat} {l : List (Nat × Value)} {lst : List Value} (hs : lv_has ls n l) (hn : n = lst.length) (h : ∀ (i : Nat) (v : Value), lst[i]? = some v → v ≠ .null → (i, lc_em ad v) ∈ l) : lc_LV ad ls lst := ⟨hs.1.trans hn, hs.2.1, fun i v h1 h2 => hs.2.2 _ (h i v h1 h2)⟩
theorem lc_LV.ad {ad ad' : Nat → Nat} {ls : Array Slot} {lst : List Value} {n : Nat} (h : lc_LV ad ls lst) (ha : ∀ i, i < n → ad' i = ad i) (hw : lc_wf n lst = true) : lc_LV ad' ls lst := ⟨h.1, h.2.1, fun i v h1 h2 => by rw [lc_em_wf ha lst hw v (List.mem_of_getElem? h1)]; exact h.2.2 i v h1 h2⟩
theorem lc_em_cat {ad : Nat → Nat} (v : Value) : (lc_em ad v).category = v.category := by cases v <;> rfl
theorem lc_set_at {lst : List Value} {i j : Nat} {v w : Value} (h : (lst.set i v)[j]? = some w) : (j = i ∧ w = v) ∨ (j ≠ i ∧ lst[j]? = some w) := by
  by_cases hi : i = j
  · subst hi
    have hl : i < lst.length := by
      have := (List.getElem?_eq_some_iff.mp h).1
      simpa using this
    rw [List.getElem?_set_self hl] at h
    exact Or.inl ⟨rfl, (Option.some.inj h).symm⟩
  · rw [List.getElem?_set_ne hi] at h
    exact Or.inr ⟨fun e => hi e.symm, h⟩
theorem lc_st1_at {lst : List Value} {i j : Nat} {v w : Value} (h : (lc_st1 lst i v)[j]? = some w) (hw : w ≠ .null) : (j = i ∧ w = v) ∨ (j ≠ i ∧ lst[j]? = some w ∧ ¬ (j + 1 = i ∧ w.category = 2)) := by
  cases i with
  | zero =>
    rcases lc_set_at h with e | ⟨e1, e2⟩
    · exact Or.inl e
    · exact Or.inr ⟨e1, e2, fun q => by omega⟩
  | succ k =>
    have two : ∀ u, lst[k]? = some u → (((lst.set k .null).set (k + 1) v)[j]? = some w → (j = k + 1 ∧ w = v) ∨ (j ≠ k + 1 ∧ lst[j]? = some w ∧ ¬ (j + 1 = k + 1 ∧ w.category = 2))) := by
      intro u hu h
      rcases lc_set_at h with e | ⟨e1, e2⟩
      · exact Or.inl e
      · rcases lc_set_at e2 with ⟨-, e⟩ | ⟨e3, e4⟩
        · exact absurd e hw
        · exact Or.inr ⟨e1, e4, fun q => e3 (by omega)⟩
    have one : (∀ u, lst[k]? = some u → u.category = 1) → ((lst.set (k + 1) v)[j]? = some w → (j = k + 1 ∧ w = v) ∨ (j ≠ k + 1 ∧ lst[j]? = some w ∧ ¬ (j + 1 = k + 1 ∧ w.category = 2))) := by
      intro hu h
      rcases lc_set_at h with e | ⟨e1, e2⟩
      · exact Or.inl e
      · refine Or.inr ⟨e1, e2, fun q => ?_⟩
        have hk : j = k := by omega
        subst hk
        have := hu w e2
        omega
    unfold lc_st1 at h
    cases hu : lst[k]? with
    | none =>
      simp only [hu] at h
      exact one (fun u q => by rw [hu] at q; cases q) h
    | some u =>
      simp only [hu] at h
      cases u with
      | long x => exact two _ hu h
      | double x => exact two _ hu h
      | _ => exact one (fun u q => by rw [hu] at q; cases q; rfl) h
theorem lc_st1_len {lst : List Value} {i : Nat} {v : Value} : (lc_st1 lst i v).length = lst.length := by
  cases i with
  | zero => simp [lc_st1]
  | succ k =>
    unfold lc_st1
    dsimp only
    split <;> simp
theorem lc_LV_st1 {ad : Nat → Nat} {ls : Array Slot} {lst : List Value} {i : Nat} {v : Value} (h : lv_has ls lst.length ((i, lc_em ad v) :: (lc_prs ad lst).filter (fun q => !(q.1 == i) && !(q.1 + 1 == i && q.2.category == 2)))) : lc_LV ad ls (lc_st1 lst i v) := by
  refine lc_LV.of h lc_st1_len.symm (fun j w h1 h2 => ?_)
  rcases lc_st1_at h1 h2 with ⟨rfl, rfl⟩ | ⟨e1, e2, e3⟩
  · exact List.mem_cons_self
  · refine List.mem_cons_of_mem _ (List.mem_filter.mpr ⟨lc_prs_mem.mpr ⟨w, e2, h2, rfl⟩, ?_⟩)
    simp only [lc_em_cat, Bool.and_eq_true, Bool.not_eq_true', beq_eq_false_iff_ne, ne_eq, Bool.and_eq_false_iff]
    refine ⟨e1, ?_⟩
    by_cases q : j + 1 = i
    · exact Or.inr (fun z => e3 ⟨q, z⟩)
    · exact Or.inl q
theorem lc_LV_st2 {ad : Nat → Nat} {ls : Array Slot} {lst : List Value} {i : Nat} {v : Value} (h : lv_has ls lst.length ((i, lc_em ad v) :: (lc_prs ad lst).filter (fun q => !(q.1 == i) && (!(q.1 == i + 1) && !(q.1 + 1 == i && q.2.category == 2))))) : lc_LV ad ls (lc_st2 lst i v) := by
  refine lc_LV.of h (by unfold lc_st2; rw [lc_st1_len]; simp) (fun j w h1 h2 => ?_)
  unfold lc_st2 at h1
  rcases lc_st1_at h1 h2 with ⟨rfl, rfl⟩ | ⟨e1, e2, e3⟩
  · exact List.mem_cons_self
  · rcases lc_set_at e2 with ⟨-, q⟩ | ⟨e4, e5⟩
    · exact absurd q h2
    · refine List.mem_cons_of_mem _ (List.mem_filter.mpr ⟨lc_prs_mem.mpr ⟨w, e5, h2, rfl⟩, ?_⟩)
      simp only [lc_em_cat, Bool.and_eq_true, Bool.not_eq_true', beq_eq_false_iff_ne, ne_eq, Bool.and_eq_false_iff]
      refine ⟨e1, e4, ?_⟩
      by_cases q : j + 1 = i
      · exact Or.inr (fun z => e3 ⟨q, z⟩)
      · exact Or.inl q
theorem lc_exl_len {ad : Nat → Nat} : ∀ (as : List Value), (lg_sl (as.map (lc_em ad))).length = (lc_exl as).length
  | [] => rfl
  | v :: t => by
    have ih := lc_exl_len (ad := ad) t
    unfold lg_sl at ih ⊢
    rw [List.map_cons, List.flatMap_cons, List.length_append, ih]
    cases v <;> simp [lc_exl, lc_em, Value.category] <;> omega
theorem lc_exl_args {ad : Nat → Nat} : ∀ (as : List Value) (n i : Nat) (v : Value), (lc_exl as)[i]? = some v → v ≠ .null → (n + i, lc_em ad v) ∈ lv_args n (as.map (lc_em ad))
  | [], n, i, v, h, _ => by simp [lc_exl] at h
  | u :: t, n, i, v, h, hv => by
    have two : ∀ (j : Nat) (x : Value), (x = u) → x.category = 2 → (x :: Value.null :: lc_exl t)[j]? = some v → (n + j, lc_em ad v) ∈ lv_args n ((u :: t).map (lc_em ad)) := by
      intro j x hx hc g
      subst hx
      rw [List.map_cons]
      unfold lv_args
      rw [if_pos (by rw [lc_em_cat]; exact hc)]
      match j, g with
      | 0, g => cases g; exact List.mem_cons_self
      | 1, g => cases g; exact absurd rfl hv
      | j + 2, g =>
        have h3 : (lc_exl t)[j]? = some v := g
        have := lc_exl_args (ad := ad) t (n + 2) j v h3 hv
        rw [show n + (j + 2) = n + 2 + j by omega]
        exact List.mem_cons_of_mem _ this
    have one : ∀ j : Nat, u.category ≠ 2 → (u :: lc_exl t)[j]? = some v → (n + j, lc_em ad v) ∈ lv_args n ((u :: t).map (lc_em ad)) := by
      intro j hc g
      rw [List.map_cons]
      unfold lv_args
      rw [if_neg (by rw [lc_em_cat]; exact hc)]
      match j, g with
      | 0, g => cases g; exact List.mem_cons_self
      | j + 1, g =>
        have h3 : (lc_exl t)[j]? = some v := g
        have := lc_exl_args (ad := ad) t (n + 1) j v h3 hv
        rw [show n + (j + 1) = n + 1 + j by omega]
        exact List.mem_cons_of_mem _ this
    cases u with
    | long x => exact two i _ rfl rfl h
    | double x => exact two i _ rfl rfl h
    | _ => exact one i (by intro q; cases q) h
theorem lc_pad_len : ∀ (n : Nat) (l : List Value), (lc_pad n l).length = n
  | 0, _ => rfl
  | n + 1, [] => by simp [lc_pad, lc_pad_len n []]
  | n + 1, v :: t => by simp [lc_pad, lc_pad_len n t]
theorem lc_pad_at : ∀ (n : Nat) (l : List Value) (i : Nat) (v : Value), (lc_pad n l)[i]? = some v → v ≠ .null → l[i]? = some v
  | 0, l, i, v, h, _ => by simp [lc_pad] at h
  | n + 1, [], i, v, h, hv => by
    cases i with
    | zero => cases h; exact absurd rfl hv
    | succ i =>
      have := lc_pad_at n [] i v h hv
      simp at this
  | n + 1, u :: t, i, v, h, hv => by
    cases i with
    | zero => exact h
    | succ i => exact lc_pad_at n t i v h hv
theorem lc_LV_ent {ad : Nat → Nat} {k : Nat} {as : List Value} (h : (lc_exl as).length ≤ lc_mL k) : lc_LV ad ((lg_sl (as.map (lc_em ad)) ++ List.replicate (lc_mL k - (lg_sl (as.map (lc_em ad))).length) Slot.unset).toArray) (lc_ent k as) := by
  refine lc_LV.of (lv_entry (as.map (lc_em ad)) (n := lc_mL k) (by rw [lc_exl_len]; exact h)) (lc_pad_len _ _).symm (fun i v h1 h2 => ?_)
  have := lc_exl_args (ad := ad) as 0 i v (lc_pad_at _ _ _ _ h1 h2) h2
  rwa [Nat.zero_add] at this
