/-! the instructions that read and write cells -/
def lc_tys (cI cZ : ClassId) : List (ClassId × FieldType) := [(cI, .int), (cZ, .boolean)]
/-- a method's words -/
theorem lc_mfacts {k : Nat} (hk : k < lc_NM) : Cond.code (lc_mY k) (lc_mC k) (lc_mL k) (lc_mR k) ∈ lw_tbl ∧ Cond.initialized (lc_mY k).cls ∈ lw_tbl ∧
    ((lc_mP k).2.2.2.2 = true → Cond.static (lc_mY k) ∈ lw_tbl) ∧ ((lc_mP k).2.2.2.2 = false → Cond.instanceMethod (lc_mY k) ∈ lw_tbl ∧ ((lc_mY k).name = "<init>" ∨ Cond.selects (lc_mY k).cls (lc_mY k) (lc_mY k) ∈ lw_tbl)) ∧
    plainName (lc_mY k).cls = true ∧ ((lc_mY k).cls ≠ "java/lang/invoke/MethodHandle" ∧ (lc_mY k).cls ≠ "java/lang/invoke/VarHandle" ∧ (parseMethodDescriptor (lc_mY k).desc).map (fun d => d.parameters.length) = some (lc_mN k)) ∧ lc_mL k ≤ 8 ∧ ((lc_mY k).name = "<init>" → lc_mR k = none) := by
  have h : lc_mok k = true := lc_ma k hk
  unfold lc_mok at h
  split at h
  rename_i p0 p1 p2 p3 sta hq
  simp only [Bool.and_eq_true, decide_eq_true_eq, Bool.or_eq_true] at h
  obtain ⟨⟨⟨⟨⟨⟨⟨⟨h1, h2⟩, h3⟩, h4⟩, h5⟩, h6⟩, h7⟩, h8⟩, h9⟩ := h
  have hs : (lc_mP k).2.2.2.2 = sta := by rw [hq]
  refine ⟨lc_isW_in h1, lc_isW_in h2, fun e => ?_, fun e => ?_, h4, ⟨h5, h6, h7⟩, h8, fun e => ?_⟩
  · rw [hs] at e
    rw [e] at h3
    exact lc_isW_in h3
  · rw [hs] at e
    rw [e] at h3
    simp only [cond_false, Bool.and_eq_true, Bool.or_eq_true, decide_eq_true_eq] at h3
    exact ⟨lc_isW_in h3.1, h3.2.imp id (fun q => lc_isW_in q)⟩
  · rcases h9 with q | q
    · exact absurd e q
    · exact q
theorem lc_few_sum {ad : Nat → Nat} {st : List Value} (h : lc_few st = true) : ((st.map (lc_em ad)).map fun v => v.category).sum ≤ 8 := by
  have c : ∀ v : Value, (lc_em ad v).category ≤ 2 := fun v => by rcases lv_cat (lc_em ad v) with h | h <;> omega
  match st, h with
  | [], _ => simp
  | [a], _ => simp; have := c a; omega
  | [a, b], _ => simp; have := c a; have := c b; omega
  | [a, b, d], _ => simp; have := c a; have := c b; have := c d; omega
  | [a, b, d, e], _ => simp; have := c a; have := c b; have := c d; have := c e; omega
theorem lc_pop_eq : ∀ (n : Nat) (acc st as rest : List Value), lc_pop n acc st = some (as, rest) → ∃ xs : List Value, as = xs.reverse ++ acc ∧ st = xs ++ rest ∧ xs.length = n
  | 0, acc, st, as, rest, h => by
    cases h
    exact ⟨[], rfl, rfl, rfl⟩
  | n + 1, acc, [], as, rest, h => by cases h
  | n + 1, acc, v :: st, as, rest, h => by
    obtain ⟨xs, h1, h2, h3⟩ := lc_pop_eq n (v :: acc) st as rest h
    exact ⟨v :: xs, by rw [h1]; simp, by rw [h2]; rfl, by simp [h3]⟩
theorem lc_pop_ok {n : Nat} {st as rest : List Value} (h : lc_pop n [] st = some (as, rest)) (ad : Nat → Nat) : as.length = n ∧ st.map (lc_em ad) = (as.map (lc_em ad)).reverse ++ rest.map (lc_em ad) := by
  obtain ⟨xs, h1, h2, h3⟩ := lc_pop_eq n [] st as rest h
  rw [List.append_nil] at h1
  refine ⟨by rw [h1]; simp [h3], ?_⟩
  rw [h2, h1]
  simp
theorem lc_sz_set : ∀ (Sh : lc_Sh) (r : Nat) (c c' : lc_C), Sh[r]? = some c → lc_size c' = lc_size c → lc_sz (Sh.set r c') = lc_sz Sh
  | [], r, c, c', h, _ => by simp at h
  | a :: t, 0, c, c', h, e => by
    cases h
    show lc_size c' + lc_sz t = lc_size a + lc_sz t
    rw [e]
  | a :: t, r + 1, c, c', h, e => by
    show lc_size a + lc_sz (t.set r c') = lc_size a + lc_sz t
    rw [lc_sz_set t r c c' h e]
theorem lc_sz_app : ∀ (Sh : lc_Sh) (c : lc_C), lc_sz (Sh ++ [c]) = lc_sz Sh + lc_size c
  | [], c => by simp [lc_sz]
  | a :: t, c => by
    show lc_size a + lc_sz (t ++ [c]) = lc_size a + lc_sz t + lc_size c
    rw [lc_sz_app t c]; omega
section LcCells
variable {p : Program} {l : Launch} {e : Env} {R : Room} {s : State} {m : MethodId} {args : Array Value} {below : List Frame} {meth : Method} {c : Code} {H : Heap} {locs : List Loc} {cells slots : Nat} {Q : State → Prop}
variable {k pc a b pl : Nat} {v : Int32} {w : Int64} {ts : List Nat} {ad : Nat → Nat} {ls : Array Slot} {st : List Value} {Sh : lc_Sh} {M : lc_M} {res : lc_Res} {D : va_G} {cI cZ : ClassId} {B : Nat} {H0 : Heap}
theorem lc_fld_ok {O f ds : String} {fin : Bool} (h : lc_fld a b = some (O, f, ds, fin)) : ∃ (C : String) (T : u_T) (N : Nat), lc_cl[a]? = some (C, T, N) ∧ b < N ∧ T b = (O, f, ds, fin) := by
  unfold lc_fld at h
  split at h
  · rename_i C T N hc
    split at h
    · exact ⟨C, T, N, hc, by assumption, Option.some.inj h⟩
    · cases h
  · cases h
set_option maxHeartbeats 1000000 in
theorem lc_getf_ok (hx : p.tables.exec = Jvm.exec) (hb : c.code = lc_mC k) (hown : s.vm.findClass (lc_mY k).cls = some m.cls) (hts : ∀ w ∈ lc_tt, w.before args s = true) (hK : va_K D lc_cl (lc_tys cI cZ) s)
    {x : Nat} (hr : lc_rok k pc (some (.getfield x, a, b, v, w, pl, ts)) = true) {f : List Value → Option lc_Res} (h : lc_getf f a b st Sh M = some res) (hP : va_P D lc_cl (lc_ws ad cI cZ Sh M) H)
    (kk : ∀ st', f st' = some res → W p l e R s m args below meth c H locs cells slots Q (F0 m (pc + 3) ls (st'.map (lc_em ad)))) :
    W p l e R s m args below meth c H locs cells slots Q (F0 m pc ls (st.map (lc_em ad))) := by
  simp only [lc_rok, Bool.and_eq_true] at hr
  obtain ⟨hd, hl⟩ := hr
  split at hl
  · rename_i O fn ds fin hf
    obtain ⟨C, T, N, hc, hbN, hT⟩ := lc_fld_ok hf
    obtain ⟨hin0, -⟩ := lc_cls hc
    have hin := lc_u_tt hin0
    have hlink := hts _ (lc_isW_tt hl rfl)
    unfold lc_getf at h
    split at h
    · rename_i r st0
      split at h
      · rename_i ci fs hs
        cases hq : Nat.beq ci a with
        | false => rw [hq] at h; cases h
        | true =>
          rw [hq] at h
          have hca : ci = a := Nat.eq_of_beq_eq_true hq
          subst hca
          dsimp only [cond_true] at h
          split at h
          · rename_i y hv
            exact va_get (D := D) (ci := ci) (v := .int (M r b)) (C := C) (T := T) (N := N) (ref := O) hx hb hts hin hown hK hP r (lc_ws_at hs) hc b hbN (by rw [hT]; exact hlink) (fun q h9 => by rw [hT] at h9 ⊢; exact h9) (by simp [hv, lc_cv]) (lc_dec_ok hd) (kk _ h)
          · rename_i y hv
            exact va_get (D := D) (ci := ci) (v := .ref (ad y)) (C := C) (T := T) (N := N) (ref := O) hx hb hts hin hown hK hP r (lc_ws_at hs) hc b hbN (by rw [hT]; exact hlink) (fun q h9 => by rw [hT] at h9 ⊢; exact h9) (by simp [hv, lc_cv, lc_em]) (lc_dec_ok hd) (kk _ h)
          · cases h
      · cases h
    · cases h
  · cases hl
set_option maxHeartbeats 1000000 in
theorem lc_putf_ok (hx : p.tables.exec = Jvm.exec) (hb : c.code = lc_mC k) (hown : s.vm.findClass (lc_mY k).cls = some m.cls) (hts : ∀ w ∈ lc_tt, w.before args s = true) (hK : va_K D lc_cl (lc_tys cI cZ) s) (hmn : meth.name = (lc_mY k).name)
    {x : Nat} (hr : lc_rok k pc (some (.putfield x, a, b, v, w, pl, ts)) = true) {f : List Value → lc_Sh → lc_M → Option lc_Res} (h : lc_putf f a b st Sh M = some res)
    (hP : va_P D lc_cl (lc_ws ad cI cZ Sh M) H) (hD : va_D (fun q => B ≤ q) (lc_ws ad cI cZ Sh M)) (hS : va_S (fun q => B ≤ q) H0 H locs)
    (kk : ∀ (st' : List Value) (Sh' : lc_Sh) (M' : lc_M) (H1 : Heap) (locs1 : List Loc), f st' Sh' M' = some res → Sh'.length = Sh.length → lc_sz Sh' = lc_sz Sh → va_P D lc_cl (lc_ws ad cI cZ Sh' M') H1 → va_D (fun q => B ≤ q) (lc_ws ad cI cZ Sh' M') → va_S (fun q => B ≤ q) H0 H1 locs1 → W p l e R s m args below meth c H1 locs1 cells slots Q (F0 m (pc + 3) ls (st'.map (lc_em ad)))) :
    W p l e R s m args below meth c H locs cells slots Q (F0 m pc ls (st.map (lc_em ad))) := by
  simp only [lc_rok, Bool.and_eq_true] at hr
  obtain ⟨hd, hl⟩ := hr
  split at hl
  · rename_i O fn ds fin hf
    obtain ⟨C, T, N, hc, hbN, hT⟩ := lc_fld_ok hf
    obtain ⟨hin0, -, -, hnm, hty, -⟩ := lc_cls hc
    have hin := lc_u_tt hin0
    simp only [Bool.and_eq_true, Bool.or_eq_true, Bool.not_eq_true', decide_eq_true_eq] at hl
    obtain ⟨hl, hfin⟩ := hl
    have hlink := hts _ (lc_isW_tt hl rfl)
    -- the two rows, for a value that fits
    have put : ∀ (r : Nat) (fs : List Value) (y : Value) (st0 : List Value), Sh[r]? = some (.inr (a, fs)) → b < fs.length → narrow (lc_ty a b) y = y → fits (lc_ty a b) y = true →
        (∀ (H1 : Heap) (locs1 : List Loc), va_P D lc_cl ((lc_ws ad cI cZ Sh M).set r (ad r, .inr (a, (fs.mapIdx (fun j v => lc_cv ad (M r j) v)).set b y))) H1 → va_D (fun q => B ≤ q) ((lc_ws ad cI cZ Sh M).set r (ad r, .inr (a, (fs.mapIdx (fun j v => lc_cv ad (M r j) v)).set b y))) → va_S (fun q => B ≤ q) H0 H1 locs1 → W p l e R s m args below meth c H1 locs1 cells slots Q (F0 m (pc + 3) ls st0)) →
        W p l e R s m args below meth c H locs cells slots Q (F0 m pc ls (y :: .ref (ad r) :: st0)) := by
      intro r fs y st0 hs hbl hn hfit k2
      cases fin with
      | false => exact va_put (D := D) (ci := a) (v := y) (ty := lc_ty a b) (C := C) (T := T) (N := N) (ref := O) hx hb hts hin (lc_ty a) hty hnm hown hK hP hD hS r (lc_ws_at hs) hc b hbN (by rw [hT]; exact hlink) (fun q h9 => by rw [hT] at h9 ⊢; exact h9) (by rw [hT]) (hty b hbN) hn hfit (by simpa using hbl) (lc_dec_ok hd) k2
      | true =>
        have hi : (lc_mY k).name = "<init>" ∧ O = (lc_mY k).cls := by
          rcases hfin with q | q
          · cases q
          · exact q
        exact va_putF (D := D) (ci := a) (v := y) (ty := lc_ty a b) (C := C) (T := T) (N := N) (ref := O) hx hb hts hin (lc_ty a) hty hnm hown hK hP hD hS r (lc_ws_at hs) hc b hbN (by rw [hT]; exact hlink) (fun q h9 => by rw [hT] at h9 ⊢; exact h9) (by rw [hT]) (hmn.trans hi.1) (by rw [hT]; exact hi.2) (hty b hbN) hn hfit (by simpa using hbl) (lc_dec_ok hd) k2
    have pref : ∀ (r : Nat) (fs : List Value) (q : Nat) (st0 : List Value), Sh[r]? = some (.inr (a, fs)) → fs[b]? = some .null → narrow (lc_ty a b) (.ref (ad q)) = .ref (ad q) → fits (lc_ty a b) (.ref (ad q)) = true → f st0 (Sh.set r (.inr (a, fs.set b (.ref q)))) M = some res →
        W p l e R s m args below meth c H locs cells slots Q (F0 m pc ls (.ref (ad q) :: .ref (ad r) :: st0.map (lc_em ad))) := by
      intro r fs q st0 hs hv hn hfit h
      refine put r fs (.ref (ad q)) _ hs (List.getElem?_eq_some_iff.mp hv).1 hn hfit (fun H1 locs1 hP hD hS => ?_)
      have e : (lc_ws ad cI cZ Sh M).set r (ad r, .inr (a, (fs.mapIdx (fun j v => lc_cv ad (M r j) v)).set b (.ref (ad q)))) = lc_ws ad cI cZ (Sh.set r (.inr (a, fs.set b (.ref q)))) M := by
        rw [lc_fs_ref hv]
        exact lc_ws_shape (c' := .inr (a, fs.set b (.ref q))) hs
      rw [e] at hP hD
      exact kk _ _ _ H1 locs1 h (by simp) (lc_sz_set Sh r _ _ hs (by simp [lc_size])) hP hD hS
    unfold lc_putf at h
    split at h
    · rename_i x r st0
      split at h
      · rename_i ci fs hs
        cases hq : Nat.beq ci a with
        | false => rw [hq] at h; cases h
        | true =>
          rw [hq] at h
          have hca : ci = a := Nat.eq_of_beq_eq_true hq
          subst hca
          dsimp only [cond_true] at h
          split at h
          · rename_i y hv ht
            refine put r fs (.int x) _ hs (List.getElem?_eq_some_iff.mp hv).1 (by rw [ht]; rfl) (by rw [ht]; rfl) (fun H1 locs1 hP hD hS => ?_)
            have e : (lc_ws ad cI cZ Sh M).set r (ad r, .inr (ci, (fs.mapIdx (fun j v => lc_cv ad (M r j) v)).set b (.int x))) = lc_ws ad cI cZ Sh (lc_up M r b x) := by
              rw [lc_fs_int hv]
              exact lc_ws_mem (f := upd (M r) b x) hs
            rw [e] at hP hD
            exact kk _ _ _ H1 locs1 h rfl rfl hP hD hS
          · cases h
      · cases h
    · rename_i q r st0
      split at h
      · rename_i ci fs hs
        cases hq : Nat.beq ci a with
        | false => rw [hq] at h; cases h
        | true =>
          rw [hq] at h
          have hca : ci = a := Nat.eq_of_beq_eq_true hq
          subst hca
          dsimp only [cond_true] at h
          split at h
          · rename_i nm hv ht
            exact pref r fs q st0 hs hv (by rw [ht]; rfl) (by rw [ht]; rfl) h
          · rename_i nm hv ht
            exact pref r fs q st0 hs hv (by rw [ht]; rfl) (by rw [ht]; rfl) h
          · cases h
      · cases h
    · cases h
  · cases hl
set_option maxHeartbeats 1000000 in
theorem lc_ald_ok (hx : p.tables.exec = Jvm.exec) (hb : c.code = lc_mC k) (hK : va_K D lc_cl (lc_tys cI cZ) s) {z : Bool} (hd : decode (lc_mC k) pc = .ok (bif z then .baload else .iaload, 1))
    {f : List Value → Option lc_Res} (h : lc_ald z f st Sh M = some res) (hP : va_P D lc_cl (lc_ws ad cI cZ Sh M) H)
    (kk : ∀ st', f st' = some res → W p l e R s m args below meth c H locs cells slots Q (F0 m (pc + 1) ls (st'.map (lc_em ad)))) :
    W p l e R s m args below meth c H locs cells slots Q (F0 m pc ls (st.map (lc_em ad))) := by
  unfold lc_ald at h
  split at h
  · rename_i j r st0
    split at h
    · rename_i y len hs
      have hw := lc_ws_at (ad := ad) (cI := cI) (cZ := cZ) (M := M) hs
      cases z with
      | false =>
        cases y with
        | true => cases h
        | false =>
          have h : (if ¬ (j < 0 ∨ len ≤ j.toNatClampNeg) then f (.int (M r j.toNatClampNeg) :: st0) else none) = some res := h
          split at h
          · rename_i hin
            exact va_iald hx hb hK hP r 0 hw rfl hin hd (kk _ h)
          · cases h
      | true =>
        cases y with
        | false => cases h
        | true =>
          have h : (if ¬ (j < 0 ∨ len ≤ j.toNatClampNeg) then f (.int (M r j.toNatClampNeg) :: st0) else none) = some res := h
          split at h
          · rename_i hin
            exact va_zald hx hb hK hP r 1 hw rfl hin hd (kk _ h)
          · cases h
    · cases h
  · cases h
set_option maxHeartbeats 1000000 in
theorem lc_ast_ok (hx : p.tables.exec = Jvm.exec) (hb : c.code = lc_mC k) (hK : va_K D lc_cl (lc_tys cI cZ) s) {z : Bool} (hd : decode (lc_mC k) pc = .ok (bif z then .bastore else .iastore, 1))
    {f : List Value → lc_M → Option lc_Res} (h : lc_ast z f st Sh M = some res) (hP : va_P D lc_cl (lc_ws ad cI cZ Sh M) H) (hD : va_D (fun q => B ≤ q) (lc_ws ad cI cZ Sh M)) (hS : va_S (fun q => B ≤ q) H0 H locs)
    (kk : ∀ (st' : List Value) (M' : lc_M) (H1 : Heap) (locs1 : List Loc), f st' M' = some res → va_P D lc_cl (lc_ws ad cI cZ Sh M') H1 → va_D (fun q => B ≤ q) (lc_ws ad cI cZ Sh M') → va_S (fun q => B ≤ q) H0 H1 locs1 → W p l e R s m args below meth c H1 locs1 cells slots Q (F0 m (pc + 1) ls (st'.map (lc_em ad)))) :
    W p l e R s m args below meth c H locs cells slots Q (F0 m pc ls (st.map (lc_em ad))) := by
  unfold lc_ast at h
  split at h
  · rename_i x j r st0
    split at h
    · rename_i y len hs
      have hw := lc_ws_at (ad := ad) (cI := cI) (cZ := cZ) (M := M) hs
      cases z with
      | false =>
        cases y with
        | true => cases h
        | false =>
          dsimp only [beq_self_eq_true, cond_true, cond_false] at h
          split at h
          · rename_i hin
            refine va_iast hx hb hK hP hD hS r 0 hw rfl hin hd (fun H1 locs1 hP hD hS => ?_)
            have e := lc_ws_mem (ad := ad) (cI := cI) (cZ := cZ) (M := M) (f := upd (M r) j.toNatClampNeg x) hs
            exact kk _ _ H1 locs1 h (by rw [lc_up, ← e]; exact hP) (by rw [lc_up, ← e]; exact hD) hS
          · cases h
      | true =>
        cases y with
        | false => cases h
        | true =>
          dsimp only [beq_self_eq_true, cond_true] at h
          split at h
          · rename_i hin
            refine va_zast hx hb hK hP hD hS r 1 hw rfl hin hd (fun H1 locs1 hP hD hS => ?_)
            have e := lc_ws_mem (ad := ad) (cI := cI) (cZ := cZ) (M := M) (f := upd (M r) j.toNatClampNeg (vp_nar .boolean x)) hs
            exact kk _ _ H1 locs1 h (by rw [lc_up, ← e]; exact hP) (by rw [lc_up, ← e]; exact hD) hS
          · cases h
    · cases h
  · cases h
set_option maxHeartbeats 1000000 in
theorem lc_cpy_ok (hx : p.tables.exec = Jvm.exec) (hb : c.code = lc_mC k) (hml : c.maxLocals = ls.size) (hown : s.vm.findClass (lc_mY k).cls = some m.cls) (hts : ∀ w ∈ lc_tt, w.before args s = true) (hK : va_K D lc_cl (lc_tys cI cZ) s) {x : Nat} (hd : decode (lc_mC k) pc = .ok (.invokestatic x, 3)) (hlink : (Cond.methodLink (lc_mY k).cls x arraycopyName).before args s = true) (hfr : 1 ≤ R.frames) (hlo : 27 ≤ R.locals)
    {f : List Value → lc_M → Option lc_Res} (h : lc_cpy f st Sh M = some res) (hP : va_P D lc_cl (lc_ws ad cI cZ Sh M) H) (hD : va_D (fun q => B ≤ q) (lc_ws ad cI cZ Sh M)) (hS : va_S (fun q => B ≤ q) H0 H locs)
    (kk : ∀ (st' : List Value) (M' : lc_M) (H1 : Heap) (locs1 : List Loc), f st' M' = some res → va_P D lc_cl (lc_ws ad cI cZ Sh M') H1 → va_D (fun q => B ≤ q) (lc_ws ad cI cZ Sh M') → va_S (fun q => B ≤ q) H0 H1 locs1 → W p l e R s m args below meth c H1 locs1 cells slots Q (F0 m (pc + 3) ls (st'.map (lc_em ad)))) :
    W p l e R s m args below meth c H locs cells slots Q (F0 m pc ls (st.map (lc_em ad))) := by
  unfold lc_cpy at h
  split at h
  · rename_i len dp r1 sp r0 st0
    split at h
    · rename_i n0 n1 hs0 hs1
      have hw0 := lc_ws_at (ad := ad) (cI := cI) (cZ := cZ) (M := M) hs0
      have hw1 := lc_ws_at (ad := ad) (cI := cI) (cZ := cZ) (M := M) hs1
      cases hq : lc_few st0 with
      | false => rw [hq] at h; cases h
      | true =>
        rw [hq] at h
        dsimp only [cond_true] at h
        split at h
        · rename_i hin
          obtain ⟨h1, h2, h3, h4, h5⟩ := hin
          have h8 := lc_few_sum (ad := ad) hq
          refine va_copyi hx hb hml hown hlink (hts _ (lc_isW_tt lc_w_cp1 rfl)) (hts _ (lc_isW_tt lc_w_cp2 rfl)) (hts _ (lc_isW_tt lc_w_cp3 rfl)) hK hP hD hS r0 r1 0 0 (ty := .int) hw0 hw1 rfl rfl rfl h1 h2 h3 h4 h5 (fun i hi => rfl) hfr (by show _ + (7 + 11) ≤ _; omega) hd (fun H1 locs1 hP hD hS => ?_)
          have e := lc_ws_mem (ad := ad) (cI := cI) (cZ := cZ) (M := M) (f := va_cpy (M r0) (M r1) sp.toNatClampNeg dp.toNatClampNeg len.toNatClampNeg) hs1
          exact kk _ _ H1 locs1 h (by rw [← e]; exact hP) (by rw [← e]; exact hD) hS
        · cases h
    · cases h
  · cases h
end LcCells
