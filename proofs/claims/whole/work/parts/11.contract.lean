/-! a method's contract out of a run of the small machine -/
/-- the words that a contract's head may have -/
def lc_tb : List Cond := lw_tbl.filter goodWord
def lc_w (k : Nat) : List Cond := Cond.code (lc_mY k) (lc_mC k) (lc_mL k) (lc_mR k) :: lc_tb
theorem lc_good {k : Nat} (hk : k < lc_NM) : GoodIn lc_tt (lc_w k) := by
  intro w hw
  rcases List.mem_cons.mp hw with e | e
  · subst e
    exact ⟨lc_tt_in (lc_mfacts hk).1 rfl, Or.inl rfl⟩
  · obtain ⟨h1, h2⟩ := List.mem_filter.mp e
    exact ⟨lc_tt_in h1 (by rw [h2]; rfl), good_of_word h2⟩
/-- the links between nest mates, as a state has them -/
def lc_Nz (U : State) : Prop := ∀ (a : String) (i : Nat) (x : MethodName) (h : String), Cond.methodLinkNest a i x h ∈ lw_tbl → va_Nw (.methodLinkNest a i x h) U
theorem lc_Nz.warm {s U : State} (hW : s.WarmedH U.vm) (h : lc_Nz s) : lc_Nz U := fun a i x n hm => va_Nw.warmM hW (h a i x n hm)
theorem lc_Nz.same {u U : State} (hv : u.vm = U.vm) (h : lc_Nz u) : lc_Nz U := fun a i x n hm => va_Nw.same rfl hv (h a i x n hm)
theorem lc_hts {s : State} {args : Array Value} {k : Nat} (h : ∀ w ∈ lc_w k, w.before args s = true) (hN : lc_Nz s) : ∀ w ∈ lc_tt, w.before args s = true := by
  intro w hw
  obtain ⟨hw, g⟩ := List.mem_filter.mp hw
  rcases (Bool.or_eq_true _ _).mp g with g | g
  · exact h w (List.mem_cons_of_mem _ (List.mem_filter.mpr ⟨hw, g⟩))
  · cases w with
    | methodLinkNest a i x n => exact va_Nw.use rfl (hN a i x n hw)
    | _ => cases g
def lc_rm (d : Nat) (Sh Sf : lc_Sh) : Room := { frames := d, cells := Sf.length - Sh.length, slots := lc_sz Sf - lc_sz Sh, locals := 27 * d }
def lc_Pre (B : Nat) (D : va_G) (cI cZ : ClassId) (ad : Nat → Nat) (Sh : lc_Sh) (M : lc_M) (U : State) : Prop :=
  B ≤ U.heap.size ∧ va_P D lc_cl (lc_ws ad cI cZ Sh M) U.heap ∧ va_K D lc_cl (lc_tys cI cZ) U ∧ va_D (fun q => B ≤ q) (lc_ws ad cI cZ Sh M) ∧ lc_Nz U
def lc_Post (B : Nat) (D : va_G) (cI cZ : ClassId) (ad : Nat → Nat) (Sh : lc_Sh) (res : lc_Res) : Array Value → State → Outcome → State → Prop := fun _ st oc t =>
  ∃ ad' : Nat → Nat, (∀ i, ¬ (Sh.length ≤ i ∧ i < res.2.1.length) → ad' i = ad i) ∧ oc = .returned (res.1.map (lc_em ad')) ∧ va_P D lc_cl (lc_ws ad' cI cZ res.2.1 res.2.2) t.heap ∧ va_D (fun q => B ≤ q) (lc_ws ad' cI cZ res.2.1 res.2.2) ∧ va_K D lc_cl (lc_tys cI cZ) t ∧ va_F (fun q => B ≤ q) st t
def lc_Con (l : Launch) (B : Nat) (D : va_G) (cI cZ : ClassId) (ad : Nat → Nat) (d k : Nat) (as : List Value) (Sh : lc_Sh) (M : lc_M) (res : lc_Res) : Prop :=
  Met l (lc_mY k) (lc_w k) (lc_rm d Sh res.2.1) (va_Pc (as.map (lc_em ad)) (lc_Pre B D cI cZ ad Sh M)) (lc_Post B D cI cZ ad Sh res) (res.2.1.length - Sh.length) (lc_sz res.2.1 - lc_sz Sh) (fun q => B ≤ q)
/-- what is so throughout a method's body -/
def lc_Cx (p : Program) (s : State) (m : MethodId) (args : Array Value) (meth : Method) (c : Code) (B : Nat) (D : va_G) (cI cZ : ClassId) (k : Nat) : Prop :=
  k < lc_NM ∧ p.tables.exec = Jvm.exec ∧ c.code = lc_mC k ∧ c.maxLocals = lc_mL k ∧ s.vm.findClass (lc_mY k).cls = some m.cls ∧ (∀ w ∈ lc_tt, w.before args s = true) ∧ meth.sig.returnType = lc_mR k ∧ meth.locks = false ∧ meth.name = (lc_mY k).name ∧ va_K D lc_cl (lc_tys cI cZ) s ∧ B ≤ s.heap.size ∧ lc_Nz s
/-- the cells now; since the entry -/
def lc_HR (B : Nat) (D : va_G) (cI cZ : ClassId) (s : State) (ad0 : Nat → Nat) (Sh0 : lc_Sh) (ad : Nat → Nat) (Sh : lc_Sh) (M : lc_M) (H : Heap) (locs : List Loc) : Prop :=
  va_P D lc_cl (lc_ws ad cI cZ Sh M) H ∧ va_D (fun q => B ≤ q) (lc_ws ad cI cZ Sh M) ∧ va_S (fun q => B ≤ q) s.heap H locs ∧ Sh0.length ≤ Sh.length ∧ lc_sz Sh0 ≤ lc_sz Sh ∧ ∀ i, ¬ (Sh0.length ≤ i ∧ i < Sh.length) → ad i = ad0 i
def lc_In (f : lc_F) : Prop := ∀ (p : Program) (l : Launch) (e : Env) (s : State) (m : MethodId) (args : Array Value) (below : List Frame) (meth : Method) (c : Code) (B : Nat) (D : va_G) (cI cZ : ClassId) (d k : Nat) (ad0 : Nat → Nat) (Sh0 : lc_Sh) (res : lc_Res),
  lc_Cx p s m args meth c B D cI cZ k →
  ∀ (ad : Nat → Nat) (pc : Nat) (lst st : List Value) (Sh : lc_Sh) (M : lc_M) (ls : Array Slot) (H : Heap) (locs : List Loc) (cells slots : Nat), f d k pc lst st Sh M = some res → lc_LV ad ls lst → lst.length = lc_mL k → lc_HR B D cI cZ s ad0 Sh0 ad Sh M H locs → cells = Sh.length - Sh0.length → slots = lc_sz Sh - lc_sz Sh0 →
  W p l e (lc_rm d Sh0 res.2.1) s m args below meth c H locs cells slots (MQ below (lc_Post B D cI cZ ad0 Sh0 res) args s (res.2.1.length - Sh0.length) (lc_sz res.2.1 - lc_sz Sh0) (fun q => B ≤ q)) (F0 m pc ls (st.map (lc_em ad)))
theorem lc_con {f : lc_F} (hI : lc_In f) {l : Launch} {B : Nat} {D : va_G} {cI cZ : ClassId} {ad : Nat → Nat} {d k : Nat} {as : List Value} {Sh : lc_Sh} {M : lc_M} {res : lc_Res} (hk : k < lc_NM) (hl : (lc_exl as).length ≤ lc_mL k) (h : f d k 0 (lc_ent k as) [] Sh M = some res) : lc_Con l B D cI cZ ad d k as Sh M res := by
  refine Met.ofW (cc := lc_mC k) (maxL := lc_mL k) (ret := lc_mR k) (lc_mfacts hk).2.2.2.2.1 rfl ?_
  intro p e s m args below meth c s₁ Bd hml hv
  obtain ⟨rfl, hB, hP, hK, hD, hN⟩ := hv
  have hts := lc_hts (atoms_spec (ws := lc_w k) Bd.pre) hN
  rw [lg_entry_eq]
  exact hI p l e s m _ below meth c B D cI cZ d k ad Sh res ⟨hk, Bd.exec, Bd.bytes, hml, findClass_of_methodNamed Bd.named, hts, Bd.returns, Bd.notSynchronized, (name_of_methodNamed Bd.named Bd.method).1, hK, hB, hN⟩ ad 0 _ [] Sh M _ s.heap [] 0 0 h (lc_LV_ent hl) (lc_pad_len _ _) ⟨hP, hD, va_S.rf, Nat.le_refl _, Nat.le_refl _, fun _ _ => rfl⟩ (Nat.sub_self _).symm (Nat.sub_self _).symm
/-! cells are only added -/
def lc_Mo (f : lc_F) : Prop := ∀ (d k pc : Nat) (lst st : List Value) (Sh : lc_Sh) (M : lc_M) (res : lc_Res), f d k pc lst st Sh M = some res → Sh.length ≤ res.2.1.length ∧ lc_sz Sh ≤ lc_sz res.2.1
theorem lc_if_or {α : Type} (c : ClassFile.Cond) (x y : Int32) (A B : α) : lc_if c x y A B = A ∨ lc_if c x y A B = B := by
  cases c <;> (unfold lc_if; dsimp only; split <;> simp)
theorem lc_sw_or {α : Type} (x : Int32) (d : Nat) (f : Nat → α) : ∀ (ts : List Nat) (j : Int32), ∃ t, lc_sw x j d f ts = f t
  | [], j => ⟨d, rfl⟩
  | t :: ts, j => by
    unfold lc_sw
    split
    · exact ⟨t, rfl⟩
    · exact lc_sw_or x d f ts (j + 1)
theorem lc_if_some {α : Type} {c : ClassFile.Cond} {x y : Int32} {A B : Option α} {r : α} (h : lc_if c x y A B = some r) : A = some r ∨ B = some r := by
  rcases lc_if_or c x y A B with q | q
  · exact Or.inl (by rw [← q]; exact h)
  · exact Or.inr (by rw [← q]; exact h)
theorem lc_sw_some {α : Type} {x j : Int32} {d : Nat} {f : Nat → Option α} {ts : List Nat} {r : α} (h : lc_sw x j d f ts = some r) : ∃ t, f t = some r := by
  obtain ⟨t, q⟩ := lc_sw_or x d f ts j
  exact ⟨t, by rw [← q]; exact h⟩
theorem lc_back_inv {n0 : Nat} {g : List Value → lc_Sh → lc_M → Option lc_Res} {st : List Value} {r : Option lc_Res} {res : lc_Res} (h : lc_back n0 g st r = some res) : ∃ (o : Option Value) (Sh' : lc_Sh) (M' : lc_M), r = some (o, Sh', M') ∧ Sh'.length = n0 ∧ (o = none ∨ ∃ x, o = some (.int x)) ∧ g (o.toList ++ st) Sh' M' = some res := by
  unfold lc_back at h
  split at h
  · rename_i Sh' M'
    cases hq : Nat.beq (List.length Sh') n0 with
    | false => rw [hq] at h; cases h
    | true => rw [hq] at h; exact ⟨_, Sh', M', rfl, Nat.eq_of_beq_eq_true hq, Or.inl rfl, h⟩
  · rename_i x Sh' M'
    cases hq : Nat.beq (List.length Sh') n0 with
    | false => rw [hq] at h; cases h
    | true => rw [hq] at h; exact ⟨_, Sh', M', rfl, Nat.eq_of_beq_eq_true hq, Or.inr ⟨x, rfl⟩, h⟩
  · cases h
theorem lc_backI_inv {n0 : Nat} {ok : Bool} {g : lc_Sh → lc_M → Option lc_Res} {r : Option lc_Res} {res : lc_Res} (h : lc_backI n0 ok g r = some res) : ∃ (Sh' : lc_Sh) (M' : lc_M), r = some (none, Sh', M') ∧ (Sh'.length = n0 ∨ ok = true) ∧ g Sh' M' = some res := by
  unfold lc_backI at h
  split at h
  · rename_i Sh' M'
    cases hq : (Nat.beq (List.length Sh') n0 || ok) with
    | false => rw [hq] at h; cases h
    | true =>
      rw [hq] at h
      rw [Bool.or_eq_true] at hq
      exact ⟨Sh', M', rfl, hq.imp (fun q => Nat.eq_of_beq_eq_true q) id, h⟩
  · cases h
theorem lc_bif {α : Type} {b : Bool} {x : Option α} {r : α} (h : (bif b then x else none) = some r) : b = true ∧ x = some r := by
  cases b with
  | false => cases h
  | true => exact ⟨rfl, h⟩
theorem lc_mo_getf {f : List Value → Option lc_Res} {a b : Nat} {st : List Value} {Sh : lc_Sh} {M : lc_M} {res : lc_Res} (h : lc_getf f a b st Sh M = some res) : ∃ st', f st' = some res := by
  unfold lc_getf at h
  split at h
  · split at h
    · obtain ⟨-, h⟩ := lc_bif h
      split at h
      · exact ⟨_, h⟩
      · exact ⟨_, h⟩
      · cases h
    · cases h
  · cases h
theorem lc_mo_putf {f : List Value → lc_Sh → lc_M → Option lc_Res} {a b : Nat} {st : List Value} {Sh : lc_Sh} {M : lc_M} {res : lc_Res} (h : lc_putf f a b st Sh M = some res) : ∃ st' Sh' M', f st' Sh' M' = some res ∧ Sh'.length = Sh.length ∧ lc_sz Sh' = lc_sz Sh := by
  unfold lc_putf at h
  split at h
  · split at h
    · obtain ⟨-, h⟩ := lc_bif h
      split at h
      · exact ⟨_, _, _, h, rfl, rfl⟩
      · cases h
    · cases h
  · split at h
    · rename_i hs
      obtain ⟨-, h⟩ := lc_bif h
      split at h
      · exact ⟨_, _, _, h, by simp, lc_sz_set _ _ _ _ hs (by simp [lc_size])⟩
      · exact ⟨_, _, _, h, by simp, lc_sz_set _ _ _ _ hs (by simp [lc_size])⟩
      · cases h
    · cases h
  · cases h
theorem lc_mo_ald {z : Bool} {f : List Value → Option lc_Res} {st : List Value} {Sh : lc_Sh} {M : lc_M} {res : lc_Res} (h : lc_ald z f st Sh M = some res) : ∃ st', f st' = some res := by
  unfold lc_ald at h
  split at h
  · split at h
    · obtain ⟨-, h⟩ := lc_bif h
      split at h
      · exact ⟨_, h⟩
      · cases h
    · cases h
  · cases h
theorem lc_mo_ast {z : Bool} {f : List Value → lc_M → Option lc_Res} {st : List Value} {Sh : lc_Sh} {M : lc_M} {res : lc_Res} (h : lc_ast z f st Sh M = some res) : ∃ st' M', f st' M' = some res := by
  unfold lc_ast at h
  split at h
  · split at h
    · obtain ⟨-, h⟩ := lc_bif h
      split at h
      · exact ⟨_, _, h⟩
      · cases h
    · cases h
  · cases h
theorem lc_mo_cpy {f : List Value → lc_M → Option lc_Res} {st : List Value} {Sh : lc_Sh} {M : lc_M} {res : lc_Res} (h : lc_cpy f st Sh M = some res) : ∃ st' M', f st' M' = some res := by
  unfold lc_cpy at h
  split at h
  · split at h
    · obtain ⟨-, h⟩ := lc_bif h
      split at h
      · exact ⟨_, _, h⟩
      · cases h
    · cases h
  · cases h
set_option maxHeartbeats 4000000 in
theorem lc_mo_body {f : lc_F} (hM : lc_Mo f) : lc_Mo (lc_body f) := by
  intro d k pc lst st Sh M res h
  unfold lc_body at h
  split at h
  · cases h
  · rename_i i a b v w pl ts hf
    split at h
    · exact hM _ _ _ _ _ _ _ _ h
    · split at h
      · split at h
        · split at h
          · cases h
          · exact hM _ _ _ _ _ _ _ _ h
        · cases h
      · split at h
        · split at h
          · cases h
          · exact hM _ _ _ _ _ _ _ _ h
        · cases h
      · split at h
        · split at h
          · cases h
          · exact hM _ _ _ _ _ _ _ _ h
        · cases h
      · split at h
        · split at h
          · cases h
          · exact hM _ _ _ _ _ _ _ _ h
        · cases h
      · split at h
        · rcases lc_if_some h with h | h
          · exact hM _ _ _ _ _ _ _ _ h
          · exact hM _ _ _ _ _ _ _ _ h
        · cases h
      · split at h
        · rcases lc_if_some h with h | h
          · exact hM _ _ _ _ _ _ _ _ h
          · exact hM _ _ _ _ _ _ _ _ h
        · cases h
      · exact hM _ _ _ _ _ _ _ _ h
      · split at h
        · obtain ⟨t, h⟩ := lc_sw_some h
          exact hM _ _ _ _ _ _ _ _ h
        · cases h
      · obtain ⟨st', h⟩ := lc_mo_getf h
        exact hM _ _ _ _ _ _ _ _ h
      · obtain ⟨st', Sh', M', h, e1, e2⟩ := lc_mo_putf h
        have := hM _ _ _ _ _ _ _ _ h
        rw [e1, e2] at this
        exact this
      · obtain ⟨st', h⟩ := lc_mo_ald h
        exact hM _ _ _ _ _ _ _ _ h
      · obtain ⟨st', h⟩ := lc_mo_ald h
        exact hM _ _ _ _ _ _ _ _ h
      · obtain ⟨st', M', h⟩ := lc_mo_ast h
        exact hM _ _ _ _ _ _ _ _ h
      · obtain ⟨st', M', h⟩ := lc_mo_ast h
        exact hM _ _ _ _ _ _ _ _ h
      · obtain ⟨-, h⟩ := lc_bif h
        have := hM _ _ _ _ _ _ _ _ h
        rw [lc_sz_app, List.length_append] at this
        exact ⟨by have := this.1; omega, by have := this.2; omega⟩
      · split at h
        · split at h
          · cases h
          · obtain ⟨-, h⟩ := lc_bif h
            split at h
            · have := hM _ _ _ _ _ _ _ _ h
              rw [lc_sz_app, List.length_append] at this
              exact ⟨by have := this.1; omega, by have := this.2; omega⟩
            · have := hM _ _ _ _ _ _ _ _ h
              rw [lc_sz_app, List.length_append] at this
              exact ⟨by have := this.1; omega, by have := this.2; omega⟩
            · cases h
        · cases h
      · split at h
        · cases h
        · split at h
          · split at h
            · exact hM _ _ _ _ _ _ _ _ (lc_bif h).2
            · cases h
          · split at h
            · obtain ⟨-, h⟩ := lc_bif h
              obtain ⟨Sh', M', e1, -, h⟩ := lc_backI_inv h
              have q1 := hM _ _ _ _ _ _ _ _ e1
              have q2 := hM _ _ _ _ _ _ _ _ h
              exact ⟨Nat.le_trans q1.1 q2.1, Nat.le_trans q1.2 q2.2⟩
            · cases h
          · cases h
      · split at h
        · cases h
        · split at h
          · split at h
            · obtain ⟨-, h⟩ := lc_bif h
              obtain ⟨o, Sh', M', e1, -, -, h⟩ := lc_back_inv h
              have q1 := hM _ _ _ _ _ _ _ _ e1
              have q2 := hM _ _ _ _ _ _ _ _ h
              exact ⟨Nat.le_trans q1.1 q2.1, Nat.le_trans q1.2 q2.2⟩
            · cases h
          · cases h
      · split at h
        · cases h
        · split at h
          · obtain ⟨st', M', h⟩ := lc_mo_cpy h
            exact hM _ _ _ _ _ _ _ _ h
          · split at h
            · exact hM _ _ _ _ _ _ _ _ (lc_bif h).2
            · cases h
          · split at h
            · exact hM _ _ _ _ _ _ _ _ (lc_bif h).2
            · cases h
          · split at h
            · obtain ⟨-, h⟩ := lc_bif h
              obtain ⟨o, Sh', M', e1, -, -, h⟩ := lc_back_inv h
              have q1 := hM _ _ _ _ _ _ _ _ e1
              have q2 := hM _ _ _ _ _ _ _ _ h
              exact ⟨Nat.le_trans q1.1 q2.1, Nat.le_trans q1.2 q2.2⟩
            · cases h
      · split at h
        · split at h
          · cases h; exact ⟨Nat.le_refl _, Nat.le_refl _⟩
          · split at h
            · cases h; exact ⟨Nat.le_refl _, Nat.le_refl _⟩
            · cases h
          · cases h
        · cases h
      · split at h
        · split at h
          · cases h; exact ⟨Nat.le_refl _, Nat.le_refl _⟩
          · cases h
        · cases h
      · cases h
