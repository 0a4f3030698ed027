/-! what a run comes to, without counting steps -/
def lc_le (f g : lc_F) : Prop := ∀ (d k pc : Nat) (ls st : List Value) (Sh : lc_Sh) (M : lc_M) (r : lc_Res), f d k pc ls st Sh M = some r → g d k pc ls st Sh M = some r
theorem lc_back_of {n0 : Nat} {g : List Value → lc_Sh → lc_M → Option lc_Res} {st : List Value} {o : Option Value} {Sh' : lc_Sh} {M' : lc_M} {res : lc_Res} (h1 : Sh'.length = n0) (ho : o = none ∨ ∃ x, o = some (.int x)) (h : g (o.toList ++ st) Sh' M' = some res) : lc_back n0 g st (some (o, Sh', M')) = some res := by
  have hq : Nat.beq (List.length Sh') n0 = true := by rw [h1]; exact Nat.beq_refl n0
  rcases ho with rfl | ⟨x, rfl⟩
  · show (bif Nat.beq (List.length Sh') n0 then _ else none) = _
    rw [hq]; exact h
  · show (bif Nat.beq (List.length Sh') n0 then _ else none) = _
    rw [hq]; exact h
theorem lc_backI_of {n0 : Nat} {ok : Bool} {g : lc_Sh → lc_M → Option lc_Res} {Sh' : lc_Sh} {M' : lc_M} {res : lc_Res} (hok : Sh'.length = n0 ∨ ok = true) (h : g Sh' M' = some res) : lc_backI n0 ok g (some (none, Sh', M')) = some res := by
  have hq : (Nat.beq (List.length Sh') n0 || ok) = true := by
    rcases hok with q | q
    · rw [q, Nat.beq_refl]; rfl
    · rw [q, Bool.or_true]
  show (bif (Nat.beq (List.length Sh') n0 || ok) then _ else none) = _
  rw [hq]; exact h
/-- a body of two runs, one at least as far as the other: the same roads -/
theorem lc_le_body {f g : lc_F} (hle : lc_le f g) : lc_le (lc_body f) (lc_body g) := by
  intro d k pc ls st Sh M r
  unfold lc_body
  split
  · exact id
  · rename_i i a b v w pl ts hf
    split
    · exact hle _ _ _ _ _ _ _ _
    · split
      · split
        · split
          · exact id
          · exact hle _ _ _ _ _ _ _ _
        · exact id
      · split
        · split
          · exact id
          · exact hle _ _ _ _ _ _ _ _
        · exact id
      · split
        · split
          · exact id
          · exact hle _ _ _ _ _ _ _ _
        · exact id
      · split
        · split
          · exact id
          · exact hle _ _ _ _ _ _ _ _
        · exact id
      · rename_i cd _ _
        split
        · cases cd <;> (simp only [lc_if]; split <;> exact hle _ _ _ _ _ _ _ _)
        · exact id
      · rename_i cd _ _
        split
        · cases cd <;> (simp only [lc_if]; split <;> exact hle _ _ _ _ _ _ _ _)
        · exact id
      · exact hle _ _ _ _ _ _ _ _
      · split
        · rename_i x st0 _
          have key : ∀ (ts : List Nat) (j : Int32), lc_sw x j b (fun t => f d k t ls st0 Sh M) ts = some r → lc_sw x j b (fun t => g d k t ls st0 Sh M) ts = some r := by
            intro ts
            induction ts with
            | nil => intro j; exact hle _ _ _ _ _ _ _ _
            | cons t ts ih =>
              intro j
              simp only [lc_sw]
              split
              · exact hle _ _ _ _ _ _ _ _
              · exact ih (j + 1)
          exact key ts 0
        · exact id
      · unfold lc_getf
        split
        · split
          · intro h
            obtain ⟨h0, h⟩ := lc_bif h
            rw [h0]
            revert h
            dsimp only [cond_true]
            split
            · exact hle _ _ _ _ _ _ _ _
            · exact hle _ _ _ _ _ _ _ _
            · exact id
          · exact id
        · exact id
      · unfold lc_putf
        split
        · split
          · intro h
            obtain ⟨h0, h⟩ := lc_bif h
            rw [h0]
            revert h
            dsimp only [cond_true]
            split
            · exact hle _ _ _ _ _ _ _ _
            · exact id
          · exact id
        · split
          · intro h
            obtain ⟨h0, h⟩ := lc_bif h
            rw [h0]
            revert h
            dsimp only [cond_true]
            split
            · exact hle _ _ _ _ _ _ _ _
            · exact hle _ _ _ _ _ _ _ _
            · exact id
          · exact id
        · exact id
      · unfold lc_ald
        split
        · split
          · intro h
            obtain ⟨h0, h⟩ := lc_bif h
            rw [h0]
            revert h
            dsimp only [cond_true]
            split
            · exact hle _ _ _ _ _ _ _ _
            · exact id
          · exact id
        · exact id
      · unfold lc_ald
        split
        · split
          · intro h
            obtain ⟨h0, h⟩ := lc_bif h
            rw [h0]
            revert h
            dsimp only [cond_true]
            split
            · exact hle _ _ _ _ _ _ _ _
            · exact id
          · exact id
        · exact id
      · unfold lc_ast
        split
        · split
          · intro h
            obtain ⟨h0, h⟩ := lc_bif h
            rw [h0]
            revert h
            dsimp only [cond_true]
            split
            · exact hle _ _ _ _ _ _ _ _
            · exact id
          · exact id
        · exact id
      · unfold lc_ast
        split
        · split
          · intro h
            obtain ⟨h0, h⟩ := lc_bif h
            rw [h0]
            revert h
            dsimp only [cond_true]
            split
            · exact hle _ _ _ _ _ _ _ _
            · exact id
          · exact id
        · exact id
      · intro h
        obtain ⟨h0, h⟩ := lc_bif h
        rw [h0]
        exact hle _ _ _ _ _ _ _ _ h
      · split
        · split
          · exact id
          · intro h
            obtain ⟨h0, h⟩ := lc_bif h
            rw [h0]
            revert h
            dsimp only [cond_true]
            split
            · exact hle _ _ _ _ _ _ _ _
            · exact hle _ _ _ _ _ _ _ _
            · exact id
        · exact id
      · split
        · exact id
        · split
          · split
            · intro h
              obtain ⟨h0, h⟩ := lc_bif h
              rw [h0]
              exact hle _ _ _ _ _ _ _ _ h
            · exact id
          · split
            · intro h
              obtain ⟨h0, h⟩ := lc_bif h
              rw [h0]
              obtain ⟨Sh', M', h1, hok, h⟩ := lc_backI_inv h
              rw [hle _ _ _ _ _ _ _ _ h1]
              exact lc_backI_of hok (hle _ _ _ _ _ _ _ _ h)
            · exact id
          · exact id
      · split
        · exact id
        · split
          · split
            · intro h
              obtain ⟨h0, h⟩ := lc_bif h
              rw [h0]
              obtain ⟨o, Sh', M', h1, hok, ho, h⟩ := lc_back_inv h
              rw [hle _ _ _ _ _ _ _ _ h1]
              exact lc_back_of hok ho (hle _ _ _ _ _ _ _ _ h)
            · exact id
          · exact id
      · split
        · exact id
        · split
          · unfold lc_cpy
            split
            · split
              · intro h
                obtain ⟨h0, h⟩ := lc_bif h
                rw [h0]
                revert h
                dsimp only [cond_true]
                split
                · exact hle _ _ _ _ _ _ _ _
                · exact id
              · exact id
            · exact id
          · split
            · intro h
              obtain ⟨h0, h⟩ := lc_bif h
              rw [h0]
              exact hle _ _ _ _ _ _ _ _ h
            · exact id
          · split
            · intro h
              obtain ⟨h0, h⟩ := lc_bif h
              rw [h0]
              exact hle _ _ _ _ _ _ _ _ h
            · exact id
          · split
            · intro h
              obtain ⟨h0, h⟩ := lc_bif h
              rw [h0]
              obtain ⟨o, Sh', M', h1, hok, ho, h⟩ := lc_back_inv h
              rw [hle _ _ _ _ _ _ _ _ h1]
              exact lc_back_of hok ho (hle _ _ _ _ _ _ _ _ h)
            · exact id
      · exact id
      · exact id
      · exact id
theorem lc_le_succ : ∀ n, lc_le (lc_run n) (lc_run (n + 1))
  | 0 => fun _ _ _ _ _ _ _ _ h => by cases h
  | n + 1 => lc_le_body (lc_le_succ n)
theorem lc_le_add (n : Nat) : ∀ j, lc_le (lc_run n) (lc_run (n + j))
  | 0 => fun _ _ _ _ _ _ _ _ h => h
  | j + 1 => fun d k pc ls st Sh M r h => lc_le_succ (n + j) d k pc ls st Sh M r (lc_le_add n j d k pc ls st Sh M r h)
theorem lc_cont {f : lc_F} {F : Nat → lc_F} (hF : ∀ n j, lc_le (F n) (F (n + j))) (hv : ∀ (d k pc : Nat) (ls st : List Value) (Sh : lc_Sh) (M : lc_M) (r : lc_Res), f d k pc ls st Sh M = some r → ∃ n, F n d k pc ls st Sh M = some r) (d k pc : Nat) (ls st : List Value) (Sh : lc_Sh) (M : lc_M) (r : lc_Res) : lc_body f d k pc ls st Sh M = some r → ∃ n, lc_body (F n) d k pc ls st Sh M = some r := by
  unfold lc_body
  split
  · exact fun h => ⟨0, h⟩
  · rename_i i a b v w pl ts hf
    split
    · exact hv _ _ _ _ _ _ _ _
    · split
      · split
        · split
          · exact fun h => ⟨0, h⟩
          · exact hv _ _ _ _ _ _ _ _
        · exact fun h => ⟨0, h⟩
      · split
        · split
          · exact fun h => ⟨0, h⟩
          · exact hv _ _ _ _ _ _ _ _
        · exact fun h => ⟨0, h⟩
      · split
        · split
          · exact fun h => ⟨0, h⟩
          · exact hv _ _ _ _ _ _ _ _
        · exact fun h => ⟨0, h⟩
      · split
        · split
          · exact fun h => ⟨0, h⟩
          · exact hv _ _ _ _ _ _ _ _
        · exact fun h => ⟨0, h⟩
      · rename_i cd _ _
        split
        · cases cd <;> (simp only [lc_if]; split <;> exact hv _ _ _ _ _ _ _ _)
        · exact fun h => ⟨0, h⟩
      · rename_i cd _ _
        split
        · cases cd <;> (simp only [lc_if]; split <;> exact hv _ _ _ _ _ _ _ _)
        · exact fun h => ⟨0, h⟩
      · exact hv _ _ _ _ _ _ _ _
      · split
        · rename_i x st0 _
          have key : ∀ (ts : List Nat) (j : Int32), lc_sw x j b (fun t => f d k t ls st0 Sh M) ts = some r → ∃ n, lc_sw x j b (fun t => F n d k t ls st0 Sh M) ts = some r := by
            intro ts
            induction ts with
            | nil => intro j; exact hv _ _ _ _ _ _ _ _
            | cons t ts ih =>
              intro j
              simp only [lc_sw]
              split
              · exact hv _ _ _ _ _ _ _ _
              · exact ih (j + 1)
          exact key ts 0
        · exact fun h => ⟨0, h⟩
      · unfold lc_getf
        split
        · split
          · intro h
            obtain ⟨h0, h⟩ := lc_bif h
            rw [h0]
            revert h
            dsimp only [cond_true]
            split
            · exact hv _ _ _ _ _ _ _ _
            · exact hv _ _ _ _ _ _ _ _
            · exact fun h => ⟨0, h⟩
          · exact fun h => ⟨0, h⟩
        · exact fun h => ⟨0, h⟩
      · unfold lc_putf
        split
        · split
          · intro h
            obtain ⟨h0, h⟩ := lc_bif h
            rw [h0]
            revert h
            dsimp only [cond_true]
            split
            · exact hv _ _ _ _ _ _ _ _
            · exact fun h => ⟨0, h⟩
          · exact fun h => ⟨0, h⟩
        · split
          · intro h
            obtain ⟨h0, h⟩ := lc_bif h
            rw [h0]
            revert h
            dsimp only [cond_true]
            split
            · exact hv _ _ _ _ _ _ _ _
            · exact hv _ _ _ _ _ _ _ _
            · exact fun h => ⟨0, h⟩
          · exact fun h => ⟨0, h⟩
        · exact fun h => ⟨0, h⟩
      · unfold lc_ald
        split
        · split
          · intro h
            obtain ⟨h0, h⟩ := lc_bif h
            rw [h0]
            revert h
            dsimp only [cond_true]
            split
            · exact hv _ _ _ _ _ _ _ _
            · exact fun h => ⟨0, h⟩
          · exact fun h => ⟨0, h⟩
        · exact fun h => ⟨0, h⟩
      · unfold lc_ald
        split
        · split
          · intro h
            obtain ⟨h0, h⟩ := lc_bif h
            rw [h0]
            revert h
            dsimp only [cond_true]
            split
            · exact hv _ _ _ _ _ _ _ _
            · exact fun h => ⟨0, h⟩
          · exact fun h => ⟨0, h⟩
        · exact fun h => ⟨0, h⟩
      · unfold lc_ast
        split
        · split
          · intro h
            obtain ⟨h0, h⟩ := lc_bif h
            rw [h0]
            revert h
            dsimp only [cond_true]
            split
            · exact hv _ _ _ _ _ _ _ _
            · exact fun h => ⟨0, h⟩
          · exact fun h => ⟨0, h⟩
        · exact fun h => ⟨0, h⟩
      · unfold lc_ast
        split
        · split
          · intro h
            obtain ⟨h0, h⟩ := lc_bif h
            rw [h0]
            revert h
            dsimp only [cond_true]
            split
            · exact hv _ _ _ _ _ _ _ _
            · exact fun h => ⟨0, h⟩
          · exact fun h => ⟨0, h⟩
        · exact fun h => ⟨0, h⟩
      · intro h
        obtain ⟨h0, h⟩ := lc_bif h
        rw [h0]
        exact hv _ _ _ _ _ _ _ _ h
      · split
        · split
          · exact fun h => ⟨0, h⟩
          · intro h
            obtain ⟨h0, h⟩ := lc_bif h
            rw [h0]
            revert h
            dsimp only [cond_true]
            split
            · exact hv _ _ _ _ _ _ _ _
            · exact hv _ _ _ _ _ _ _ _
            · exact fun h => ⟨0, h⟩
        · exact fun h => ⟨0, h⟩
      · split
        · exact fun h => ⟨0, h⟩
        · split
          · split
            · intro h
              obtain ⟨h0, h⟩ := lc_bif h
              rw [h0]
              exact hv _ _ _ _ _ _ _ _ h
            · exact fun h => ⟨0, h⟩
          · split
            · intro h
              obtain ⟨h0, h⟩ := lc_bif h
              rw [h0]
              obtain ⟨Sh', M', h1, hok, h⟩ := lc_backI_inv h
              obtain ⟨n1, q1⟩ := hv _ _ _ _ _ _ _ _ h1
              obtain ⟨n2, q2⟩ := hv _ _ _ _ _ _ _ _ h
              refine ⟨n1 + n2, ?_⟩
              rw [hF n1 n2 _ _ _ _ _ _ _ _ q1]
              exact lc_backI_of hok (by rw [Nat.add_comm]; exact hF n2 n1 _ _ _ _ _ _ _ _ q2)
            · exact fun h => ⟨0, h⟩
          · exact fun h => ⟨0, h⟩
      · split
        · exact fun h => ⟨0, h⟩
        · split
          · split
            · intro h
              obtain ⟨h0, h⟩ := lc_bif h
              rw [h0]
              obtain ⟨o, Sh', M', h1, hok, ho, h⟩ := lc_back_inv h
              obtain ⟨n1, q1⟩ := hv _ _ _ _ _ _ _ _ h1
              obtain ⟨n2, q2⟩ := hv _ _ _ _ _ _ _ _ h
              refine ⟨n1 + n2, ?_⟩
              rw [hF n1 n2 _ _ _ _ _ _ _ _ q1]
              exact lc_back_of hok ho (by rw [Nat.add_comm]; exact hF n2 n1 _ _ _ _ _ _ _ _ q2)
            · exact fun h => ⟨0, h⟩
          · exact fun h => ⟨0, h⟩
      · split
        · exact fun h => ⟨0, h⟩
        · split
          · unfold lc_cpy
            split
            · split
              · intro h
                obtain ⟨h0, h⟩ := lc_bif h
                rw [h0]
                revert h
                dsimp only [cond_true]
                split
                · exact hv _ _ _ _ _ _ _ _
                · exact fun h => ⟨0, h⟩
              · exact fun h => ⟨0, h⟩
            · exact fun h => ⟨0, h⟩
          · split
            · intro h
              obtain ⟨h0, h⟩ := lc_bif h
              rw [h0]
              exact hv _ _ _ _ _ _ _ _ h
            · exact fun h => ⟨0, h⟩
          · split
            · intro h
              obtain ⟨h0, h⟩ := lc_bif h
              rw [h0]
              exact hv _ _ _ _ _ _ _ _ h
            · exact fun h => ⟨0, h⟩
          · split
            · intro h
              obtain ⟨h0, h⟩ := lc_bif h
              rw [h0]
              obtain ⟨o, Sh', M', h1, hok, ho, h⟩ := lc_back_inv h
              obtain ⟨n1, q1⟩ := hv _ _ _ _ _ _ _ _ h1
              obtain ⟨n2, q2⟩ := hv _ _ _ _ _ _ _ _ h
              refine ⟨n1 + n2, ?_⟩
              rw [hF n1 n2 _ _ _ _ _ _ _ _ q1]
              exact lc_back_of hok ho (by rw [Nat.add_comm]; exact hF n2 n1 _ _ _ _ _ _ _ _ q2)
            · exact fun h => ⟨0, h⟩
      · exact fun h => ⟨0, h⟩
      · exact fun h => ⟨0, h⟩
      · exact fun h => ⟨0, h⟩
/-- the answer of a frame; none where no number of steps comes to one -/
noncomputable def lc_val : lc_F := fun d k pc ls st Sh M => @dite _ (∃ n r, lc_run n d k pc ls st Sh M = some r) (Classical.propDecidable _) (fun h => lc_run (Classical.choose h) d k pc ls st Sh M) (fun _ => none)
theorem lc_val_run {d k pc : Nat} {ls st : List Value} {Sh : lc_Sh} {M : lc_M} {r : lc_Res} (h : lc_val d k pc ls st Sh M = some r) : ∃ n, lc_run n d k pc ls st Sh M = some r := by
  unfold lc_val at h
  by_cases q : ∃ n r, lc_run n d k pc ls st Sh M = some r
  · rw [dif_pos q] at h
    exact ⟨_, h⟩
  · rw [dif_neg q] at h
    cases h
theorem lc_val_of {n d k pc : Nat} {ls st : List Value} {Sh : lc_Sh} {M : lc_M} {r : lc_Res} (h : lc_run n d k pc ls st Sh M = some r) : lc_val d k pc ls st Sh M = some r := by
  unfold lc_val
  have q : ∃ n r, lc_run n d k pc ls st Sh M = some r := ⟨n, r, h⟩
  rw [dif_pos q]
  obtain ⟨r2, h2⟩ := Classical.choose_spec q
  have e1 := lc_le_add n (Classical.choose q) _ _ _ _ _ _ _ _ h
  have e2 := lc_le_add (Classical.choose q) n _ _ _ _ _ _ _ _ h2
  rw [Nat.add_comm] at e2
  rw [h2, ← e2, e1]
theorem lc_val_fix : lc_val = lc_body lc_val := by
  funext d k pc ls st Sh M
  have up : ∀ r, lc_body lc_val d k pc ls st Sh M = some r → lc_val d k pc ls st Sh M = some r := by
    intro r h
    obtain ⟨n, h⟩ := lc_cont (F := lc_run) lc_le_add (fun d k pc ls st Sh M r h => lc_val_run h) d k pc ls st Sh M r h
    exact lc_val_of (n := n + 1) h
  have down : ∀ r, lc_val d k pc ls st Sh M = some r → lc_body lc_val d k pc ls st Sh M = some r := by
    intro r h
    obtain ⟨n, h⟩ := lc_val_run h
    cases n with
    | zero => cases h
    | succ n => exact lc_le_body (fun d k pc ls st Sh M r h => lc_val_of h) d k pc ls st Sh M r h
  cases h1 : lc_val d k pc ls st Sh M with
  | some r => exact (down r h1).symm
  | none =>
    cases h2 : lc_body lc_val d k pc ls st Sh M with
    | none => rfl
    | some r => rw [up r h2] at h1; cases h1
/-- so many steps ahead -/
def lc_it : Nat → lc_F → lc_F
  | 0, f => f
  | n + 1, f => lc_body (lc_it n f)
theorem lc_it_val : ∀ n, lc_it n lc_val = lc_val
  | 0 => rfl
  | n + 1 => by
    show lc_body (lc_it n lc_val) = lc_val
    rw [lc_it_val n]
    exact lc_val_fix.symm
