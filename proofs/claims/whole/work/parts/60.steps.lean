/-! the invariant at the start, and each call keeps it -/
theorem lc_allOK : ∀ o ∈ lc_ops, ∀ a0 a1 : Int32, opOK o.2.2.2.2.1 o.2.2.2.2.2.2.2 (lc_ints o.1 a0 a1) := by
  intro o ho a0 a1
  unfold lc_ops at ho
  rcases List.mem_cons.mp ho with h | ho
  · rw [h]; exact op_feed a0
  rcases List.mem_cons.mp ho with h | ho
  · rw [h]; exact op_town
  rcases List.mem_cons.mp ho with h | ho
  · rw [h]; exact op_fault
  rcases List.mem_cons.mp ho with h | ho
  · rw [h]; exact op_told a0
  rcases List.mem_cons.mp ho with h | ho
  · rw [h]; exact op_maker a0 a1
  rcases List.mem_cons.mp ho with h | ho
  · rw [h]; exact op_crossing a0 a1
  rcases List.mem_cons.mp ho with h | ho
  · rw [h]; exact op_ring a0
  rcases List.mem_cons.mp ho with h | ho
  · rw [h]; exact op_hangUp a0
  rcases List.mem_cons.mp ho with h | ho
  · rw [h]; exact op_minute a0
  rcases List.mem_cons.mp ho with h | ho
  · rw [h]; exact op_wrongNumber a0 a1
  rcases List.mem_cons.mp ho with h | ho
  · rw [h]; exact op_drift a0
  rcases List.mem_cons.mp ho with h | ho
  · rw [h]; exact op_undo a0
  rcases List.mem_cons.mp ho with h | ho
  · rw [h]; exact op_soonest a0
  rcases List.mem_cons.mp ho with h | ho
  · rw [h]; exact op_lines a0
  rcases List.mem_cons.mp ho with h | ho
  · rw [h]; exact op_chain a0
  rcases List.mem_cons.mp ho with h | ho
  · rw [h]; exact op_window a0 a1
  rcases List.mem_cons.mp ho with h | ho
  · rw [h]; exact op_gone a0
  rcases List.mem_cons.mp ho with h | ho
  · rw [h]; exact op_share a0
  rcases List.mem_cons.mp ho with h | ho
  · rw [h]; exact op_engaged a0 a1
  rcases List.mem_cons.mp ho with h | ho
  · rw [h]; exact op_gossip a0 a1
  rcases List.mem_cons.mp ho with h | ho
  · rw [h]; exact op_lies a0 a1
  rcases List.mem_cons.mp ho with h | ho
  · rw [h]; exact op_wentWrong a0
  rcases List.mem_cons.mp ho with h | ho
  · rw [h]; exact op_sure
  rcases List.mem_cons.mp ho with h | ho
  · rw [h]; exact op_look
  rcases List.mem_cons.mp ho with h | ho
  · rw [h]; exact op_strange a0
  rcases List.mem_cons.mp ho with h | ho
  · rw [h]; exact op_ears a0
  rcases List.mem_cons.mp ho with h | ho
  · rw [h]; exact op_write a0 a1
  rcases List.mem_cons.mp ho with h | ho
  · rw [h]; exact op_judge
  rcases List.mem_cons.mp ho with h | ho
  · rw [h]; exact op_tear
  rcases List.mem_cons.mp ho with h | ho
  · rw [h]; exact op_seed a0
  rcases List.mem_cons.mp ho with h | ho
  · rw [h]; exact op_keep a0
  rcases List.mem_cons.mp ho with h | ho
  · rw [h]; exact op_goBack a0
  cases ho
theorem lc_hst : lc_Steps lc_Inv := fun n hn j o ho a0 a1 M hI => opOK_step (lc_allOK o (List.mem_of_getElem? ho) a0 a1) hn hI
theorem vSt_0 : vSt 0 aSt0 := by
  refine ⟨⟨Nat.zero_le _, Nat.zero_le _, Nat.zero_le _, Nat.zero_le _, fun _ => ⟨rfl, rfl⟩, fun m hm => absurd hm (Nat.not_lt_zero m), fun x hx => absurd hx (Nat.not_lt_zero x), fun x _ hx => absurd hx (Nat.not_lt_zero x)⟩, ⟨Nat.zero_le _, fun x hx => absurd hx (Nat.not_lt_zero x), fun x hx => absurd hx (Nat.not_lt_zero x), fun x hx => absurd hx (Nat.not_lt_zero x), fun m hm => Nat.zero_lt_succ 5, fun _ _ => Nat.zero_le _, fun x _ hx => absurd hx (Nat.not_lt_zero x)⟩, ⟨Nat.zero_le _, fun r hr => by cases hr⟩, fun i r q z => (by cases z), ⟨Nat.zero_le _, fun c hc => by cases hc⟩, ⟨Nat.zero_le _, fun c hc => by cases hc⟩, ⟨Nat.zero_le _, fun c hc => by cases hc⟩, by decide⟩
theorem mem0_z {c j : Nat} (h : ¬ (c = 1 ∧ j = 3) ∧ ¬ (c = 33 ∧ j = 0) ∧ ¬ (c = 36 ∧ j = 0) ∧ ¬ (c = 43 ∧ j = 20)) : lc_mem0 c j = 0 := by
  unfold lc_mem0
  rw [if_neg h.1, if_neg h.2.1, if_neg h.2.2.1, if_neg h.2.2.2]
theorem lc_h0 : ∀ M : lc_M, (∀ c cl, lc_SH[c]? = some cl → ∀ j, j < lc_size cl → M c j = lc_mem0 c j) → lc_Inv 0 M := by
  intro M h
  have z : ∀ c cl j, lc_SH[c]? = some cl → j < lc_size cl → (¬ (c = 1 ∧ j = 3) ∧ ¬ (c = 33 ∧ j = 0) ∧ ¬ (c = 36 ∧ j = 0) ∧ ¬ (c = 43 ∧ j = 20)) → M c j = 0 := fun c cl j h1 h2 h3 => (h c cl h1 j h2).trans (mem0_z h3)
  have z6 : ∀ m, m < 6 → M 18 m = 0 ∧ M 19 m = 0 := fun m hm => ⟨z 18 _ m rfl hm (by omega), z 19 _ m rfl hm (by omega)⟩
  have z44 : ∀ j, j < 1020 → M 44 j = 0 := fun j hj => z 44 _ j rfl hj (by omega)
  refine ⟨aSt0, vSt_0, ⟨⟨?_, ?_, ?_, ?_, fun m hm => absurd hm (Nat.not_lt_zero m), fun x hx => absurd hx (Nat.not_lt_zero x)⟩, ⟨?_, ?_, ?_, ?_, fun x hx => absurd hx (Nat.not_lt_zero x), fun m hm => (z6 m hm).1, fun m hm => (z6 m hm).2⟩, ⟨0, by decide, ?_, ?_, fun j r hj => by cases hj⟩, ⟨?_, fun i r q _ w => by cases w⟩, ⟨?_, fun j c hj => by cases hj⟩, ?_, ⟨?_, ?_, fun j x y hj => by cases hj⟩, ⟨?_, ?_, fun j x y hj => by cases hj⟩, ?_⟩, ⟨⟨?_, ?_, ?_, ?_, fun m hm => absurd hm (Nat.not_lt_zero m), fun x hx => absurd hx (Nat.not_lt_zero x)⟩, ⟨fun m hm => z44 _ (by omega), fun m hm => z44 _ (by omega), fun x hx => absurd hx (Nat.not_lt_zero x), fun x hx => absurd hx (Nat.not_lt_zero x), z44 _ (by omega)⟩, ⟨?_, fun j r hj => by cases hj⟩, ⟨fun i hi => ?_, fun i r q _ w => by cases w⟩, ⟨?_, fun j c hj => by cases hj⟩, ?_, ⟨?_, fun j x y hj => by cases hj⟩, ⟨?_, fun j x y hj => by cases hj⟩, z44 29 (by omega)⟩⟩
  · exact z 9 _ 0 rfl (by decide) (by decide)
  · exact z 9 _ 1 rfl (by decide) (by decide)
  · exact z 9 _ 2 rfl (by decide) (by decide)
  · exact z 9 _ 3 rfl (by decide) (by decide)
  · exact z 16 _ 1 rfl (by decide) (by decide)
  · rw [z 16 _ 2 rfl (by decide) (by decide)]; exact bits0 (fun x hx => absurd hx (Nat.not_lt_zero x))
  · rw [z 16 _ 3 rfl (by decide) (by decide)]; exact bits0 (fun x hx => absurd hx (Nat.not_lt_zero x))
  · rw [z 16 _ 4 rfl (by decide) (by decide)]; exact bits0 (fun m _ ⟨x, hx, _⟩ => absurd hx (Nat.not_lt_zero x))
  · exact z 20 _ 1 rfl (by decide) (by decide)
  · exact z 20 _ 2 rfl (by decide) (by decide)
  · rw [z 22 _ 2 rfl (by decide) (by decide)]; exact bits0 (fun i _ w => by cases w)
  · exact z 1 _ 1 rfl (by decide) (by decide)
  · exact h 1 _ rfl 3 (by decide)
  · exact h 33 _ rfl 0 (by decide)
  · exact z 33 _ 3 rfl (by decide) (by decide)
  · exact h 36 _ rfl 0 (by decide)
  · exact z 36 _ 3 rfl (by decide) (by decide)
  · exact z 0 _ 11 rfl (by decide) (by decide)
  · exact z 43 _ 2 rfl (by decide) (by decide)
  · exact z 43 _ 3 rfl (by decide) (by decide)
  · exact z 43 _ 4 rfl (by decide) (by decide)
  · exact z 43 _ 5 rfl (by decide) (by decide)
  · exact z 43 _ 22 rfl (by decide) (by decide)
  · exact z 45 _ i rfl hi (by omega)
  · exact z 43 _ 16 rfl (by decide) (by decide)
  · exact h 43 _ rfl 20 (by decide)
  · exact z 43 _ 28 rfl (by decide) (by decide)
  · exact z 43 _ 32 rfl (by decide) (by decide)
