/-! sets as bits, changed; keep, goBack, undo -/
theorem bits_or {s : Int32} {n t : Nat} {P Q : Nat → Prop} (h : bitsOf s n P) (ht : t < 2 ^ n) (hq : ∀ y, y < n → (Q y ↔ P y ∨ t.testBit y = true)) : bitsOf (s ||| nI t) n Q := by
  obtain ⟨q, rfl, h2, h3⟩ := h
  refine ⟨q ||| t, nI_or q t, Nat.or_lt_two_pow h2 ht, fun y hy => ?_⟩
  rw [hq y hy, ← h3 y hy, Nat.testBit_or, Bool.or_eq_true]
theorem bits_and {s : Int32} {n t : Nat} {P Q : Nat → Prop} (h : bitsOf s n P) (hn : n ≤ 8) (hq : ∀ y, y < n → (Q y ↔ P y ∧ ¬ t.testBit y = true)) : bitsOf (s &&& (nI t ^^^ (-1))) n Q := by
  obtain ⟨q, rfl, h2, h3⟩ := h
  refine ⟨q &&& (t ^^^ 4294967295), by rw [nI_m1, nI_xor, nI_and], Nat.lt_of_le_of_lt Nat.and_le_left h2, fun y hy => ?_⟩
  have hb : (4294967295 : Nat).testBit y = true := by
    rw [show 4294967295 = 2 ^ 32 - 1 from rfl, Nat.testBit_two_pow_sub_one]
    simp; omega
  rw [hq y hy, ← h3 y hy, Nat.testBit_and, Nat.testBit_xor, hb]
  cases q.testBit y <;> cases t.testBit y <;> simp
theorem bits_ext {s : Int32} {n : Nat} {P Q : Nat → Prop} (h : bitsOf s n P) (hq : ∀ y, y < n → (Q y ↔ P y)) : bitsOf s n Q := by
  obtain ⟨q, h1, h2, h3⟩ := h
  exact ⟨q, h1, h2, fun y hy => by rw [hq y hy, h3 y hy]⟩
theorem bit_one {x y : Nat} : (2 ^ x).testBit y = true ↔ y = x := by
  rw [Nat.testBit_two_pow]
  simp
  exact eq_comm
theorem pow_lt {x n : Nat} (h : x < n) : 2 ^ x < 2 ^ n := Nat.pow_lt_pow_right (by decide) h
theorem v_hasB1 {d n x : Nat} {s : Int32} {P : Nat → Prop} {M : lc_M} (h : bitsOf s n P) (hn : n ≤ 8) (hx : x < n) (hp : P x) : lc_val d 106 0 [.int s, .int (nI x)] [] lc_SH M = some (some (.int 1), lc_SH, M) := by
  obtain ⟨q, rfl, h2, h3⟩ := h
  exact v_has1 (Nat.lt_of_lt_of_le h2 (pw256 hn)) (by omega) ((h3 x hx).mpr hp)
theorem v_hasB0 {d n x : Nat} {s : Int32} {P : Nat → Prop} {M : lc_M} (h : bitsOf s n P) (hn : n ≤ 8) (hx : x < n) (hp : ¬ P x) : lc_val d 106 0 [.int s, .int (nI x)] [] lc_SH M = some (some (.int 0), lc_SH, M) := by
  obtain ⟨q, rfl, h2, h3⟩ := h
  exact v_has0 (Nat.lt_of_lt_of_le h2 (pw256 hn)) (by omega) (fun z => hp ((h3 x hx).mp z))
/-! keep -/
theorem in2 {a : Int32} : ¬ vp_in a 2 → a < 0 ∨ ¬ a < 2 := fun h => by
  rcases vin_not (n := 2) (by decide) h with h1 | h1
  · exact Or.inl h1
  · exact Or.inr (fun z => by
      have h1' : (2 : Int32) ≤ a := h1
      rw [Int32.le_iff_toInt_le] at h1'
      rw [Int32.lt_iff_toInt_lt] at z
      omega)
def keepI (S : aSt) (i : Nat) : Nat → Option (aRow × Nat) := fun k => if k = i then some (sR S, sS S) else sI S k
theorem cUndo_nil {p : aPat} {h f : Nat → Int32} (h1 : h 1 = 0) (h2 : h 2 = 0) : cUndo p [] h f := ⟨0, by decide, h1, h2, fun j r hj => by cases hj⟩
theorem not01 {a : Int32} (h : ¬ vp_in a 2) : a.toInt < (0 : Int64).toInt ∨ (1 : Int64).toInt < a.toInt := by
  rw [L0, show (1 : Int64).toInt = 1 by decide]
  rcases in2 h with h1 | h1
  · left; rw [← lt0_iff]; exact h1
  · by_cases h0 : a < 0
    · left; rw [← lt0_iff]; exact h0
    · right
      have h1' : ¬ a < (2 : Int32) := h1
      rw [Int32.lt_iff_toInt_lt, show (2 : Int32).toInt = 2 by decide] at h1'
      omega
theorem op_keep (a : Int32) : opOK 104 187 [.int a] := by
  intro n S hn hv
  have hnx := hv.1.2.2.2.1
  have hul := hv.2.2.1.1
  by_cases h : vp_in a 2
  · obtain ⟨i, hi, rfl⟩ := vp_in_of h (by decide)
    refine ⟨1, stW S (sR S) [] (keepI S i) (sS S), ?_, fun M hM => ?_, fun M hM => ?_⟩
    · obtain ⟨v1, v2, v3, v4, v5⟩ := vSt_up hv
      refine ⟨v1, v2, ⟨show ([] : List aRow).length ≤ 30 by decide, fun r hr => by cases hr⟩, fun k r q hk => ?_, v5⟩
      have hk' : keepI S i k = some (r, q) := hk
      unfold keepI at hk'
      by_cases e : k = i
      · rw [if_pos e] at hk'
        injection hk' with hk'
        injection hk' with g1 g2
        subst g1; subst g2
        exact ⟨v2, v5.2.2.2⟩
      · rw [if_neg e] at hk'
        exact v4 k r q hk'
    · obtain ⟨M1, f1, f2, f3⟩ := v_store1 (d := 5) (M := M) hi
      refine ⟨lc_up (lc_up (lc_up (lc_up M1 24 i (nI (sS S))) 22 2 (M 22 2 ||| nI (2 ^ i))) 20 1 0) 20 2 0, ?_, ?_, fun c hc => by rw [up_ne (by omega), up_ne (by omega), up_ne (by omega), up_ne (by omega), f2 c (by omega)]⟩
      · show lc_val 8 104 0 [.ref 0, .int (nI i)] [] lc_SH M = _
        rw [sg_104_0_0, if_neg (nI_pos (by omega)), lc_it_val, sg_104_0_4, if_pos (show nI i < (2 : Int32) from nI_lt (b := 2) hi (by decide)), sg_14_0_0, f1, lc_bk0, sg_14_0_9, if_pos (nI_in hi (by decide)), nI_clamp (by omega), shl_1 i (by omega), f2 22 (by decide), hM.2.2.2.2.2.2.2.2, lc_bk0, sg_104_0_28, sg_66_0_0, lc_bk0, sg_104_0_35]
      · refine repC_W hM (fun c hc => by rw [up_ne (by omega), up_ne (by omega), up_ne (by omega), up_ne (by omega), f2 c (by omega)]) ?_ (cUndo_nil rfl rfl) ?_ ?_
        · rw [up_ne (c := 16) (by decide), up_ne (c := 16) (by decide), up_ne (c := 16) (by decide), up_ne (c := 16) (by decide), up_ne (c := 17) (by decide), up_ne (c := 17) (by decide), up_ne (c := 17) (by decide), up_ne (c := 17) (by decide), up_ne (c := 18) (by decide), up_ne (c := 18) (by decide), up_ne (c := 18) (by decide), up_ne (c := 18) (by decide), up_ne (c := 19) (by decide), up_ne (c := 19) (by decide), up_ne (c := 19) (by decide), up_ne (c := 19) (by decide), f2 16 (by decide), f2 17 (by decide), f2 18 (by decide), f2 19 (by decide)]
          exact hM.2.1
        · rw [up_ne (c := 22) (by decide), up_ne (c := 22) (by decide), up_ne (c := 23) (by decide), up_ne (c := 23) (by decide), up_ne (c := 23) (by decide), up_ne (c := 23) (by decide), up_ne (c := 24) (by decide), up_ne (c := 24) (by decide), up_ne (c := 24) (by decide)]
          refine ⟨?_, fun k r q hk hq => ?_⟩
          · rw [up_at, if_pos rfl, if_pos rfl]
            refine bits_or hM.2.2.2.1.1 (pow_lt hi) (fun y hy => ?_)
            unfold keepI
            rw [bit_one]
            by_cases e : y = i
            · rw [if_pos e]; simp [e]
            · rw [if_neg e]; simp [e]
          · unfold keepI at hq
            rw [up_at, if_pos rfl]
            by_cases e : k = i
            · rw [if_pos e] at hq
              injection hq with hq
              injection hq with g1 g2
              subst g1; subst g2; subst e
              rw [if_pos rfl]
              refine ⟨?_, rfl⟩
              rw [Nat.mul_comm]
              exact sto_row hnx hM.2.1 f3
            · rw [if_neg e] at hq
              rw [if_neg e, f2 24 (by decide)]
              obtain ⟨g1, g2⟩ := hM.2.2.2.1.2 k r q hk hq
              exact ⟨cRowAt_ext hnx g1 (fun j a1 a2 => by rw [f3, stoF_out (by omega)]), g2⟩
        · rw [up_ne (by decide), up_ne (by decide), up_ne (by decide), up_ne (by decide), f2 0 (by decide)]
          exact hM.2.2.2.2.2.2.2.2
    · have g1 : (60 : Int32) + 30 * nI i = nI (60 + 30 * i) := by rw [show (30 : Int32) * nI i = nI (30 * i) from pk_mul 30 i]; exact nI_add 60 _
      obtain ⟨M1, f1, f2, f3, f4⟩ := v_copyM (d := 7) (M := M) (a := 0) (b := 60 + 30 * i) (by omega) (by omega) (by omega)
      refine ⟨lc_up (lc_up M1 45 i 1) 43 22 0, ?_, ?_, fun c hc => by rw [up_ne (by omega), up_ne (by omega), f2 c (by omega)]⟩
      · show lc_val 8 187 0 [.ref 43, .int (nI i)] [] lc_SH M = _
        rw [sg_187_0_0, v_in1 (by rw [L0, nI_toInt (by omega)]; omega) (by rw [nI_toInt (by omega), show (1 : Int64).toInt = 1 by decide]; omega), lc_bk1, sg_187_0_7, if_pos (by decide), g1, show (.int 0 : Value) = .int (nI 0) from rfl, f1, lc_bk0, sg_187_0_25, if_pos (nI_in hi (by decide)), nI_clamp (by omega)]
      · have lo : ∀ j, (j < 60 + 30 * i ∨ 60 + 30 * i + 30 ≤ j) → lc_up (lc_up M1 45 i 1) 43 22 0 44 j = M 44 j := fun j hj => by rw [up_ne (by decide), up_ne (by decide), f3 j hj]
        refine repM_W hM (fun c hc => by rw [up_ne (by omega), up_ne (by omega), f2 c (by omega)]) (fun k hk => by rw [up_at, if_pos rfl, if_neg (by omega), up_ne (by decide), f2 43 (by decide)]) ?_ ⟨by rw [up_at, if_pos rfl, if_pos rfl]; rfl, fun j r hj => by cases hj⟩ ⟨fun k hk => ?_, fun k r q hk hq => ?_⟩ ?_
        · exact mRowAt_fr hnx hM.2.1 (fun j a1 a2 => lo j (by omega))
        · rw [up_ne (by decide), up_at, if_pos rfl]
          unfold keepI
          by_cases e : k = i
          · rw [if_pos e, if_pos e]; rfl
          · rw [if_neg e, if_neg e, f2 45 (by decide)]; exact hM.2.2.2.1.1 k hk
        · unfold keepI at hq
          by_cases e : k = i
          · rw [if_pos e] at hq
            injection hq with hq
            injection hq with g1 g2
            subst g1; subst g2; subst e
            have e44 : lc_up (lc_up M1 45 k 1) 43 22 0 44 = M1 44 := by rw [up_ne (by decide), up_ne (by decide)]
            rw [e44]
            refine ⟨mRowAt_cp hnx hM.2.1 (fun j hj => by rw [f4 j hj]), ?_⟩
            rw [f4 29 (by omega)]
            exact hM.2.2.2.2.2.2.2.2
          · rw [if_neg e] at hq
            obtain ⟨g1, g2⟩ := hM.2.2.2.1.2 k r q hk hq
            exact ⟨mRowAt_fr hnx g1 (fun j a1 a2 => lo j (by omega)), by rw [lo _ (by omega)]; exact g2⟩
        · rw [lo 29 (by omega)]
          exact hM.2.2.2.2.2.2.2.2
  · refine ⟨-1000000001, S, vSt_up hv, fun M hM => ⟨M, ?_, hM, fun _ _ => rfl⟩, fun M hM => ⟨M, ?_, hM, fun _ _ => rfl⟩⟩
    · show lc_val 8 104 0 [.ref 0, .int a] [] lc_SH M = _
      rw [sg_104_0_0]
      by_cases h0 : a < 0
      · rw [if_pos h0]
      · rw [if_neg h0, lc_it_val, sg_104_0_4, if_neg ((in2 h).resolve_left h0)]
    · show lc_val 8 187 0 [.ref 43, .int a] [] lc_SH M = _
      rw [sg_187_0_0, v_in0 (not01 h), lc_bk1, sg_187_0_7, if_neg (by decide)]
/-! goBack -/
theorem op_goBack (a : Int32) : opOK 105 188 [.int a] := by
  intro n S hn hv
  have hnx := hv.1.2.2.2.1
  by_cases h : vp_in a 2
  · obtain ⟨i, hi, rfl⟩ := vp_in_of h (by decide)
    cases hI : sI S i with
    | none =>
      refine ⟨-1000000003, S, vSt_up hv, fun M hM => ⟨M, ?_, hM, fun _ _ => rfl⟩, fun M hM => ⟨M, ?_, hM, fun _ _ => rfl⟩⟩
      · show lc_val 8 105 0 [.ref 0, .int (nI i)] [] lc_SH M = _
        rw [sg_105_0_0, if_neg (nI_pos (by omega)), lc_it_val, sg_105_0_4, if_pos (show nI i < (2 : Int32) from nI_lt (b := 2) hi (by decide)), v_hasB0 hM.2.2.2.1.1 (by decide) hi (by rw [hI]; decide), lc_bk1, sg_105_0_23, if_neg (by decide)]
      · show lc_val 8 188 0 [.ref 43, .int (nI i)] [] lc_SH M = _
        rw [sg_188_0_0, v_in1 (by rw [L0, nI_toInt (by omega)]; omega) (by rw [nI_toInt (by omega), show (1 : Int64).toInt = 1 by decide]; omega), lc_bk1, sg_188_0_7, if_pos (by decide), lc_it_val, sg_188_0_13, if_pos (nI_in hi (by decide)), nI_clamp (by omega), hM.2.2.2.1.1 i hi, hI]
        rfl
    | some rq =>
      obtain ⟨r, q⟩ := rq
      refine ⟨1, stW S r [] (sI S) q, ?_, fun M hM => ?_, fun M hM => ?_⟩
      · obtain ⟨v1, v2, v3, v4, v5⟩ := vSt_up hv
        exact ⟨v1, (v4 i r q hI).1, ⟨show ([] : List aRow).length ≤ 30 by decide, fun r hr => by cases hr⟩, v4, v5.1, v5.2.1, v5.2.2.1, (v4 i r q hI).2⟩
      · obtain ⟨M1, f1, f2, f3⟩ := v_load1 (d := 5) (M := M) hi
        obtain ⟨g1, g2⟩ := hM.2.2.2.1.2 i r q hi hI
        refine ⟨lc_up (lc_up (lc_up M1 0 11 (nI q)) 20 1 0) 20 2 0, ?_, ?_, fun c hc => by rw [up_ne (by omega), up_ne (by omega), up_ne (by omega), f2 c (by omega) (by omega) (by omega) (by omega)]⟩
        · show lc_val 8 105 0 [.ref 0, .int (nI i)] [] lc_SH M = _
          rw [sg_105_0_0, if_neg (nI_pos (by omega)), lc_it_val, sg_105_0_4, if_pos (show nI i < (2 : Int32) from nI_lt (b := 2) hi (by decide)), v_hasB1 hM.2.2.2.1.1 (by decide) hi (by rw [hI]; rfl), lc_bk1, sg_105_0_23, if_pos (by decide), sg_15_0_0, f1, lc_bk0, sg_15_0_9, lc_bk0, sg_105_0_41, if_pos (nI_in hi (by decide)), nI_clamp (by omega), f2 24 (by decide) (by decide) (by decide) (by decide), g2, sg_66_0_0, lc_bk0, sg_105_0_61]
        · refine repC_W hM (fun c hc => by rw [up_ne (by omega), up_ne (by omega), up_ne (by omega), f2 c (by omega) (by omega) (by omega) (by omega)]) ?_ (cUndo_nil rfl rfl) ?_ ?_
          · rw [up_ne (c := 16) (by decide), up_ne (c := 16) (by decide), up_ne (c := 16) (by decide), up_ne (c := 17) (by decide), up_ne (c := 17) (by decide), up_ne (c := 17) (by decide), up_ne (c := 18) (by decide), up_ne (c := 18) (by decide), up_ne (c := 18) (by decide), up_ne (c := 19) (by decide), up_ne (c := 19) (by decide), up_ne (c := 19) (by decide)]
            exact f3 _ _ hnx g1
          · rw [up_ne (c := 22) (by decide), up_ne (c := 22) (by decide), up_ne (c := 22) (by decide), up_ne (c := 23) (by decide), up_ne (c := 23) (by decide), up_ne (c := 23) (by decide), up_ne (c := 24) (by decide), up_ne (c := 24) (by decide), up_ne (c := 24) (by decide), f2 22 (by decide) (by decide) (by decide) (by decide), f2 23 (by decide) (by decide) (by decide) (by decide), f2 24 (by decide) (by decide) (by decide) (by decide)]
            exact hM.2.2.2.1
          · rw [up_ne (by decide), up_ne (by decide), up_at, if_pos rfl, if_pos rfl]
      · have g1 : (60 : Int32) + 30 * nI i = nI (60 + 30 * i) := by rw [show (30 : Int32) * nI i = nI (30 * i) from pk_mul 30 i]; exact nI_add 60 _
        obtain ⟨M1, f1, f2, f3, f4⟩ := v_copyM (d := 7) (M := M) (a := 60 + 30 * i) (b := 0) (by omega) (by omega) (by omega)
        obtain ⟨q1, q2⟩ := hM.2.2.2.1.2 i r q hi hI
        refine ⟨lc_up M1 43 22 0, ?_, ?_, fun c hc => by rw [up_ne (by omega), f2 c (by omega)]⟩
        · show lc_val 8 188 0 [.ref 43, .int (nI i)] [] lc_SH M = _
          rw [sg_188_0_0, v_in1 (by rw [L0, nI_toInt (by omega)]; omega) (by rw [nI_toInt (by omega), show (1 : Int64).toInt = 1 by decide]; omega), lc_bk1, sg_188_0_7, if_pos (by decide), lc_it_val, sg_188_0_13, if_pos (nI_in hi (by decide)), nI_clamp (by omega), hM.2.2.2.1.1 i hi, hI, show (if (some (r, q)).isSome = true then (1 : Int32) else 0) = 1 from rfl, if_pos (by decide), lc_it_val, sg_188_0_25, g1, show (.int 0 : Value) = .int (nI 0) from rfl, f1, lc_bk0, sg_188_0_37]
        · have lo : ∀ j, 30 ≤ j → lc_up M1 43 22 0 44 j = M 44 j := fun j hj => by rw [up_ne (by decide), f3 j (by omega)]
          have e44 : lc_up M1 43 22 0 44 = M1 44 := up_ne (by decide)
          refine repM_W hM (fun c hc => by rw [up_ne (by omega), f2 c (by omega)]) (fun k hk => by rw [up_at, if_pos rfl, if_neg (by omega), f2 43 (by decide)]) ?_ ⟨by rw [up_at, if_pos rfl, if_pos rfl]; rfl, fun j r hj => by cases hj⟩ ⟨fun k hk => ?_, fun k r q hk hq => ?_⟩ ?_
          · rw [e44]
            exact mRowAt_cp hnx q1 (fun j hj => f4 j hj)
          · rw [up_ne (by decide), f2 45 (by decide)]; exact hM.2.2.2.1.1 k hk
          · obtain ⟨g1, g2⟩ := hM.2.2.2.1.2 k r q hk hq
            exact ⟨mRowAt_fr hnx g1 (fun j a1 a2 => lo j (by omega)), by rw [lo _ (by omega)]; exact g2⟩
          · rw [e44, show (29 : Nat) = 0 + 29 from rfl, f4 29 (by omega)]
            exact q2
  · refine ⟨-1000000001, S, vSt_up hv, fun M hM => ⟨M, ?_, hM, fun _ _ => rfl⟩, fun M hM => ⟨M, ?_, hM, fun _ _ => rfl⟩⟩
    · show lc_val 8 105 0 [.ref 0, .int a] [] lc_SH M = _
      rw [sg_105_0_0]
      by_cases h0 : a < 0
      · rw [if_pos h0]
      · rw [if_neg h0, lc_it_val, sg_105_0_4, if_neg ((in2 h).resolve_left h0)]
    · show lc_val 8 188 0 [.ref 43, .int a] [] lc_SH M = _
      rw [sg_188_0_0, v_in0 (not01 h), lc_bk1, sg_188_0_7, if_neg (by decide)]
/-! undo -/
theorem op_undo (a : Int32) : opOK 85 155 [.int a] := by
  intro n S hn hv
  have hnx := hv.1.2.2.2.1
  have hul := hv.2.2.1.1
  by_cases h1 : a < 1
  · refine ⟨-1000000002, S, vSt_up hv, fun M hM => ⟨M, ?_, hM, fun _ _ => rfl⟩, fun M hM => ⟨M, ?_, hM, fun _ _ => rfl⟩⟩
    · show lc_val 8 85 0 [.ref 0, .int a] [] lc_SH M = _
      rw [sg_85_0_0, if_pos h1]
    · show lc_val 8 155 0 [.ref 43, .int a, .null] [] lc_SH M = _
      rw [sg_155_0_0, v_in0 (Or.inl (by rw [show (1 : Int64).toInt = 1 by decide]; rw [Int32.lt_iff_toInt_lt] at h1; exact h1)), lc_bk1, sg_155_0_9, if_neg (by decide)]
  by_cases h2 : a ≤ 30
  · obtain ⟨k, hk, rfl⟩ : ∃ k : Nat, k ≤ 30 ∧ a = nI k := nI_of2 (M := 30) rfl (fun z => h1 (by rw [Int32.lt_iff_toInt_lt] at z ⊢; rw [show (1 : Int32).toInt = 1 by decide]; rw [show (0 : Int32).toInt = 0 by decide] at z; omega)) h2
    have hk1 : 1 ≤ k := by
      rcases Nat.eq_zero_or_pos k with e | e
      · subst e; exact absurd (by decide) h1
      · exact e
    have hin : lc_val 7 116 0 [.long (Int32.toInt64 (nI k)), .null, .long 1, .null, .long 30, .null] [] lc_SH = fun M => some (some (.int 1), lc_SH, M) := by
      funext M
      exact v_in1 (by rw [show (1 : Int64).toInt = 1 by decide, nI_toInt (by omega)]; omega) (by rw [nI_toInt (by omega), show (30 : Int64).toInt = 30 by decide]; omega)
    by_cases h3 : k ≤ (sU S).length
    · obtain ⟨r, hr⟩ : ∃ r, (sU S)[k - 1]? = some r := ⟨_, List.getElem?_eq_getElem (by omega)⟩
      have hlen : ((sU S).drop k).length = (sU S).length - k := List.length_drop
      refine ⟨nI (rT r), stW S r ((sU S).drop k) (sI S) (sS S), ?_, fun M hM => ?_, fun M hM => ?_⟩
      · obtain ⟨v1, v2, v3, v4, v5⟩ := vSt_up hv
        refine ⟨v1, v3.2 r (List.mem_of_getElem? hr), ⟨?_, fun t ht => v3.2 t (List.mem_of_mem_drop ht)⟩, v4, v5⟩
        show ((sU S).drop k).length ≤ 30
        omega
      · obtain ⟨nxt, q1, q2, q3, q4⟩ := hM.2.2.1
        have hslot : ∃ s, s < 30 ∧ s = (nxt + 30 - k) % 30 := ⟨_, Nat.mod_lt _ (by decide), rfl⟩
        obtain ⟨s, hs, hse⟩ := hslot
        obtain ⟨M1, f1, f2, f3⟩ := v_load0 (d := 5) (M := lc_up (lc_up M 20 1 (nI s)) 20 2 (nI ((sU S).length - k))) hs
        have hsub : nI (sU S).length - nI k = nI ((sU S).length - k) := (Int32.ofNat_sub _ _ h3).symm
        have hrow : cRowAt (sP S) r (M 21) (24 * s) := by
          have := q4 (k - 1) r hr
          rwa [show (nxt + 29 - (k - 1)) % 30 = s by omega] at this
        refine ⟨M1, ?_, ?_, fun c hc => by rw [f2 c (by omega) (by omega) (by omega) (by omega), up_ne (by omega), up_ne (by omega)]⟩
        · have hcr := f3 (sP S) r hnx (by rw [up_ne (by decide), up_ne (by decide)]; exact hrow)
          show lc_val 8 85 0 [.ref 0, .int (nI k)] [] lc_SH M = _
          rw [sg_85_0_0, if_neg h1, lc_it_val, sg_85_0_5, if_pos h2, lc_it_val, sg_85_0_14, q3, if_pos (nI_le h3 (by omega)), sg_68_0_0, q2]
          by_cases e : nxt < k
          · have hs2 : nI nxt - nI k + 30 = nI s := by
              have : nI nxt + 30 - nI k = nI (nxt + 30 - k) := by rw [show nI nxt + 30 = nI (nxt + 30) from nI_add nxt 30]; exact (Int32.ofNat_sub _ _ (by omega)).symm
              rw [show s = nxt + 30 - k by omega, ← this]
              rw [Int32.sub_eq_add_neg, Int32.sub_eq_add_neg, Int32.add_assoc, Int32.add_assoc, Int32.add_comm (-nI k) 30]
            rw [if_pos (nI_lt e (by omega)), hs2, sg_68_0_27, q3, hsub, f1, lc_bk0, sg_68_0_52, lc_bk0, sg_85_0_40, hcr.1]
          · have hs2 : nI nxt - nI k = nI s := by
              rw [show s = nxt - k by omega]
              exact (Int32.ofNat_sub _ _ (by omega)).symm
            rw [if_neg (nI_nlt (by omega) (by omega)), lc_it_val, hs2, sg_68_0_27, q3, hsub, f1, lc_bk0, sg_68_0_52, lc_bk0, sg_85_0_40, hcr.1]
        · have e20 : M1 20 = lc_up (lc_up M 20 1 (nI s)) 20 2 (nI ((sU S).length - k)) 20 := f2 20 (by decide) (by decide) (by decide) (by decide)
          have e21 : M1 21 = M 21 := by rw [f2 21 (by decide) (by decide) (by decide) (by decide), up_ne (by decide), up_ne (by decide)]
          refine repC_W hM (fun c hc => by rw [f2 c (by omega) (by omega) (by omega) (by omega), up_ne (by omega), up_ne (by omega)]) ?_ ⟨s, hs, ?_, ?_, fun j t ht => ?_⟩ ?_ ?_
          · exact f3 (sP S) r hnx (by rw [up_ne (by decide), up_ne (by decide)]; exact hrow)
          · rw [e20, up_at, if_pos rfl, if_neg (by decide), up_at, if_pos rfl, if_pos rfl]
          · rw [e20, up_at, if_pos rfl, if_pos rfl, hlen]
          · rw [e21]
            rw [List.getElem?_drop] at ht
            have hl : k + j < (sU S).length := (List.getElem?_eq_some_iff.mp ht).1
            have := q4 (k + j) t ht
            rwa [show (nxt + 29 - (k + j)) % 30 = (s + 29 - j) % 30 by omega] at this
          · rw [f2 22 (by decide) (by decide) (by decide) (by decide), f2 23 (by decide) (by decide) (by decide) (by decide), f2 24 (by decide) (by decide) (by decide) (by decide), up_ne (c := 22) (by decide), up_ne (c := 22) (by decide), up_ne (c := 23) (by decide), up_ne (c := 23) (by decide), up_ne (c := 24) (by decide), up_ne (c := 24) (by decide)]
            exact hM.2.2.2.1
          · rw [f2 0 (by decide) (by decide) (by decide) (by decide), up_ne (by decide), up_ne (by decide)]
            exact hM.2.2.2.2.2.2.2.2
      · obtain ⟨q1, q2⟩ := hM.2.2.1
        have hsub : nI (sU S).length - nI k = nI ((sU S).length - k) := (Int32.ofNat_sub _ _ h3).symm
        have g1 : (120 : Int32) + 30 * nI ((sU S).length - k) = nI (120 + 30 * ((sU S).length - k)) := by rw [show (30 : Int32) * nI ((sU S).length - k) = nI (30 * ((sU S).length - k)) from pk_mul 30 _]; exact nI_add 120 _
        obtain ⟨M1, f1, f2, f3, f4⟩ := v_copyM (d := 7) (M := lc_up M 43 22 (nI ((sU S).length - k))) (a := 120 + 30 * ((sU S).length - k)) (b := 0) (by omega) (by omega) (by omega)
        have hrow : mRowAt (sP S) r (M 44) (120 + 30 * ((sU S).length - k)) := by
          have := q2 (k - 1) r hr
          rwa [show (sU S).length - 1 - (k - 1) = (sU S).length - k by omega] at this
        have hrow1 : mRowAt (sP S) r (M1 44) 0 := mRowAt_cp hnx hrow (fun j hj => by rw [f4 j hj, up_ne (by decide)])
        have e44 : ∀ j, j ≠ 29 → lc_up M1 44 29 (M 44 29) 44 j = M1 44 j := fun j hj => by rw [up_at, if_pos rfl, if_neg hj]
        refine ⟨lc_up M1 44 29 (M 44 29), ?_, ?_, fun c hc => by rw [up_ne (by omega), f2 c (by omega), up_ne (by omega)]⟩
        · show lc_val 8 155 0 [.ref 43, .int (nI k), .null] [] lc_SH M = _
          rw [sg_155_0_0, hin, lc_bk1, sg_155_0_9, if_pos (by decide), lc_it_val, sg_155_0_15, q1, if_pos (nI_le h3 (by omega)), lc_it_val, sg_155_0_26, q1, hsub, sg_155_0_44, up_at, if_pos rfl, if_pos rfl, g1, show (.int 0 : Value) = .int (nI 0) from rfl, f1, lc_bk0, sg_155_0_59, show M1 44 28 = nI (rT r) from hrow1.2.2.2.2]
        · have lo : ∀ j, 30 ≤ j → lc_up M1 44 29 (M 44 29) 44 j = M 44 j := fun j hj => by rw [e44 j (by omega), f3 j (by omega), up_ne (by decide)]
          refine repM_W hM (fun c hc => by rw [up_ne (by omega), f2 c (by omega), up_ne (by omega)]) (fun i hi => by rw [up_ne (by decide), f2 43 (by decide), up_at, if_pos rfl, if_neg (by omega)]) ?_ ⟨?_, fun j t ht => ?_⟩ ⟨fun i hi => ?_, fun i r q hi hq => ?_⟩ ?_
          · exact mRowAt_fr hnx hrow1 (fun j a1 a2 => e44 j (by omega))
          · rw [up_ne (by decide), f2 43 (by decide), up_at, if_pos rfl, if_pos rfl, hlen]
          · rw [List.getElem?_drop] at ht
            have hl : k + j < (sU S).length := (List.getElem?_eq_some_iff.mp ht).1
            rw [hlen, show (sU S).length - k - 1 - j = (sU S).length - 1 - (k + j) by omega]
            exact mRowAt_fr hnx (q2 (k + j) t ht) (fun i a1 a2 => lo i (by omega))
          · rw [up_ne (by decide), f2 45 (by decide), up_ne (by decide)]; exact hM.2.2.2.1.1 i hi
          · obtain ⟨g1, g2⟩ := hM.2.2.2.1.2 i r q hi hq
            exact ⟨mRowAt_fr hnx g1 (fun j a1 a2 => lo j (by omega)), by rw [lo _ (by omega)]; exact g2⟩
          · rw [up_at, if_pos rfl, if_pos rfl]
            exact hM.2.2.2.2.2.2.2.2
    · refine ⟨-1000000003, S, vSt_up hv, fun M hM => ⟨M, ?_, hM, fun _ _ => rfl⟩, fun M hM => ⟨M, ?_, hM, fun _ _ => rfl⟩⟩
      · obtain ⟨nxt, q1, q2, q3, q4⟩ := hM.2.2.1
        show lc_val 8 85 0 [.ref 0, .int (nI k)] [] lc_SH M = _
        rw [sg_85_0_0, if_neg h1, lc_it_val, sg_85_0_5, if_pos h2, lc_it_val, sg_85_0_14, q3, if_neg (nI_ge (by omega) (by omega))]
      · show lc_val 8 155 0 [.ref 43, .int (nI k), .null] [] lc_SH M = _
        rw [sg_155_0_0, hin, lc_bk1, sg_155_0_9, if_pos (by decide), lc_it_val, sg_155_0_15, hM.2.2.1.1, if_neg (nI_ge (by omega) (by omega))]
  · refine ⟨-1000000002, S, vSt_up hv, fun M hM => ⟨M, ?_, hM, fun _ _ => rfl⟩, fun M hM => ⟨M, ?_, hM, fun _ _ => rfl⟩⟩
    · show lc_val 8 85 0 [.ref 0, .int a] [] lc_SH M = _
      rw [sg_85_0_0, if_neg h1, lc_it_val, sg_85_0_5, if_neg h2]
    · show lc_val 8 155 0 [.ref 43, .int a, .null] [] lc_SH M = _
      rw [sg_155_0_0, v_in0 (Or.inr (by rw [show (30 : Int64).toInt = 30 by decide]; rw [Int32.le_iff_toInt_le, show (30 : Int32).toInt = 30 by decide] at h2; omega)), lc_bk1, sg_155_0_9, if_neg (by decide)]
