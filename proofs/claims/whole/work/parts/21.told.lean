/-! told, maker, crossing, share -/
theorem sw_hit {α : Type} {j t d : Nat} {f : Nat → α} {ts : List Nat} (hts : ts.length < 100) (h : ts[j]? = some t) : lc_sw (nI j) 0 d f ts = f t := by
  have hj : j < ts.length := (List.getElem?_eq_some_iff.mp h).1
  rcases lc_sw_at (nI j) d f ts 0 with ⟨n, t', h1, h2, h3⟩ | ⟨h1, h2⟩
  · have hn : n < ts.length := (List.getElem?_eq_some_iff.mp h1).1
    rw [Nat.zero_add] at h2
    have : j = n := (nI_eq (by omega) (by omega)).mp h2
    subst this
    rw [h1] at h
    cases h
    exact h3
  · exact absurd (by rw [Nat.zero_add]) (h1 j hj)
theorem sw_out {α : Type} {d : Nat} {a : Int32} {f : Nat → α} {ts : List Nat} (hts : ts.length < 100) (h : ¬ vp_in a ts.length) : lc_sw a 0 d f ts = f d := by
  rcases lc_sw_at a d f ts 0 with ⟨n, t', h1, h2, h3⟩ | ⟨h1, h2⟩
  · have hn : n < ts.length := (List.getElem?_eq_some_iff.mp h1).1
    rw [Nat.zero_add] at h2
    rw [h2] at h
    exact absurd (vp_in_nI hn (by omega)) h
  · exact h2
def sumP (f : Nat → Nat) : Nat → Nat
  | 0 => 0
  | n + 1 => sumP f n + f n
theorem sumP_le {f : Nat → Nat} {B : Nat} : ∀ {n : Nat}, (∀ m, m < n → f m ≤ B) → sumP f n ≤ B * n
  | 0, _ => Nat.zero_le _
  | n + 1, h => by
    rw [sumP, Nat.mul_succ]
    exact Nat.add_le_add (sumP_le (fun m hm => h m (by omega))) (h n (by omega))
theorem v_paidC {d nm : Nat} {M : lc_M} {f : Nat → Nat} (hm : M 9 2 = nI nm) (hn : nm ≤ 6) (hp : ∀ m, m < 6 → M 19 m = nI (f m)) : ∀ (k i : Nat), i + k = nm → lc_val d 20 4 [.ref 15, .int (nI (sumP f i)), .int (nI i)] [] lc_SH M = some (some (.int (nI (sumP f nm))), lc_SH, M)
  | 0, i, h => by rw [sg_20_0_4, hm, if_pos (nI_le (by omega) (by omega)), show i = nm by omega]
  | k + 1, i, h => by
    rw [sg_20_0_4, hm, if_neg (nI_ge (by omega) (by omega)), lc_it_val, sg_20_0_15, if_pos (nI_in (by omega) (by decide)), nI_clamp (by omega), hp i (by omega), nI_add, nI_1]
    exact v_paidC hm hn hp k (i + 1) (by omega)
theorem v_paidC0 {d nm : Nat} {M : lc_M} {f : Nat → Nat} (hm : M 9 2 = nI nm) (hn : nm ≤ 6) (hp : ∀ m, m < 6 → M 19 m = nI (f m)) : lc_val d 20 0 [.ref 15, .null, .null] [] lc_SH M = some (some (.int (nI (sumP f nm))), lc_SH, M) := by
  rw [sg_20_0_0]
  exact v_paidC hm hn hp nm 0 (by omega)
theorem v_paidM {d nm : Nat} {M : lc_M} {f : Nat → Nat} (hm : M 43 4 = nI nm) (hn : nm ≤ 6) (hp : ∀ m, m < 6 → M 44 (6 + m) = nI (f m)) : ∀ (k i : Nat), i + k = nm → lc_val d 135 4 [.ref 43, .int (nI (sumP f i)), .int (nI i)] [] lc_SH M = some (some (.int (nI (sumP f nm))), lc_SH, M)
  | 0, i, h => by rw [sg_135_0_4, hm, if_pos (nI_le (by omega) (by omega)), show i = nm by omega]
  | k + 1, i, h => by
    rw [sg_135_0_4, hm, if_neg (nI_ge (by omega) (by omega)), lc_it_val, sg_135_0_12, show (6 : Int32) = nI 6 from rfl, nI_add, if_pos (nI_in (by omega) (by decide)), nI_clamp (by omega), hp i (by omega), nI_add, nI_1]
    exact v_paidM hm hn hp k (i + 1) (by omega)
theorem v_paidM0 {d nm : Nat} {M : lc_M} {f : Nat → Nat} (hm : M 43 4 = nI nm) (hn : nm ≤ 6) (hp : ∀ m, m < 6 → M 44 (6 + m) = nI (f m)) : lc_val d 135 0 [.ref 43, .null, .null] [] lc_SH M = some (some (.int (nI (sumP f nm))), lc_SH, M) := by
  rw [sg_135_0_0]
  exact v_paidM hm hn hp nm 0 (by omega)
theorem open_bs {p : aPat} {r : aRow} (hx : pNx p ≤ 8) (hh : ∀ x, x < pNx p → rHow r x ≤ 2) : (nI (2 ^ pNx p - 1) &&& (nI (bs (wayB r 1) (pNx p)) ^^^ (-1))) &&& (nI (bs (wayB r 2) (pNx p)) ^^^ (-1)) = nI (bs (wayB r 0) (pNx p)) := by
  rw [nI_m1, nI_xor, nI_xor, nI_and, nI_and]
  congr 1
  apply Nat.eq_of_testBit_eq
  intro x
  rw [Nat.testBit_and, Nat.testBit_and, Nat.testBit_xor, Nat.testBit_xor, full_bit, bs_bit, bs_bit, bs_bit, show 4294967295 = 2 ^ 32 - 1 by decide, full_bit]
  by_cases h : x < pNx p
  · have h2 : x < 32 := by omega
    have h3 := hh x h
    have h4 : rHow r x = 0 ∨ rHow r x = 1 ∨ rHow r x = 2 := by omega
    rcases h4 with e | e | e <;> simp [h, h2, wayB, e]
  · simp [h]
theorem v_openC {d : Nat} {p : aPat} {r : aRow} {M : lc_M} {en pi pa : Nat → Int32} {mi bu : Int32} (h3 : M 9 3 = nI (pNx p)) (hx : pNx p ≤ 8) (hh : ∀ x, x < pNx p → rHow r x ≤ 2) (hr : cRow p r mi (M 16 2) (M 16 3) bu en pi pa) : lc_val (d + 1) 3 0 [.ref 16] [] lc_SH M = some (some (.int (nI (bs (wayB r 0) (pNx p)))), lc_SH, M) := by
  rw [sg_3_0_0, sg_34_0_0, h3, full_b _ hx, lc_bk1, sg_3_0_7, ru_bs hr, dn_bs hr, open_bs hx hh]
theorem v_inWay0 {d w : Nat} {p : aPat} {r : aRow} {M : lc_M} (h3 : M 43 5 = nI (pNx p)) (hx : pNx p ≤ 8) (hh : ∀ x, x < pNx p → rHow r x ≤ 2) (hr : mRowAt p r (M 44) 0) (hw : w ≤ 2) : lc_val (d + 1) 134 0 [.ref 43, .int 0, .int (nI w), .null, .null] [] lc_SH M = some (some (.int (nI (bs (wayB r w) (pNx p)))), lc_SH, M) := by
  rw [sg_134_0_0]
  exact v_inWay (d := d) (at0 := 0) h3 hx (by omega) (fun x h => ⟨hr.2.2.1 x h, hh x h⟩) hw (pNx p) 0 (by omega)
theorem v_inWayZ {d : Nat} {p : aPat} {r : aRow} {M : lc_M} (h3 : M 43 5 = nI (pNx p)) (hx : pNx p ≤ 8) (hh : ∀ x, x < pNx p → rHow r x ≤ 2) (hr : mRowAt p r (M 44) 0) : lc_val (d + 1) 134 0 [.ref 43, .int 0, .int 0, .null, .null] [] lc_SH M = some (some (.int (nI (bs (wayB r 0) (pNx p)))), lc_SH, M) := v_inWay0 (w := 0) h3 hx hh hr (by decide)
theorem op_told (a : Int32) : opOK 77 136 [.int a] := by
  refine opOK_const (fun n S hn hv => ?_)
  have hnm : pNm (sP S) ≤ 6 := hv.1.2.2.1
  have hnx : pNx (sP S) ≤ 8 := hv.1.2.2.2.1
  have hhow := hv.2.1.2.1
  by_cases h : vp_in a 13
  · obtain ⟨j, hj, rfl⟩ := vp_in_of h (by decide)
    have key : ∀ (t1 t2 : Nat) (r : Int32), [68, 76, 84, 92, 100, 108, 119, 130, 141, 152, 160, 168, 176][j]? = some t1 → [68, 73, 78, 83, 88, 93, 101, 108, 115, 122, 127, 132, 137][j]? = some t2 →
        (∀ M, repC S M → lc_val 8 77 t1 [.ref 0, .int (nI j)] [] lc_SH M = some (some (.int r), lc_SH, M)) → (∀ M, repM S M → lc_val 8 136 t2 [.ref 43, .int (nI j)] [] lc_SH M = some (some (.int r), lc_SH, M)) →
        ∃ r : Int32, (∀ M, repC S M → ∃ M1, lc_val 8 77 0 (lc_ent 77 (.ref 0 :: [.int (nI j)])) [] lc_SH M = some (some (.int r), lc_SH, M1) ∧ repC S M1 ∧ ∀ c, 43 ≤ c → M1 c = M c) ∧ (∀ M, repM S M → ∃ M2, lc_val 8 136 0 (lc_ent 136 (.ref 43 :: [.int (nI j)])) [] lc_SH M = some (some (.int r), lc_SH, M2) ∧ repM S M2 ∧ ∀ c, c < 43 → M2 c = M c) := by
      intro t1 t2 r e1 e2 h1 h2
      refine ⟨r, fun M hM => ⟨M, ?_, hM, fun _ _ => rfl⟩, fun M hM => ⟨M, ?_, hM, fun _ _ => rfl⟩⟩
      · show lc_val 8 77 0 [.ref 0, .int (nI j)] [] lc_SH M = _
        rw [sg_77_0_0, sw_hit (by decide) e1]
        exact h1 M hM
      · show lc_val 8 136 0 [.ref 43, .int (nI j)] [] lc_SH M = _
        rw [sg_136_0_0, sw_hit (by decide) e2]
        exact h2 M hM
    match j, hj with
    | 0, _ => exact key 68 68 (nI (pLn (sP S))) rfl rfl (fun M hM => by rw [sg_77_0_68, hM.1.1]) (fun M hM => by rw [sg_136_0_68]; rw [show M 43 2 = nI (pLn (sP S)) from hM.1.1])
    | 1, _ => exact key 76 73 (nI (pCo (sP S))) rfl rfl (fun M hM => by rw [sg_77_0_76, hM.1.2.1]) (fun M hM => by rw [sg_136_0_73]; rw [show M 43 3 = nI (pCo (sP S)) from hM.1.2.1])
    | 2, _ => exact key 84 78 (nI (pNm (sP S))) rfl rfl (fun M hM => by rw [sg_77_0_84, hM.1.2.2.1]) (fun M hM => by rw [sg_136_0_78]; rw [show M 43 4 = nI (pNm (sP S)) from hM.1.2.2.1])
    | 3, _ => exact key 92 83 (nI (pNx (sP S))) rfl rfl (fun M hM => by rw [sg_77_0_92, hM.1.2.2.2.1]) (fun M hM => by rw [sg_136_0_83]; rw [show M 43 5 = nI (pNx (sP S)) from hM.1.2.2.2.1])
    | 4, _ => exact key 100 88 (nI (sX S).length) rfl rfl (fun M hM => by rw [sg_77_0_100, hM.2.2.2.2.1.1]) (fun M hM => by rw [sg_136_0_88, hM.2.2.2.2.1.1])
    | 5, _ => exact key 108 93 (nI (rT (sR S))) rfl rfl (fun M hM => by rw [sg_77_0_108, hM.2.1.1]) (fun M hM => by rw [sg_136_0_93]; rw [show M 44 28 = nI (rT (sR S)) from hM.2.1.2.2.2.2])
    | 6, _ => exact key 119 101 (nI (bs (wayB (sR S) 0) (pNx (sP S)))) rfl rfl (fun M hM => by rw [sg_77_0_119, v_openC hM.1.2.2.2.1 hnx hhow hM.2.1, lc_bk1, sg_77_0_129]) (fun M hM => by rw [sg_136_0_101, v_inWayZ hM.1.2.2.2.1 hnx hhow hM.2.1, lc_bk1, sg_136_0_107])
    | 7, _ => exact key 130 108 (nI (bs (wayB (sR S) 1) (pNx (sP S)))) rfl rfl (fun M hM => by rw [sg_77_0_130, ru_bs hM.2.1]) (fun M hM => by rw [sg_136_0_108, show (.int 1 : Value) = .int (nI 1) from rfl, v_inWay0 (w := 1) hM.1.2.2.2.1 hnx hhow hM.2.1 (by decide), lc_bk1, sg_136_0_114])
    | 8, _ => exact key 141 115 (nI (bs (wayB (sR S) 2) (pNx (sP S)))) rfl rfl (fun M hM => by rw [sg_77_0_141, dn_bs hM.2.1]) (fun M hM => by rw [sg_136_0_115, show (.int 2 : Value) = .int (nI 2) from rfl, v_inWay0 (w := 2) hM.1.2.2.2.1 hnx hhow hM.2.1 (by decide), lc_bk1, sg_136_0_121])
    | 9, _ => exact key 152 122 (nI (sumP (rPaid (sR S)) (pNm (sP S)))) rfl rfl (fun M hM => by rw [sg_77_0_152, v_paidC0 hM.1.2.2.1 hnm hM.2.1.2.2.2.2.2.2, lc_bk1, sg_77_0_159]) (fun M hM => by rw [sg_136_0_122, v_paidM0 (f := rPaid (sR S)) hM.1.2.2.1 hnm (fun m hm => by have := hM.2.1.2.1 m hm; rw [Nat.zero_add] at this; exact this), lc_bk1, sg_136_0_126])
    | 10, _ => exact key 160 127 (nI (sL S).length) rfl rfl (fun M hM => by rw [sg_77_0_160, hM.2.2.2.2.2.2.1.2.1]) (fun M hM => by rw [sg_136_0_127, hM.2.2.2.2.2.2.1.1])
    | 11, _ => exact key 168 132 (nI (sB S).length) rfl rfl (fun M hM => by rw [sg_77_0_168, hM.2.2.2.2.2.2.2.1.2.1]) (fun M hM => by rw [sg_136_0_132, hM.2.2.2.2.2.2.2.1.1])
    | 12, _ => exact key 176 137 (nI (sU S).length) rfl rfl (fun M hM => by obtain ⟨nx0, q1, q2, q3, q4⟩ := hM.2.2.1; rw [sg_77_0_176, q3]) (fun M hM => by rw [sg_136_0_137, hM.2.2.1.1])
    | j + 13, hj => omega
  · refine ⟨-1000000002, fun M hM => ⟨M, ?_, hM, fun _ _ => rfl⟩, fun M hM => ⟨M, ?_, hM, fun _ _ => rfl⟩⟩
    · show lc_val 8 77 0 [.ref 0, .int a] [] lc_SH M = _
      rw [sg_77_0_0, sw_out (by decide) h, sg_77_0_184]
    · show lc_val 8 136 0 [.ref 43, .int a] [] lc_SH M = _
      rw [sg_136_0_0, sw_out (by decide) h, sg_136_0_142]
