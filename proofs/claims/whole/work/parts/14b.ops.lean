/-! the law: its 32 calls as a table: how many arguments, where, link and its place and method of the class, of the reference (gen4.py) -/
abbrev lc_Op : Type := Nat × Nat × Nat × Nat × Nat × Nat × Nat × Nat
def lc_ops : List lc_Op := [(1, 176, 13, 618, 74, 17, 1225, 120), (0, 199, 18, 628, 75, 22, 1235, 129), (0, 212, 23, 712, 76, 26, 1294, 131), (1, 225, 27, 716, 77, 30, 1298, 136), (2, 248, 31, 732, 78, 35, 1313, 138), (2, 281, 36, 768, 79, 39, 1326, 139), (1, 314, 40, 784, 80, 43, 1334, 148), (1, 337, 44, 817, 81, 47, 1358, 149), (1, 360, 48, 834, 82, 51, 1366, 151), (2, 383, 52, 869, 83, 55, 1391, 152), (1, 416, 56, 874, 84, 59, 1395, 154), (1, 439, 60, 885, 85, 63, 1407, 155), (1, 462, 64, 897, 86, 67, 1412, 164), (1, 485, 68, 943, 87, 71, 1449, 165), (1, 508, 72, 947, 88, 75, 1454, 166), (2, 531, 76, 955, 89, 79, 1458, 168), (1, 564, 80, 970, 90, 83, 1466, 169), (1, 587, 84, 975, 91, 87, 1470, 170), (2, 610, 88, 980, 92, 91, 1475, 171), (2, 643, 92, 986, 93, 95, 1481, 172), (2, 676, 96, 999, 94, 99, 1486, 174), (1, 709, 100, 1027, 95, 103, 1494, 177), (0, 732, 104, 1047, 96, 107, 1506, 178), (0, 745, 108, 1055, 97, 111, 1510, 180), (1, 758, 112, 1066, 98, 115, 1519, 181), (1, 781, 116, 1075, 99, 119, 1539, 182), (2, 804, 120, 1084, 100, 123, 1543, 183), (0, 837, 124, 1088, 101, 127, 1547, 184), (0, 850, 128, 1092, 102, 131, 1551, 185), (1, 863, 132, 1096, 103, 135, 1555, 186), (1, 886, 136, 1100, 104, 139, 1559, 187), (1, 909, 140, 1109, 105, 143, 1563, 188)]
/-- the ints behind the constructors -/
def lc_mem0 (c j : Nat) : Int32 := if c = 1 ∧ j = 3 then (-1) else if c = 33 ∧ j = 0 then 6 else if c = 36 ∧ j = 0 then 20 else if c = 43 ∧ j = 20 then (-1) else 0
def lc_S1 : lc_Sh := lc_SH.take 43
def lc_ckB : Option lc_Res → Bool
  | some (none, S2, M2) => decide (S2 = lc_SH) && (List.range 59).all (fun c => (List.range ((lc_SH[c]?).elim 0 lc_size)).all (fun j => M2 c j == lc_mem0 c j))
  | _ => false
def lc_ckA (f : lc_M → Option lc_Res) : Option lc_Res → Bool
  | some (none, S1, M1) => decide (S1 = lc_S1) && lc_ckB (f M1)
  | _ => false
/-- the two constructors, as the small machine runs them -/
def lc_ctC : Option lc_Res := lc_run 3000 8 73 0 (lc_ent 73 [.ref 0]) [] [.inr (10, lc_dfl 10)] (lc_set (fun _ _ => 0) 0 (fun _ => 0))
def lc_ctM (M1 : lc_M) : Option lc_Res := lc_run 3000 8 115 0 (lc_ent 115 [.ref 43]) [] (lc_S1 ++ [.inr (11, lc_dfl 11)]) (lc_set M1 43 (fun _ => 0))
theorem lc_initok_t : lc_ckA lc_ctM lc_ctC = true := by decide +kernel
theorem lc_ckA_inv {f : lc_M → Option lc_Res} {R : Option lc_Res} (h : lc_ckA f R = true) : ∃ M1, R = some (none, lc_S1, M1) ∧ lc_ckB (f M1) = true := by
  unfold lc_ckA at h
  split at h
  · rename_i S1 M1
    rw [Bool.and_eq_true, decide_eq_true_eq] at h
    obtain ⟨hS, h⟩ := h
    subst hS
    exact ⟨M1, rfl, h⟩
  · cases h
theorem lc_ckB_inv {R : Option lc_Res} (h : lc_ckB R = true) : ∃ M2, R = some (none, lc_SH, M2) ∧ ∀ c cl, lc_SH[c]? = some cl → ∀ j, j < lc_size cl → M2 c j = lc_mem0 c j := by
  unfold lc_ckB at h
  split at h
  · rename_i S2 M2
    rw [Bool.and_eq_true, decide_eq_true_eq] at h
    obtain ⟨hS, h⟩ := h
    subst hS
    refine ⟨M2, rfl, fun c cl hc j hj => ?_⟩
    have hlt : c < 59 := (List.getElem?_eq_some_iff.mp hc).1
    have h1 := List.all_eq_true.mp h c (List.mem_range.mpr hlt)
    rw [hc] at h1
    have h2 := List.all_eq_true.mp h1 j (List.mem_range.mpr hj)
    exact eq_of_beq h2
  · cases h
theorem lc_init_ex : ∃ M1 M2 : lc_M, (∃ n, lc_run n 8 73 0 (lc_ent 73 [.ref 0]) [] [.inr (10, lc_dfl 10)] (lc_set (fun _ _ => 0) 0 (fun _ => 0)) = some (none, lc_S1, M1)) ∧ (∃ n, lc_run n 8 115 0 (lc_ent 115 [.ref 43]) [] (lc_S1 ++ [.inr (11, lc_dfl 11)]) (lc_set M1 43 (fun _ => 0)) = some (none, lc_SH, M2)) ∧ ∀ c cl, lc_SH[c]? = some cl → ∀ j, j < lc_size cl → M2 c j = lc_mem0 c j := by
  obtain ⟨M1, h1, h⟩ := lc_ckA_inv lc_initok_t
  obtain ⟨M2, h2, h3⟩ := lc_ckB_inv h
  unfold lc_ctC at h1
  unfold lc_ctM at h2
  exact ⟨M1, M2, ⟨_, h1⟩, ⟨_, h2⟩, h3⟩
