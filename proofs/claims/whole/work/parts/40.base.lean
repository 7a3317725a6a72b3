/-! where the cells lie behind the constructors; heaps of that shape -/
def SH : List (Nat × Nat) := [(10, 0), (7, 0), (13, 80), (0, 0), (14, 8), (14, 8), (14, 8), (14, 8), (14, 7), (9, 0), (14, 6), (8, 0), (14, 6), (14, 6), (3, 0), (14, 40), (14, 40), (3, 0), (14, 40), (14, 40), (4, 0), (14, 40), (6, 0), (14, 6), (14, 6), (6, 0), (14, 6), (14, 6), (6, 0), (14, 6), (14, 6), (1, 0), (17, 12), (6, 0), (14, 6), (14, 6), (6, 0), (14, 6), (14, 6), (6, 0), (14, 6), (14, 6), (6, 0), (14, 6), (14, 6), (6, 0), (14, 6), (14, 6), (6, 0), (14, 6), (14, 6), (6, 0), (14, 6), (14, 6), (6, 0), (14, 6), (14, 6), (6, 0), (14, 6), (14, 6), (6, 0), (14, 6), (14, 6), (6, 0), (14, 6), (14, 6), (6, 0), (14, 6), (14, 6), (17, 2), (6, 0), (14, 6), (14, 6), (6, 0), (14, 6), (14, 6), (16, 2), (2, 0), (15, 16), (5, 0), (14, 10), (14, 10), (14, 10), (15, 168), (14, 6), (14, 21), (11, 0), (14, 16), (14, 8), (14, 8), (14, 8), (12, 80), (15, 16), (14, 24), (12, 40), (12, 40), (14, 7), (14, 192), (14, 16), (14, 16), (14, 8), (14, 240), (14, 1616), (14, 6), (14, 41), (14, 10), (14, 10), (14, 10), (14, 1260), (14, 6), (14, 8), (14, 8), (16, 441), (14, 32), (16, 2), (14, 2), (15, 1)]
def FXR : List (Nat × Nat × Nat) := [(0, 0, 1), (0, 1, 3), (0, 2, 9), (0, 3, 11), (0, 4, 14), (0, 5, 17), (0, 6, 20), (0, 7, 22), (0, 8, 25), (0, 9, 28), (0, 10, 31), (0, 11, 77), (0, 12, 79), (0, 13, 83), (0, 14, 84), (0, 15, 85), (1, 0, 2), (3, 3, 4), (3, 4, 5), (3, 5, 6), (3, 6, 8), (3, 7, 7), (9, 0, 3), (9, 1, 10), (11, 0, 12), (11, 1, 13), (14, 0, 15), (14, 1, 16), (17, 0, 18), (17, 1, 19), (20, 0, 1), (20, 1, 21), (22, 0, 23), (22, 1, 24), (25, 0, 26), (25, 1, 27), (28, 0, 29), (28, 1, 30), (31, 0, 32), (31, 1, 69), (31, 2, 76), (33, 0, 34), (33, 1, 35), (36, 0, 37), (36, 1, 38), (39, 0, 40), (39, 1, 41), (42, 0, 43), (42, 1, 44), (45, 0, 46), (45, 1, 47), (48, 0, 49), (48, 1, 50), (51, 0, 52), (51, 1, 53), (54, 0, 55), (54, 1, 56), (57, 0, 58), (57, 1, 59), (60, 0, 61), (60, 1, 62), (63, 0, 64), (63, 1, 65), (66, 0, 67), (66, 1, 68), (69, 0, 70), (69, 1, 73), (70, 0, 71), (70, 1, 72), (73, 0, 74), (73, 1, 75), (77, 0, 78), (79, 0, 80), (79, 1, 81), (79, 2, 82), (86, 0, 87), (86, 4, 88), (86, 5, 89), (86, 6, 90), (86, 7, 91), (86, 9, 92), (86, 17, 93), (86, 19, 95), (86, 22, 96), (86, 23, 97), (86, 25, 98), (86, 26, 99), (86, 29, 100), (86, 30, 101), (86, 31, 102), (86, 32, 103), (86, 33, 104), (86, 34, 105), (86, 35, 106), (86, 36, 107), (86, 38, 108), (86, 39, 109), (86, 40, 110), (86, 41, 111), (86, 44, 112), (86, 47, 113), (86, 48, 114), (86, 49, 115)]
def Wf (h : aH) : Prop := hsh h = SH ∧ ∀ q ∈ FXR, hR h q.1 q.2.1 = some q.2.2
theorem Wf_sI {h : aH} {a j x} : Wf (sI h a j x) ↔ Wf h := Iff.rfl
theorem Wf_sJ {h : aH} {a j x} : Wf (sJ h a j x) ↔ Wf h := Iff.rfl
theorem Wf_rI {h : aH} {a f} : Wf (rI h a f) ↔ Wf h := Iff.rfl
theorem w_ck {h : aH} (w : Wf h) (a ci : Nat) (e : (SH[a]?).map Prod.fst = some ci) : ck h a ci = some () := by
  obtain ⟨q, h1, h2⟩ := Option.map_eq_some_iff.mp e
  have : (hsh h)[a]? = some q := by rw [w.1]; exact h1
  simp [ck, this, h2]
theorem w_ca {h : aH} (w : Wf h) (a kd n : Nat) (e : SH[a]? = some (kd, n)) (i : Int32) : ca h a kd i = if inb i n = true then some () else none := by
  have : (hsh h)[a]? = some (kd, n) := by rw [w.1]; exact e
  simp [ca, this]
theorem w_gI {h : aH} (w : Wf h) (a ci j : Nat) (e : (SH[a]?).map Prod.fst = some ci) : gI h a ci j = some (hI h a j) := by
  simp [gI, w_ck w a ci e]
theorem w_pI {h : aH} (w : Wf h) (a ci j : Nat) (x : Int32) (e : (SH[a]?).map Prod.fst = some ci) : pI h a ci j x = some (sI h a j x) := by
  simp [pI, w_ck w a ci e]
theorem w_gR {h : aH} (w : Wf h) (a ci j v : Nat) (e : (SH[a]?).map Prod.fst = some ci) (m : (a, j, v) ∈ FXR) : gR h a ci j = some v := by
  have : hR h a j = some v := w.2 (a, j, v) m
  simp [gR, w_ck w a ci e, this]
theorem g_0_0 {h : aH} (w : Wf h) : gR h 0 10 0 = some 1 := w_gR w 0 10 0 1 rfl (by decide)
theorem g_0_1 {h : aH} (w : Wf h) : gR h 0 10 1 = some 3 := w_gR w 0 10 1 3 rfl (by decide)
theorem g_0_2 {h : aH} (w : Wf h) : gR h 0 10 2 = some 9 := w_gR w 0 10 2 9 rfl (by decide)
theorem g_0_3 {h : aH} (w : Wf h) : gR h 0 10 3 = some 11 := w_gR w 0 10 3 11 rfl (by decide)
theorem g_0_4 {h : aH} (w : Wf h) : gR h 0 10 4 = some 14 := w_gR w 0 10 4 14 rfl (by decide)
theorem g_0_5 {h : aH} (w : Wf h) : gR h 0 10 5 = some 17 := w_gR w 0 10 5 17 rfl (by decide)
theorem g_0_6 {h : aH} (w : Wf h) : gR h 0 10 6 = some 20 := w_gR w 0 10 6 20 rfl (by decide)
theorem g_0_7 {h : aH} (w : Wf h) : gR h 0 10 7 = some 22 := w_gR w 0 10 7 22 rfl (by decide)
theorem g_0_8 {h : aH} (w : Wf h) : gR h 0 10 8 = some 25 := w_gR w 0 10 8 25 rfl (by decide)
theorem g_0_9 {h : aH} (w : Wf h) : gR h 0 10 9 = some 28 := w_gR w 0 10 9 28 rfl (by decide)
theorem g_0_10 {h : aH} (w : Wf h) : gR h 0 10 10 = some 31 := w_gR w 0 10 10 31 rfl (by decide)
theorem g_0_11 {h : aH} (w : Wf h) : gR h 0 10 11 = some 77 := w_gR w 0 10 11 77 rfl (by decide)
theorem g_0_12 {h : aH} (w : Wf h) : gR h 0 10 12 = some 79 := w_gR w 0 10 12 79 rfl (by decide)
theorem g_0_13 {h : aH} (w : Wf h) : gR h 0 10 13 = some 83 := w_gR w 0 10 13 83 rfl (by decide)
theorem g_0_14 {h : aH} (w : Wf h) : gR h 0 10 14 = some 84 := w_gR w 0 10 14 84 rfl (by decide)
theorem g_0_15 {h : aH} (w : Wf h) : gR h 0 10 15 = some 85 := w_gR w 0 10 15 85 rfl (by decide)
theorem g_1_0 {h : aH} (w : Wf h) : gR h 1 7 0 = some 2 := w_gR w 1 7 0 2 rfl (by decide)
theorem g_3_3 {h : aH} (w : Wf h) : gR h 3 0 3 = some 4 := w_gR w 3 0 3 4 rfl (by decide)
theorem g_3_4 {h : aH} (w : Wf h) : gR h 3 0 4 = some 5 := w_gR w 3 0 4 5 rfl (by decide)
theorem g_3_5 {h : aH} (w : Wf h) : gR h 3 0 5 = some 6 := w_gR w 3 0 5 6 rfl (by decide)
theorem g_3_6 {h : aH} (w : Wf h) : gR h 3 0 6 = some 8 := w_gR w 3 0 6 8 rfl (by decide)
theorem g_3_7 {h : aH} (w : Wf h) : gR h 3 0 7 = some 7 := w_gR w 3 0 7 7 rfl (by decide)
theorem g_9_0 {h : aH} (w : Wf h) : gR h 9 9 0 = some 3 := w_gR w 9 9 0 3 rfl (by decide)
theorem g_9_1 {h : aH} (w : Wf h) : gR h 9 9 1 = some 10 := w_gR w 9 9 1 10 rfl (by decide)
theorem g_11_0 {h : aH} (w : Wf h) : gR h 11 8 0 = some 12 := w_gR w 11 8 0 12 rfl (by decide)
theorem g_11_1 {h : aH} (w : Wf h) : gR h 11 8 1 = some 13 := w_gR w 11 8 1 13 rfl (by decide)
theorem g_14_0 {h : aH} (w : Wf h) : gR h 14 3 0 = some 15 := w_gR w 14 3 0 15 rfl (by decide)
theorem g_14_1 {h : aH} (w : Wf h) : gR h 14 3 1 = some 16 := w_gR w 14 3 1 16 rfl (by decide)
theorem g_17_0 {h : aH} (w : Wf h) : gR h 17 3 0 = some 18 := w_gR w 17 3 0 18 rfl (by decide)
theorem g_17_1 {h : aH} (w : Wf h) : gR h 17 3 1 = some 19 := w_gR w 17 3 1 19 rfl (by decide)
theorem g_20_0 {h : aH} (w : Wf h) : gR h 20 4 0 = some 1 := w_gR w 20 4 0 1 rfl (by decide)
theorem g_20_1 {h : aH} (w : Wf h) : gR h 20 4 1 = some 21 := w_gR w 20 4 1 21 rfl (by decide)
theorem g_22_0 {h : aH} (w : Wf h) : gR h 22 6 0 = some 23 := w_gR w 22 6 0 23 rfl (by decide)
theorem g_22_1 {h : aH} (w : Wf h) : gR h 22 6 1 = some 24 := w_gR w 22 6 1 24 rfl (by decide)
theorem g_25_0 {h : aH} (w : Wf h) : gR h 25 6 0 = some 26 := w_gR w 25 6 0 26 rfl (by decide)
theorem g_25_1 {h : aH} (w : Wf h) : gR h 25 6 1 = some 27 := w_gR w 25 6 1 27 rfl (by decide)
theorem g_28_0 {h : aH} (w : Wf h) : gR h 28 6 0 = some 29 := w_gR w 28 6 0 29 rfl (by decide)
theorem g_28_1 {h : aH} (w : Wf h) : gR h 28 6 1 = some 30 := w_gR w 28 6 1 30 rfl (by decide)
theorem g_31_0 {h : aH} (w : Wf h) : gR h 31 1 0 = some 32 := w_gR w 31 1 0 32 rfl (by decide)
theorem g_31_1 {h : aH} (w : Wf h) : gR h 31 1 1 = some 69 := w_gR w 31 1 1 69 rfl (by decide)
theorem g_31_2 {h : aH} (w : Wf h) : gR h 31 1 2 = some 76 := w_gR w 31 1 2 76 rfl (by decide)
theorem g_33_0 {h : aH} (w : Wf h) : gR h 33 6 0 = some 34 := w_gR w 33 6 0 34 rfl (by decide)
theorem g_33_1 {h : aH} (w : Wf h) : gR h 33 6 1 = some 35 := w_gR w 33 6 1 35 rfl (by decide)
theorem g_36_0 {h : aH} (w : Wf h) : gR h 36 6 0 = some 37 := w_gR w 36 6 0 37 rfl (by decide)
theorem g_36_1 {h : aH} (w : Wf h) : gR h 36 6 1 = some 38 := w_gR w 36 6 1 38 rfl (by decide)
theorem g_39_0 {h : aH} (w : Wf h) : gR h 39 6 0 = some 40 := w_gR w 39 6 0 40 rfl (by decide)
theorem g_39_1 {h : aH} (w : Wf h) : gR h 39 6 1 = some 41 := w_gR w 39 6 1 41 rfl (by decide)
theorem g_42_0 {h : aH} (w : Wf h) : gR h 42 6 0 = some 43 := w_gR w 42 6 0 43 rfl (by decide)
theorem g_42_1 {h : aH} (w : Wf h) : gR h 42 6 1 = some 44 := w_gR w 42 6 1 44 rfl (by decide)
theorem g_45_0 {h : aH} (w : Wf h) : gR h 45 6 0 = some 46 := w_gR w 45 6 0 46 rfl (by decide)
theorem g_45_1 {h : aH} (w : Wf h) : gR h 45 6 1 = some 47 := w_gR w 45 6 1 47 rfl (by decide)
theorem g_48_0 {h : aH} (w : Wf h) : gR h 48 6 0 = some 49 := w_gR w 48 6 0 49 rfl (by decide)
theorem g_48_1 {h : aH} (w : Wf h) : gR h 48 6 1 = some 50 := w_gR w 48 6 1 50 rfl (by decide)
theorem g_51_0 {h : aH} (w : Wf h) : gR h 51 6 0 = some 52 := w_gR w 51 6 0 52 rfl (by decide)
theorem g_51_1 {h : aH} (w : Wf h) : gR h 51 6 1 = some 53 := w_gR w 51 6 1 53 rfl (by decide)
theorem g_54_0 {h : aH} (w : Wf h) : gR h 54 6 0 = some 55 := w_gR w 54 6 0 55 rfl (by decide)
theorem g_54_1 {h : aH} (w : Wf h) : gR h 54 6 1 = some 56 := w_gR w 54 6 1 56 rfl (by decide)
theorem g_57_0 {h : aH} (w : Wf h) : gR h 57 6 0 = some 58 := w_gR w 57 6 0 58 rfl (by decide)
theorem g_57_1 {h : aH} (w : Wf h) : gR h 57 6 1 = some 59 := w_gR w 57 6 1 59 rfl (by decide)
theorem g_60_0 {h : aH} (w : Wf h) : gR h 60 6 0 = some 61 := w_gR w 60 6 0 61 rfl (by decide)
theorem g_60_1 {h : aH} (w : Wf h) : gR h 60 6 1 = some 62 := w_gR w 60 6 1 62 rfl (by decide)
theorem g_63_0 {h : aH} (w : Wf h) : gR h 63 6 0 = some 64 := w_gR w 63 6 0 64 rfl (by decide)
theorem g_63_1 {h : aH} (w : Wf h) : gR h 63 6 1 = some 65 := w_gR w 63 6 1 65 rfl (by decide)
theorem g_66_0 {h : aH} (w : Wf h) : gR h 66 6 0 = some 67 := w_gR w 66 6 0 67 rfl (by decide)
theorem g_66_1 {h : aH} (w : Wf h) : gR h 66 6 1 = some 68 := w_gR w 66 6 1 68 rfl (by decide)
theorem g_70_0 {h : aH} (w : Wf h) : gR h 70 6 0 = some 71 := w_gR w 70 6 0 71 rfl (by decide)
theorem g_70_1 {h : aH} (w : Wf h) : gR h 70 6 1 = some 72 := w_gR w 70 6 1 72 rfl (by decide)
theorem g_73_0 {h : aH} (w : Wf h) : gR h 73 6 0 = some 74 := w_gR w 73 6 0 74 rfl (by decide)
theorem g_73_1 {h : aH} (w : Wf h) : gR h 73 6 1 = some 75 := w_gR w 73 6 1 75 rfl (by decide)
theorem g_77_0 {h : aH} (w : Wf h) : gR h 77 2 0 = some 78 := w_gR w 77 2 0 78 rfl (by decide)
theorem g_79_0 {h : aH} (w : Wf h) : gR h 79 5 0 = some 80 := w_gR w 79 5 0 80 rfl (by decide)
theorem g_79_1 {h : aH} (w : Wf h) : gR h 79 5 1 = some 81 := w_gR w 79 5 1 81 rfl (by decide)
theorem g_79_2 {h : aH} (w : Wf h) : gR h 79 5 2 = some 82 := w_gR w 79 5 2 82 rfl (by decide)
theorem g_86_0 {h : aH} (w : Wf h) : gR h 86 11 0 = some 87 := w_gR w 86 11 0 87 rfl (by decide)
theorem g_86_4 {h : aH} (w : Wf h) : gR h 86 11 4 = some 88 := w_gR w 86 11 4 88 rfl (by decide)
theorem g_86_5 {h : aH} (w : Wf h) : gR h 86 11 5 = some 89 := w_gR w 86 11 5 89 rfl (by decide)
theorem g_86_6 {h : aH} (w : Wf h) : gR h 86 11 6 = some 90 := w_gR w 86 11 6 90 rfl (by decide)
theorem g_86_7 {h : aH} (w : Wf h) : gR h 86 11 7 = some 91 := w_gR w 86 11 7 91 rfl (by decide)
theorem g_86_9 {h : aH} (w : Wf h) : gR h 86 11 9 = some 92 := w_gR w 86 11 9 92 rfl (by decide)
theorem g_86_17 {h : aH} (w : Wf h) : gR h 86 11 17 = some 93 := w_gR w 86 11 17 93 rfl (by decide)
theorem g_86_19 {h : aH} (w : Wf h) : gR h 86 11 19 = some 95 := w_gR w 86 11 19 95 rfl (by decide)
theorem g_86_22 {h : aH} (w : Wf h) : gR h 86 11 22 = some 96 := w_gR w 86 11 22 96 rfl (by decide)
theorem g_86_23 {h : aH} (w : Wf h) : gR h 86 11 23 = some 97 := w_gR w 86 11 23 97 rfl (by decide)
theorem g_86_25 {h : aH} (w : Wf h) : gR h 86 11 25 = some 98 := w_gR w 86 11 25 98 rfl (by decide)
theorem g_86_26 {h : aH} (w : Wf h) : gR h 86 11 26 = some 99 := w_gR w 86 11 26 99 rfl (by decide)
theorem g_86_29 {h : aH} (w : Wf h) : gR h 86 11 29 = some 100 := w_gR w 86 11 29 100 rfl (by decide)
theorem g_86_30 {h : aH} (w : Wf h) : gR h 86 11 30 = some 101 := w_gR w 86 11 30 101 rfl (by decide)
theorem g_86_31 {h : aH} (w : Wf h) : gR h 86 11 31 = some 102 := w_gR w 86 11 31 102 rfl (by decide)
theorem g_86_32 {h : aH} (w : Wf h) : gR h 86 11 32 = some 103 := w_gR w 86 11 32 103 rfl (by decide)
theorem g_86_33 {h : aH} (w : Wf h) : gR h 86 11 33 = some 104 := w_gR w 86 11 33 104 rfl (by decide)
theorem g_86_34 {h : aH} (w : Wf h) : gR h 86 11 34 = some 105 := w_gR w 86 11 34 105 rfl (by decide)
theorem g_86_35 {h : aH} (w : Wf h) : gR h 86 11 35 = some 106 := w_gR w 86 11 35 106 rfl (by decide)
theorem g_86_36 {h : aH} (w : Wf h) : gR h 86 11 36 = some 107 := w_gR w 86 11 36 107 rfl (by decide)
theorem g_86_38 {h : aH} (w : Wf h) : gR h 86 11 38 = some 108 := w_gR w 86 11 38 108 rfl (by decide)
theorem g_86_39 {h : aH} (w : Wf h) : gR h 86 11 39 = some 109 := w_gR w 86 11 39 109 rfl (by decide)
theorem g_86_40 {h : aH} (w : Wf h) : gR h 86 11 40 = some 110 := w_gR w 86 11 40 110 rfl (by decide)
theorem g_86_41 {h : aH} (w : Wf h) : gR h 86 11 41 = some 111 := w_gR w 86 11 41 111 rfl (by decide)
theorem g_86_44 {h : aH} (w : Wf h) : gR h 86 11 44 = some 112 := w_gR w 86 11 44 112 rfl (by decide)
theorem g_86_47 {h : aH} (w : Wf h) : gR h 86 11 47 = some 113 := w_gR w 86 11 47 113 rfl (by decide)
theorem g_86_48 {h : aH} (w : Wf h) : gR h 86 11 48 = some 114 := w_gR w 86 11 48 114 rfl (by decide)
theorem g_86_49 {h : aH} (w : Wf h) : gR h 86 11 49 = some 115 := w_gR w 86 11 49 115 rfl (by decide)
theorem k_0 {h : aH} (w : Wf h) : ck h 0 10 = some () := w_ck w 0 10 rfl
theorem k_1 {h : aH} (w : Wf h) : ck h 1 7 = some () := w_ck w 1 7 rfl
theorem k_3 {h : aH} (w : Wf h) : ck h 3 0 = some () := w_ck w 3 0 rfl
theorem k_9 {h : aH} (w : Wf h) : ck h 9 9 = some () := w_ck w 9 9 rfl
theorem k_11 {h : aH} (w : Wf h) : ck h 11 8 = some () := w_ck w 11 8 rfl
theorem k_14 {h : aH} (w : Wf h) : ck h 14 3 = some () := w_ck w 14 3 rfl
theorem k_17 {h : aH} (w : Wf h) : ck h 17 3 = some () := w_ck w 17 3 rfl
theorem k_20 {h : aH} (w : Wf h) : ck h 20 4 = some () := w_ck w 20 4 rfl
theorem k_22 {h : aH} (w : Wf h) : ck h 22 6 = some () := w_ck w 22 6 rfl
theorem k_25 {h : aH} (w : Wf h) : ck h 25 6 = some () := w_ck w 25 6 rfl
theorem k_28 {h : aH} (w : Wf h) : ck h 28 6 = some () := w_ck w 28 6 rfl
theorem k_31 {h : aH} (w : Wf h) : ck h 31 1 = some () := w_ck w 31 1 rfl
theorem k_33 {h : aH} (w : Wf h) : ck h 33 6 = some () := w_ck w 33 6 rfl
theorem k_36 {h : aH} (w : Wf h) : ck h 36 6 = some () := w_ck w 36 6 rfl
theorem k_39 {h : aH} (w : Wf h) : ck h 39 6 = some () := w_ck w 39 6 rfl
theorem k_42 {h : aH} (w : Wf h) : ck h 42 6 = some () := w_ck w 42 6 rfl
theorem k_45 {h : aH} (w : Wf h) : ck h 45 6 = some () := w_ck w 45 6 rfl
theorem k_48 {h : aH} (w : Wf h) : ck h 48 6 = some () := w_ck w 48 6 rfl
theorem k_51 {h : aH} (w : Wf h) : ck h 51 6 = some () := w_ck w 51 6 rfl
theorem k_54 {h : aH} (w : Wf h) : ck h 54 6 = some () := w_ck w 54 6 rfl
theorem k_57 {h : aH} (w : Wf h) : ck h 57 6 = some () := w_ck w 57 6 rfl
theorem k_60 {h : aH} (w : Wf h) : ck h 60 6 = some () := w_ck w 60 6 rfl
theorem k_63 {h : aH} (w : Wf h) : ck h 63 6 = some () := w_ck w 63 6 rfl
theorem k_66 {h : aH} (w : Wf h) : ck h 66 6 = some () := w_ck w 66 6 rfl
theorem k_70 {h : aH} (w : Wf h) : ck h 70 6 = some () := w_ck w 70 6 rfl
theorem k_73 {h : aH} (w : Wf h) : ck h 73 6 = some () := w_ck w 73 6 rfl
theorem k_77 {h : aH} (w : Wf h) : ck h 77 2 = some () := w_ck w 77 2 rfl
theorem k_79 {h : aH} (w : Wf h) : ck h 79 5 = some () := w_ck w 79 5 rfl
theorem k_86 {h : aH} (w : Wf h) : ck h 86 11 = some () := w_ck w 86 11 rfl
