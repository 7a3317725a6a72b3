/-! saw, forget -/
theorem hasBasin_eq {h : aH} (w : Wf h) (b : Int32) : fn_X0_hasBasin h 3 b = some (if b < 0 then 0 else if b < hI h 3 0 then 1 else 0) := by
  unfold fn_X0_hasBasin
  simp only [w_gI w 3 0 0 rfl, Option.bind_some]
  split
  · rfl
  · split <;> rfl
theorem isBasin_eq {h : aH} (w : Wf h) (b : Int32) : fn_X12_isBasin h 86 b = some (if b < 0 then 0 else if b ≤ hI h 86 1 - 1 then 1 else 0) := by
  unfold fn_X12_isBasin
  simp only [w_gI w 86 11 1 rfl, Option.bind_some, in_eq]
  split
  · rfl
  · split <;> rfl
/-- a basin's number, on both sides -/
theorem basin_cases (nb : Nat) (hnb : nb ≤ 6) (b : Int32) : (b < 0 ∧ True) ∨ (¬ b < 0 ∧ ¬ b < nI nb ∧ ¬ b ≤ nI nb - 1) ∨ (¬ b < 0 ∧ b < nI nb ∧ b ≤ nI nb - 1 ∧ ∃ k : Nat, k < nb ∧ b = nI k) := by
  by_cases h0 : b < 0
  · exact Or.inl ⟨h0, trivial⟩
  right
  obtain ⟨j, hj, rfl⟩ := nI_of h0
  by_cases h1 : j < nb
  · right
    obtain ⟨m, rfl⟩ : ∃ m, nb = m + 1 := ⟨nb - 1, by omega⟩
    refine ⟨h0, nI_lt h1 (by omega), ?_, j, h1, rfl⟩
    rw [nI_pred]
    exact nI_le (by omega) (by omega)
  · left
    refine ⟨h0, nI_nlt (by omega) hj, ?_⟩
    intro q
    cases nb with
    | zero =>
      have q2 := Int32.le_iff_toInt_le.mp q
      rw [nI_toInt hj] at q2
      have : (nI 0 - 1).toInt = -1 := by decide
      omega
    | succ m =>
      rw [nI_pred] at q
      exact nI_ge (show m < j by omega) hj q
theorem wI_eq {h : aH} (w : Wf h) (a n : Nat) (e : SH[a]? = some (14, n)) (k : Nat) (hk : k < n) (hn : n < 2 ^ 31) (x : Int32) : wI h a (nI k) x = some (sI h a k x) := by
  unfold wI
  rw [w_ca w a 14 n e, if_pos (by unfold inb; exact decide_eq_true (vp_in_nI hk hn)), Option.map_some, nI_clamp (by omega)]
theorem aI_eq {h : aH} (w : Wf h) (a kd n : Nat) (e : SH[a]? = some (kd, n)) (k : Nat) (hk : k < n) (hn : n < 2 ^ 31) : aI h a kd (nI k) = some (hI h a k) := by
  unfold aI
  rw [w_ca w a kd n e, if_pos (by unfold inb; exact decide_eq_true (vp_in_nI hk hn)), Option.map_some, nI_clamp (by omega)]
set_option maxHeartbeats 1000000 in
theorem st_forget {ρ c nb ns h} (R : Rel ρ c nb ns h) : ∃ r h1 h2, fn_X11_forget h 0 = some (r, h1) ∧ fn_X12_forget h1 86 = some (r, h2) ∧ Rel ρ c nb ns h2 := by
  obtain ⟨w, r1, r2, r3, r4, r5, r6, r7, ⟨n, hn, e1, e2, ht⟩, r9, r10⟩ := id R
  have w1 : Wf (sI h 79 3 0) := w
  have w2 : Wf (sI (sI h 79 3 0) 86 11 0) := w
  refine ⟨hI h 79 3, sI h 79 3 0, sI (sI (sI h 79 3 0) 86 11 0) 86 37 0, ?_, ?_, ?_⟩
  · unfold fn_X11_forget fn_X6_clear
    simp [g_0_12 w, k_79 w, w_gI w 79 5 3 rfl, w_pI w 79 5 3 _ rfl]
  · unfold fn_X12_forget
    simp [w_pI w1 86 11 11 _ rfl, w_gI w2 86 11 37 rfl, w_pI w2 86 11 37 _ rfl, hI_sI, e1, e2]
  · have q : R_seen nb 0 0 (hI h 80) (hI h 81) (hI h 82) (hI h 105) (hI h 106) (hI h 107) := ⟨0, by omega, rfl, rfl, fun i hi => absurd hi (by omega)⟩
    simp [Rel, hI_sI_r, hI_sI, Wf_sI, hJ_sI, hR_sI, rwP_sI, rwK_sI, w, q, r1, r2, r3, r4, r5, r6, r7, r9, r10]
set_option maxHeartbeats 2000000 in
theorem st_saw {ρ c nb ns h} (R : Rel ρ c nb ns h) (b o v : Int32) : ∃ r h1 h2, fn_X11_saw h 0 b o v = some (r, h1) ∧ fn_X12_saw h1 86 b o v = some (r, h2) ∧ Rel ρ c nb ns h2 := by
  obtain ⟨w, r1, r2, r3, r4, r5, r6, r7, ⟨n, hn, e1, e2, ht⟩, r9, r10⟩ := id R
  have r2' := r2
  obtain ⟨hnb, hns, q1, q2, q3, q4, -⟩ := r2'
  have w1 : Wf (sI h 86 11 0) := w
  have no : fn_X11_saw h 0 b o v = some (-1, h) → fn_X12_saw h 86 b o v = some (-1, sI h 86 11 0) → ∃ r h1 h2, fn_X11_saw h 0 b o v = some (r, h1) ∧ fn_X12_saw h1 86 b o v = some (r, h2) ∧ Rel ρ c nb ns h2 := by
    intro g1 g2
    refine ⟨_, _, _, g1, g2, ?_⟩
    simpa [Rel, hI_sI_r, hI_sI, Wf_sI, hJ_sI, hR_sI, rwP_sI, rwK_sI] using R
  have eb : hI (sI h 86 11 0) 86 1 = nI nb := by rw [hI_sI]; simp [q2]
  have es : hI (sI h 86 11 0) 86 37 = nI n := by rw [hI_sI]; simp [e2]
  rcases basin_cases nb hnb b with ⟨c1, -⟩ | ⟨c1, c2, c3⟩ | ⟨c1, c2, c3, k, hk, rfl⟩
  · refine no ?_ ?_
    · unfold fn_X11_saw; simp [g_0_1 w, k_3 w, hasBasin_eq w, c1]
    · unfold fn_X12_saw; simp [w_pI w 86 11 11 _ rfl, k_86 w1, isBasin_eq w1, c1]
  · refine no ?_ ?_
    · unfold fn_X11_saw; simp [g_0_1 w, k_3 w, hasBasin_eq w, c1, q1, c2]
    · unfold fn_X12_saw; simp [w_pI w 86 11 11 _ rfl, k_86 w1, isBasin_eq w1, c1, eb, c3]
  by_cases d1 : o < 0
  · refine no ?_ ?_
    · unfold fn_X11_saw; simp [g_0_1 w, k_3 w, hasBasin_eq w, c1, q1, c2, d1]
    · unfold fn_X12_saw; simp [w_pI w 86 11 11 _ rfl, k_86 w1, isBasin_eq w1, c1, eb, c3, in_eq, d1]
  by_cases d2 : ¬ o ≤ 20
  · refine no ?_ ?_
    · unfold fn_X11_saw; simp [g_0_1 w, k_3 w, hasBasin_eq w, c1, q1, c2, d1, d2]
    · unfold fn_X12_saw; simp [w_pI w 86 11 11 _ rfl, k_86 w1, isBasin_eq w1, c1, eb, c3, in_eq, d1, d2]
  have d2 := Decidable.not_not.mp d2
  by_cases d3 : v < 0
  · refine no ?_ ?_
    · unfold fn_X11_saw; simp [g_0_1 w, k_3 w, hasBasin_eq w, c1, q1, c2, d1, d2, d3]
    · unfold fn_X12_saw; simp [w_pI w 86 11 11 _ rfl, k_86 w1, isBasin_eq w1, c1, eb, c3, in_eq, d1, d2, d3]
  by_cases d4 : ¬ v ≤ 9
  · refine no ?_ ?_
    · unfold fn_X11_saw; simp [g_0_1 w, k_3 w, hasBasin_eq w, c1, q1, c2, d1, d2, d3, d4]
    · unfold fn_X12_saw; simp [w_pI w 86 11 11 _ rfl, k_86 w1, isBasin_eq w1, c1, eb, c3, in_eq, d1, d2, d3, d4]
  have d4 := Decidable.not_not.mp d4
  by_cases d5 : n = 10
  · have f1 : ¬ nI n < 10 := by rw [d5]; decide
    have f2 : nI n = 10 := by rw [d5]; rfl
    refine no ?_ ?_
    · unfold fn_X11_saw fn_X6_add; simp [g_0_1 w, k_3 w, hasBasin_eq w, c1, q1, c2, d1, d2, d3, d4, g_0_12 w, k_79 w, w_gI w 79 5 3 rfl, e1, f1]
    · unfold fn_X12_saw; simp [w_pI w 86 11 11 _ rfl, k_86 w1, isBasin_eq w1, c1, eb, c3, in_eq, d1, d2, d3, d4, w_gI w1 86 11 37 rfl, es, f2]
  have f1 : nI n < 10 := nI_lt (b := 10) (by omega) (by decide)
  have f2 : ¬ nI n = 10 := fun q => d5 ((nI_eq (b := 10) (by omega) (by decide)).mp q)
  obtain ⟨i2, hi2, rfl⟩ := nI_of2 (x := o) (M := 20) (n := 20) (by decide) d1 d2
  obtain ⟨i3, hi3, rfl⟩ := nI_of2 (x := v) (M := 9) (n := 9) (by decide) d3 d4
  obtain ⟨H1, eH1⟩ : ∃ H1, H1 = sI (sI (sI (sI h 80 n (nI k)) 81 n (nI i2)) 82 n (nI i3)) 79 3 (nI (n + 1)) := ⟨_, rfl⟩
  have wA : Wf (sI h 80 n (nI k)) := w
  have wB : Wf (sI (sI h 80 n (nI k)) 81 n (nI i2)) := w
  have wC : Wf (sI (sI (sI h 80 n (nI k)) 81 n (nI i2)) 82 n (nI i3)) := w
  have wD : Wf H1 := by rw [eH1]; exact w
  have wE : Wf (sI H1 86 11 0) := wD
  refine ⟨nI (n + 1), H1, sI (sI (sI (sI (sI H1 86 11 0) 105 n (nI k)) 106 n (nI i2)) 107 n (nI i3)) 86 37 (nI (n + 1)), ?_, ?_, ?_⟩
  · unfold fn_X11_saw fn_X6_add
    rw [eH1]
    simp [g_0_1 w, k_3 w, hasBasin_eq w, c1, q1, c2, d1, d2, d3, d4, g_0_12 w, k_79 w, w_gI w 79 5 3 rfl, e1, f1, g_79_0 w, wI_eq w 80 10 rfl n (by omega) (by decide), g_79_1 wA, w_gI wA 79 5 3 rfl, hI_sI, wI_eq wA 81 10 rfl n (by omega) (by decide), g_79_2 wB, w_gI wB 79 5 3 rfl,
      wI_eq wB 82 10 rfl n (by omega) (by decide), w_gI wC 79 5 3 rfl, w_pI wC 79 5 3 _ rfl, w_gI (Wf_sI.mpr wC) 79 5 3 rfl, nI_1]
  · have wF : Wf (sI (sI H1 86 11 0) 105 n (nI k)) := wD
    have wG : Wf (sI (sI (sI H1 86 11 0) 105 n (nI k)) 106 n (nI i2)) := wD
    have wH : Wf (sI (sI (sI (sI H1 86 11 0) 105 n (nI k)) 106 n (nI i2)) 107 n (nI i3)) := wD
    have eb' : hI H1 86 1 = nI nb := by rw [eH1]; simp [hI_sI, q2]
    have es' : hI H1 86 37 = nI n := by rw [eH1]; simp [hI_sI, e2]
    unfold fn_X12_saw
    simp [w_pI wD 86 11 11 _ rfl, k_86 wE, isBasin_eq wE, c1, hI_sI, eb', c3, in_eq, d1, d2, d3, d4, w_gI wE 86 11 37 rfl, es', f2, g_86_34 wE, wI_eq wE 105 10 rfl n (by omega) (by decide), g_86_35 wF, w_gI wF 86 11 37 rfl, wI_eq wF 106 10 rfl n (by omega) (by decide), g_86_36 wG, w_gI wG 86 11 37 rfl,
      wI_eq wG 107 10 rfl n (by omega) (by decide), w_gI wH 86 11 37 rfl, w_pI wH 86 11 37 _ rfl, w_gI (Wf_sI.mpr wH) 86 11 37 rfl, nI_1]
  · have q : R_seen nb (nI (n + 1)) (nI (n + 1)) (va_up (hI h 80) n (nI k)) (va_up (hI h 81) n (nI i2)) (va_up (hI h 82) n (nI i3)) (va_up (hI h 105) n (nI k)) (va_up (hI h 106) n (nI i2)) (va_up (hI h 107) n (nI i3)) := by
      refine ⟨n + 1, by omega, rfl, rfl, fun i hi => ?_⟩
      by_cases hin : i = n
      · subst hin
        simp [va_up]
        exact ⟨k, hk, i2, hi2, i3, hi3, rfl, rfl, rfl⟩
      · have := ht i (by omega)
        simpa [va_up, hin] using this
    rw [eH1]
    simp [Rel, hI_sI_r, hI_sI, Wf_sI, hJ_sI, hR_sI, rwP_sI, rwK_sI, w, q, r1, r2, r3, r4, r5, r6, r7, r9, r10]
