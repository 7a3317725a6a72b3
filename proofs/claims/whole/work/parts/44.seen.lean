/-! saw, forget -/
theorem hasBasin_eq {h : aH} (w : Wf h) (b : Int32) : fn_X0_hasBasin h 3 b = some (if b < 0 then 0 else if b < hI h 3 0 then 1 else 0) := by
  unfold fn_X0_hasBasin
  simp only [w_gI w 3 0 0 rfl, Option.bind_some]
  split
  · rfl
  · split <;> rfl
theorem isBasin_eq {h : aH} (w : Wf h) (b : Int32) : fn_X12_isBasin h 86 b = some (if b < 0 then 0 else if b ≤ hI h 86 1 - 1 then 1 else 0) := by
  unfold fn_X12_isBasin
  simp only [w_gI w 86 11 1 rfl, Option.bind_some, in_eq]
  split
  · rfl
  · split <;> rfl
/-- a basin's number, on both sides -/
theorem basin_cases (nb : Nat) (hnb : nb ≤ 6) (b : Int32) : (b < 0 ∧ True) ∨ (¬ b < 0 ∧ ¬ b < nI nb ∧ ¬ b ≤ nI nb - 1) ∨ (¬ b < 0 ∧ b < nI nb ∧ b ≤ nI nb - 1 ∧ ∃ k : Nat, k < nb ∧ b = nI k) := by
  by_cases h0 : b < 0
  · exact Or.inl ⟨h0, trivial⟩
  right
  obtain ⟨j, hj, rfl⟩ := nI_of h0
  by_cases h1 : j < nb
  · right
    obtain ⟨m, rfl⟩ : ∃ m, nb = m + 1 := ⟨nb - 1, by omega⟩
    refine ⟨h0, nI_lt h1 (by omega), ?_, j, h1, rfl⟩
    rw [nI_pred]
    exact nI_le (by omega) (by omega)
  · left
    refine ⟨h0, nI_nlt (by omega) hj, ?_⟩
    intro q
    cases nb with
    | zero =>
      have q2 := Int32.le_iff_toInt_le.mp q
      rw [nI_toInt hj] at q2
      have : (nI 0 - 1).toInt = -1 := by decide
      omega
    | succ m =>
      rw [nI_pred] at q
      exact nI_ge (show m < j by omega) hj q
theorem wI_eq {h : aH} (w : Wf h) (a n : Nat) (e : SH[a]? = some (14, n)) (k : Nat) (hk : k < n) (hn : n < 2 ^ 31) (x : Int32) : wI h a (nI k) x = some (sI h a k x) := by
  unfold wI
  rw [w_ca w a 14 n e, if_pos (by unfold inb; exact decide_eq_true (vp_in_nI hk hn)), Option.map_some, nI_clamp (by omega)]
theorem aI_eq {h : aH} (w : Wf h) (a kd n : Nat) (e : SH[a]? = some (kd, n)) (k : Nat) (hk : k < n) (hn : n < 2 ^ 31) : aI h a kd (nI k) = some (hI h a k) := by
  unfold aI
  rw [w_ca w a kd n e, if_pos (by unfold inb; exact decide_eq_true (vp_in_nI hk hn)), Option.map_some, nI_clamp (by omega)]
set_option maxHeartbeats 1000000 in
theorem st_forget {ρ c nb ns h} (R : Rel ρ c nb ns h) : ∃ r h1 h2, fn_X11_forget h 0 = some (r, h1) ∧ fn_X12_forget h1 86 = some (r, h2) ∧ Rel ρ c nb ns h2 := by
  obtain ⟨w, r1, r2, r3, r4, r5, r6, r7, ⟨n, hn, e1, e2, ht⟩, r9, r10⟩ := id R
  have w1 : Wf (sI h 79 3 0) := w
  have w2 : Wf (sI (sI h 79 3 0) 86 11 0) := w
  refine ⟨hI h 79 3, sI h 79 3 0, sI (sI (sI h 79 3 0) 86 11 0) 86 37 0, ?_, ?_, ?_⟩
  · unfold fn_X11_forget fn_X6_clear
    simp [g_0_12 w, k_79 w, w_gI w 79 5 3 rfl, w_pI w 79 5 3 _ rfl]
  · unfold fn_X12_forget
    simp [w_pI w1 86 11 11 _ rfl, w_gI w2 86 11 37 rfl, w_pI w2 86 11 37 _ rfl, hI_sI, e1, e2]
  · have q : R_seen nb 0 0 (hI h 80) (hI h 81) (hI h 82) (hI h 105) (hI h 106) (hI h 107) := ⟨0, by omega, rfl, rfl, fun i hi => absurd hi (by omega)⟩
    simp [Rel, hI_sI_r, hI_sI, Wf_sI, hJ_sI, hR_sI, rwP_sI, rwK_sI, w, q, r1, r2, r3, r4, r5, r6, r7, r9, r10]
