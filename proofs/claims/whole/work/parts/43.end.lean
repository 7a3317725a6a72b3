theorem in_eq (h : aH) (v a b : Int32) : fn_X12_in h v a b = some (if v < a then 0 else if v ≤ b then 1 else 0) := by
  unfold fn_X12_in
  split
  · rfl
  · split <;> rfl
set_option maxHeartbeats 1000000 in
theorem st_end {ρ c nb ns h} (R : Rel ρ c nb ns h) (v : Int32) : ∃ r h1 h2, fn_X11_end h 0 v = some (r, h1) ∧ fn_X12_end h1 86 v = some (r, h2) ∧ Rel ρ c nb ns h2 := by
  obtain ⟨w, ⟨n, hn, e1, e2, ht⟩, r2, r3, r4, r5, r6, r7, r8, r9, r10⟩ := id R
  have w1 : Wf (sI h 1 1 v) := w
  have w2 : Wf (sI h 86 11 0) := w
  have w3 : Wf (sI (sI h 1 1 v) 86 11 0) := w
  unfold fn_X11_end fn_X8_shorten fn_X12_end
  by_cases c1 : v < 0
  · refine ⟨0, h, sI h 86 11 0, ?_, ?_, ?_⟩
    · simp [g_0_0 w, k_1 w, c1, bz]
    · simp [w_pI w 86 11 11 _ rfl, w_gI w2 86 11 8 rfl, in_eq, c1]
    · simpa [Rel, hI_sI_r, hI_sI, Wf_sI, hJ_sI, hR_sI, rwP_sI, rwK_sI] using R
  · by_cases c2 : v ≤ hI h 1 1
    · have c2' : v ≤ hI h 86 8 := by rw [e2, ← e1]; exact c2
      refine ⟨1, sI h 1 1 v, sI (sI (sI h 1 1 v) 86 11 0) 86 8 v, ?_, ?_, ?_⟩
      · simp [g_0_0 w, k_1 w, c1, bz, w_gI w 1 7 1 rfl, c2, w_pI w 1 7 1 _ rfl]
      · simp [w_pI w1 86 11 11 _ rfl, w_gI w3 86 11 8 rfl, in_eq, c1, hI_sI, c2', w_pI w3 86 11 8 _ rfl]
      · obtain ⟨k, hk, rfl⟩ := nI_of2 (x := v) (M := hI h 1 1) (n := n) (by rw [e1]; exact nI_toInt (by omega)) c1 c2
        have q : R_tx (nI k) (nI k) (hI h 2) (hI h 91) := ⟨k, by omega, rfl, rfl, fun i hi => ht i (by omega)⟩
        simp [Rel, hI_sI_r, hI_sI, Wf_sI, hJ_sI, hR_sI, rwP_sI, rwK_sI, w, q, r2, r3, r4, r5, r6, r7, r8, r9, r10]
    · have c2' : ¬ v ≤ hI h 86 8 := by rw [e2, ← e1]; exact c2
      refine ⟨0, h, sI h 86 11 0, ?_, ?_, ?_⟩
      · simp [g_0_0 w, k_1 w, c1, bz, w_gI w 1 7 1 rfl, c2]
      · simp [w_pI w 86 11 11 _ rfl, w_gI w2 86 11 8 rfl, in_eq, c1, hI_sI, c2']
      · simpa [Rel, hI_sI_r, hI_sI, Wf_sI, hJ_sI, hR_sI, rwP_sI, rwK_sI] using R
