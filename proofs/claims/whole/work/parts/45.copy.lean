/-! loops by their sequence; copies of states -/
theorem lp_seq {σ ρ : Type} (body : σ → Option (σ ⊕ ρ)) (s : Nat → σ) (n : Nat) (r : ρ) (h1 : ∀ k, k < n → body (s k) = some (.inl (s (k + 1)))) (h2 : body (s n) = some (.inr r)) : ∀ m k, k + m = n → ∀ N, m < N → lp body N (s k) = some r := by
  intro m
  induction m with
  | zero =>
    intro k hk N hN
    obtain ⟨M, rfl⟩ : ∃ M, N = M + 1 := ⟨N - 1, by omega⟩
    have : k = n := by omega
    subst this
    simp [lp, h2]
  | succ m ih =>
    intro k hk N hN
    obtain ⟨M, rfl⟩ : ∃ M, N = M + 1 := ⟨N - 1, by omega⟩
    simp only [lp, h1 k (by omega)]
    exact ih (k + 1) (by omega) M (by omega)
theorem lp_run {σ ρ : Type} {body : σ → Option (σ ⊕ ρ)} (s : Nat → σ) (n : Nat) (r : ρ) (h1 : ∀ k, k < n → body (s k) = some (.inl (s (k + 1)))) (h2 : body (s n) = some (.inr r)) (hn : n < 2000) {s0 : σ} (e : s0 = s 0) : lp body lpN s0 = some r := by
  rw [e]
  exact lp_seq body s n r h1 h2 n 0 (by omega) lpN hn
theorem rI_rI (h : aH) (a : Nat) (f g : Nat → Int32) : rI (rI h a f) a g = rI h a g := by
  unfold rI
  simp [bx_uu]
theorem sI_rI (h : aH) (a j : Nat) (f : Nat → Int32) (x : Int32) : sI (rI h a f) a j x = rI h a (va_up f j x) := by
  unfold sI
  rw [rI_rI, hI_rI, if_pos rfl]
theorem rI_self (h : aH) (a : Nat) : rI h a (hI h a) = h := by
  unfold rI hI
  have : va_up h.2.1 a (h.2.1 a) = h.2.1 := by
    funext b
    unfold va_up
    split
    · rename_i e; rw [e]
    · rfl
  rw [this]
theorem cpy_0 (f g : Nat → Int32) (sp dp : Nat) : va_cpy f g sp dp 0 = g := by
  funext k
  unfold va_cpy
  rw [if_neg (by omega)]
theorem cpy_s (f g : Nat → Int32) (sp dp n : Nat) : va_up (va_cpy f g sp dp n) (dp + n) (f (sp + n)) = va_cpy f g sp dp (n + 1) := by
  funext k
  unfold va_up va_cpy
  by_cases h1 : k = dp + n
  · subst h1
    rw [if_pos rfl, if_pos (by omega)]
    congr 1
    omega
  · rw [if_neg h1]
    by_cases h2 : dp ≤ k ∧ k < dp + n
    · rw [if_pos h2, if_pos (by omega)]
    · rw [if_neg h2, if_neg (by omega)]
theorem cpy_in (f g : Nat → Int32) (sp dp n k : Nat) (h : k < n) : va_cpy f g sp dp n (dp + k) = f (sp + k) := by
  unfold va_cpy
  rw [if_pos (by omega)]
  congr 1
  omega
theorem rwP_rI {h : aH} {a : Nat} {f : Nat → Int32} (ha : ¬ (33 ≤ a ∧ a < 69)) : rwP (rI h a f) = rwP h := by
  funext b
  unfold rwP
  split
  · rename_i hb
    rw [hI_rI, if_neg (show ¬ b = a by omega)]
  · rfl
theorem rwK_rI {h : aH} {a : Nat} {f : Nat → Int32} (ha : ¬ (70 ≤ a ∧ a < 76)) : rwK (rI h a f) = rwK h := by
  funext b
  unfold rwK
  split
  · rename_i hb
    rw [hI_rI, if_neg (show ¬ b = a by omega)]
  · rfl
/-- the reference's lay: sixteen numbers -/
theorem lay_eq {h : aH} (w : Wf h) (a b na n off : Nat) (ea : SH[a]? = some (14, na)) (eb : SH[b]? = some (14, n)) (hab : a ≠ b) (hna : 16 ≤ na) (hoff : off + 16 ≤ n) (hn : n < 10000) (hn2 : na < 10000) : fn_X12_lay h a b (nI off) = some (rI h b (va_cpy (hI h a) (hI h b) 0 off 16)) := by
  unfold fn_X12_lay
  rw [lp_run (fun k => (nI k, rI h b (va_cpy (hI h a) (hI h b) 0 off k))) 16 (rI h b (va_cpy (hI h a) (hI h b) 0 off 16)) ?_ ?_ (by decide) (by rw [cpy_0, rI_self]; rfl)]
  · rfl
  · intro k hk
    have w' : Wf (rI h b (va_cpy (hI h a) (hI h b) 0 off k)) := w
    have c1 : nI k < 16 := nI_lt (b := 16) hk (by decide)
    unfold lb_X12_lay_2
    simp only [c1, if_true, aI_eq w' a 14 na ea k (by omega) (by omega), Option.bind_some, hI_rI, if_neg hab, nI_add, wI_eq w' b n eb (off + k) (by omega) (by omega), sI_rI, nI_1]
    have := cpy_s (hI h a) (hI h b) 0 off k
    rw [Nat.zero_add] at this
    rw [this]
  · unfold lb_X12_lay_2
    rfl
def SL : List Nat := [22, 25, 28, 33, 36, 39, 42, 45, 48, 51, 54, 57, 60, 63, 66, 70, 73]
theorem SL_ok : ∀ k ∈ SL, SH[k]? = some (6, 0) ∧ SH[k + 1]? = some (14, 6) ∧ SH[k + 2]? = some (14, 6) ∧ (k, 0, k + 1) ∈ FXR ∧ (k, 1, k + 2) ∈ FXR := by decide +kernel
theorem SL_apart : ∀ k ∈ SL, ∀ q ∈ SL, k ≠ q → k + 3 ≤ q ∨ q + 3 ≤ k := by decide +kernel
theorem SL_st {k : Nat} (h : isSt k) : k ∈ SL := by
  obtain ⟨i, hi, rfl⟩ := h
  have : ∀ i : Nat, i < 12 → 33 + 3 * i ∈ SL := by decide
  exact this i hi
theorem cpI_eq {h : aH} (w : Wf h) (a b : Nat) (ea : SH[a]? = some (14, 6)) (eb : SH[b]? = some (14, 6)) : cpI h a 0 b 0 6 = some (rI h b (va_cpy (hI h a) (hI h b) 0 0 6)) := by
  unfold cpI
  rw [w.1, ea, eb]
  rfl
/-- State.takes: a state is copied; nothing else changes -/
theorem takes_eq {h : aH} (w : Wf h) {k q : Nat} (hk : k ∈ SL) (hq : q ∈ SL) (hkq : k ≠ q) : ∃ h', fn_X7_takes h k q = some h' ∧ Wf h' ∧ hJ h' = hJ h ∧ hR h' = hR h ∧ (∀ a, (a < k ∨ k + 3 ≤ a) → hI h' a = hI h a) ∧ (∀ x, SR (hI h q) (hI h (q + 1)) (hI h (q + 2)) x → SR (hI h' k) (hI h' (k + 1)) (hI h' (k + 2)) x) := by
  obtain ⟨k1, k2, k3, k4, k5⟩ := SL_ok k hk
  obtain ⟨q1, q2, q3, q4, q5⟩ := SL_ok q hq
  have ap := SL_apart k hk q hq hkq
  have m1 : (SH[k]?).map Prod.fst = some 6 := by rw [k1]; rfl
  have m2 : (SH[q]?).map Prod.fst = some 6 := by rw [q1]; rfl
  obtain ⟨A, eA⟩ : ∃ A, A = rI h (k + 1) (va_cpy (hI h (q + 1)) (hI h (k + 1)) 0 0 6) := ⟨_, rfl⟩
  have wA : Wf A := by rw [eA]; exact w
  obtain ⟨B, eB⟩ : ∃ B, B = rI A (k + 2) (va_cpy (hI A (q + 2)) (hI A (k + 2)) 0 0 6) := ⟨_, rfl⟩
  have wB : Wf B := by rw [eB]; exact wA
  obtain ⟨C, eC⟩ : ∃ C, C = sI B k 2 (hI B q 2) := ⟨_, rfl⟩
  have wC : Wf C := by rw [eC]; exact wB
  obtain ⟨D, eD⟩ : ∃ D, D = sI C k 3 (hI C q 3) := ⟨_, rfl⟩
  have wD : Wf D := by rw [eD]; exact wC
  obtain ⟨E, eE⟩ : ∃ E, E = sI D k 4 (hI D q 4) := ⟨_, rfl⟩
  have wE : Wf E := by rw [eE]; exact wD
  obtain ⟨F, eF⟩ : ∃ F, F = sI E k 5 (hI E q 5) := ⟨_, rfl⟩
  have wF : Wf F := by rw [eF]; exact wE
  refine ⟨F, ?_, wF, by rw [eF, eE, eD, eC, eB, eA]; rfl, by rw [eF, eE, eD, eC, eB, eA]; rfl, ?_, ?_⟩
  · unfold fn_X7_takes
    rw [w_gR w q 6 0 _ m2 q4, w_gR w k 6 0 _ m1 k4, Option.bind_some, Option.bind_some, cpI_eq w (q + 1) (k + 1) q2 k2, Option.bind_some, ← eA, w_gR wA q 6 1 _ m2 q5, w_gR wA k 6 1 _ m1 k5, Option.bind_some, Option.bind_some, cpI_eq wA (q + 2) (k + 2) q3 k3, Option.bind_some, ← eB,
      w_gI wB q 6 2 m2, Option.bind_some, w_pI wB k 6 2 _ m1, Option.bind_some, ← eC, w_gI wC q 6 3 m2, Option.bind_some, w_pI wC k 6 3 _ m1, Option.bind_some, ← eD, w_gI wD q 6 4 m2, Option.bind_some, w_pI wD k 6 4 _ m1, Option.bind_some, ← eE, w_gI wE q 6 5 m2, Option.bind_some, w_pI wE k 6 5 _ m1, Option.bind_some, ← eF]
  · intro a ha
    rw [eF, eE, eD, eC, eB, eA]
    simp only [hI_sI_r, hI_rI, if_neg (show ¬ a = k by omega), if_neg (show ¬ a = k + 1 by omega), if_neg (show ¬ a = k + 2 by omega)]
  · intro x ⟨x1, x2, x3, x4, x5, x6⟩
    have n1 : ¬ q = k := by omega
    have n2 : ¬ q = k + 1 := by omega
    have n3 : ¬ q = k + 2 := by omega
    have n4 : ¬ q + 2 = k + 1 := by omega
    have n5 : ¬ k + 1 = k := by omega
    have n6 : ¬ k + 2 = k := by omega
    have n7 : ¬ k + 1 = k + 2 := by omega
    have n8 : ¬ k + 2 = k + 1 := by omega
    refine ⟨fun i hi => ?_, fun i hi => ?_, ?_, ?_, ?_, ?_⟩
    · rw [eF, eE, eD, eC, eB, eA]
      simp only [hI_sI_r, hI_rI, if_neg n5, if_neg n7, if_true]
      have := cpy_in (hI h (q + 1)) (hI h (k + 1)) 0 0 6 i hi
      rw [Nat.zero_add] at this
      rw [this]
      exact x1 i hi
    · rw [eF, eE, eD, eC, eB, eA]
      simp only [hI_sI_r, hI_rI, if_neg n6, if_neg n4, if_true]
      have := cpy_in (hI h (q + 2)) (if k + 2 = k + 1 then va_cpy (hI h (q + 1)) (hI h (k + 1)) 0 0 6 else hI h (k + 2)) 0 0 6 i hi
      rw [Nat.zero_add] at this
      rw [this]
      exact x2 i hi
    · rw [eF, eE, eD, eC, eB, eA]
      simp [hI_sI, hI_rI, n1, n2, n3, x3]
    · rw [eF, eE, eD, eC, eB, eA]
      simp [hI_sI, hI_rI, n1, n2, n3, x4]
    · rw [eF, eE, eD, eC, eB, eA]
      simp [hI_sI, hI_rI, n1, n2, n3, x5]
    · rw [eF, eE, eD, eC, eB, eA]
      simp [hI_sI, hI_rI, n1, n2, n3, x6]
