/-! copies of states; the trial; what is told; the two worlds -/
theorem cpy_0 (f g : XX) (sp dp : Nat) : va_cpy f g sp dp 0 = g := by
  funext k
  unfold va_cpy
  rw [if_neg (by omega)]
theorem cpy_s (f g : XX) (sp dp n : Nat) : va_up (va_cpy f g sp dp n) (dp + n) (f (sp + n)) = va_cpy f g sp dp (n + 1) := by
  funext k
  unfold va_up va_cpy
  by_cases h1 : k = dp + n
  · subst h1
    rw [if_pos rfl, if_pos (by omega)]
    congr 1
    omega
  · rw [if_neg h1]
    by_cases h2 : dp ≤ k ∧ k < dp + n
    · rw [if_pos h2, if_pos (by omega)]
    · rw [if_neg h2, if_neg (by omega)]
theorem cpy_in (f g : XX) (sp dp n k : Nat) (h : k < n) : va_cpy f g sp dp n (dp + k) = f (sp + k) := by
  unfold va_cpy
  rw [if_pos (by omega)]
  congr 1
  omega
theorem lay_eq {h : aH} (w : Wf h) (a b na n off : Nat) (ea : SH[a]? = some (14, na)) (eb : SH[b]? = some (14, n)) (hab : a ≠ b) (hna : 16 ≤ na) (hoff : off + 16 ≤ n) (hn : n < 10000) (hn2 : na < 10000) : fn_X12_lay h a b (nI off) = some (rI h b (va_cpy (hI h a) (hI h b) 0 off 16)) := by
  unfold fn_X12_lay
  rw [lp_run (fun k => (nI k, rI h b (va_cpy (hI h a) (hI h b) 0 off k))) 16 (rI h b (va_cpy (hI h a) (hI h b) 0 off 16)) ?_ ?_ (by decide) (by rw [cpy_0, rI_self]; rfl)]
  · rfl
  · intro k hk
    have w' : Wf (rI h b (va_cpy (hI h a) (hI h b) 0 off k)) := w
    have c1 : nI k < 16 := nI_lt (b := 16) hk (by decide)
    unfold lb_X12_lay_2
    simp only [c1, if_true, aI_eq w' a 14 na ea k (by omega) (by omega), Option.bind_some, hI_rI, if_neg hab, nI_add, wI_eq w' b n eb (off + k) (by omega) (by omega), sI_rI, nI_1]
    have := cpy_s (hI h a) (hI h b) 0 off k
    rw [Nat.zero_add] at this
    rw [this]
  · unfold lb_X12_lay_2
    rfl
def SL : List Nat := [22, 25, 28, 33, 36, 39, 42, 45, 48, 51, 54, 57, 60, 63, 66, 70, 73]
theorem SL_ok : ∀ k ∈ SL, SH[k]? = some (6, 0) ∧ SH[k + 1]? = some (14, 6) ∧ SH[k + 2]? = some (14, 6) ∧ (k, 0, k + 1) ∈ FXR ∧ (k, 1, k + 2) ∈ FXR := by decide +kernel
theorem SL_apart : ∀ k ∈ SL, ∀ q ∈ SL, k ≠ q → k + 3 ≤ q ∨ q + 3 ≤ k := by decide +kernel
theorem cpI_eq {h : aH} (w : Wf h) (a b : Nat) (ea : SH[a]? = some (14, 6)) (eb : SH[b]? = some (14, 6)) : cpI h a 0 b 0 6 = some (rI h b (va_cpy (hI h a) (hI h b) 0 0 6)) := by
  unfold cpI
  rw [w.1, ea, eb]
  rfl
def tk (k : Nat) (a j : Nat) : Bool := a == k || (a == k + 1 || a == k + 2)
/-- State.takes: a state is copied; nothing else changes -/
theorem takes_eq {h : aH} (w : Wf h) {k q : Nat} (hk : k ∈ SL) (hq : q ∈ SL) (hkq : k ≠ q) : ∃ h', fn_X7_takes h k q = some h' ∧ Fr (tk k) h h' ∧ ∀ x, St h q x → St h' k x := by
  obtain ⟨k1, k2, k3, k4, k5⟩ := SL_ok k hk
  obtain ⟨q1, q2, q3, q4, q5⟩ := SL_ok q hq
  have ap := SL_apart k hk q hq hkq
  have m1 : (SH[k]?).map Prod.fst = some 6 := by rw [k1]; rfl
  have m2 : (SH[q]?).map Prod.fst = some 6 := by rw [q1]; rfl
  have t0 : ∀ j, tk k k j = true := fun j => by simp [tk]
  have t1 : ∀ j, tk k (k + 1) j = true := fun j => by simp [tk]
  have t2 : ∀ j, tk k (k + 2) j = true := fun j => by simp [tk]
  obtain ⟨A, eA⟩ : ∃ A, A = rI h (k + 1) (va_cpy (hI h (q + 1)) (hI h (k + 1)) 0 0 6) := ⟨_, rfl⟩
  have wA : Wf A := by rw [eA]; exact w
  obtain ⟨B, eB⟩ : ∃ B, B = rI A (k + 2) (va_cpy (hI A (q + 2)) (hI A (k + 2)) 0 0 6) := ⟨_, rfl⟩
  have wB : Wf B := by rw [eB]; exact wA
  obtain ⟨C, eC⟩ : ∃ C, C = sI B k 2 (hI B q 2) := ⟨_, rfl⟩
  have wC : Wf C := by rw [eC]; exact wB
  obtain ⟨D, eD⟩ : ∃ D, D = sI C k 3 (hI C q 3) := ⟨_, rfl⟩
  have wD : Wf D := by rw [eD]; exact wC
  obtain ⟨E, eE⟩ : ∃ E, E = sI D k 4 (hI D q 4) := ⟨_, rfl⟩
  have wE : Wf E := by rw [eE]; exact wD
  obtain ⟨F, eF⟩ : ∃ F, F = sI E k 5 (hI E q 5) := ⟨_, rfl⟩
  refine ⟨F, ?_, ?_, ?_⟩
  · unfold fn_X7_takes
    rw [w_gR w q 6 0 _ m2 q4, w_gR w k 6 0 _ m1 k4, Option.bind_some, Option.bind_some, cpI_eq w (q + 1) (k + 1) q2 k2, Option.bind_some, ← eA, w_gR wA q 6 1 _ m2 q5, w_gR wA k 6 1 _ m1 k5, Option.bind_some, Option.bind_some, cpI_eq wA (q + 2) (k + 2) q3 k3, Option.bind_some, ← eB,
      w_gI wB q 6 2 m2, Option.bind_some, w_pI wB k 6 2 _ m1, Option.bind_some, ← eC, w_gI wC q 6 3 m2, Option.bind_some, w_pI wC k 6 3 _ m1, Option.bind_some, ← eD, w_gI wD q 6 4 m2, Option.bind_some, w_pI wD k 6 4 _ m1, Option.bind_some, ← eE, w_gI wE q 6 5 m2, Option.bind_some, w_pI wE k 6 5 _ m1, Option.bind_some, ← eF]
  · rw [eF, eE, eD, eC, eB, eA]
    exact ((((((Fr.refl _ h).rI _ t1).rI _ t2).sI _ (t0 2)).sI _ (t0 3)).sI _ (t0 4)).sI _ (t0 5)
  · intro x ⟨x1, x2, x3, x4, x5, x6⟩
    have n1 : ¬ q = k := by omega
    have n2 : ¬ q = k + 1 := by omega
    have n3 : ¬ q = k + 2 := by omega
    have n4 : ¬ q + 2 = k + 1 := by omega
    have n5 : ¬ k + 1 = k := by omega
    have n6 : ¬ k + 2 = k := by omega
    have n7 : ¬ k + 1 = k + 2 := by omega
    have n8 : ¬ k + 2 = k + 1 := by omega
    refine ⟨fun i hi => ?_, fun i hi => ?_, ?_, ?_, ?_, ?_⟩
    · rw [eF, eE, eD, eC, eB, eA]
      simp only [hI_sI_r, hI_rI, if_neg n5, if_neg n7, if_true]
      have := cpy_in (hI h (q + 1)) (hI h (k + 1)) 0 0 6 i hi
      rw [Nat.zero_add] at this
      rw [this]
      exact x1 i hi
    · rw [eF, eE, eD, eC, eB, eA]
      simp only [hI_sI_r, hI_rI, if_neg n6, if_neg n4, if_true]
      have := cpy_in (hI h (q + 2)) (if k + 2 = k + 1 then va_cpy (hI h (q + 1)) (hI h (k + 1)) 0 0 6 else hI h (k + 2)) 0 0 6 i hi
      rw [Nat.zero_add] at this
      rw [this]
      exact x2 i hi
    · rw [eF, eE, eD, eC, eB, eA]
      simp [hI_sI, hI_rI, n1, n2, n3, x3]
    · rw [eF, eE, eD, eC, eB, eA]
      simp [hI_sI, hI_rI, n1, n2, n3, x4]
    · rw [eF, eE, eD, eC, eB, eA]
      simp [hI_sI, hI_rI, n1, n2, n3, x5]
    · rw [eF, eE, eD, eC, eB, eA]
      simp [hI_sI, hI_rI, n1, n2, n3, x6]
def zer : XX := fun _ => 0
/-- what is counted begins at nothing -/
theorem beginC_eq {h : aH} (w : Wf h) (k : Nat) : ∃ h', fn_X0_begin h 3 = some h' ∧ Fr (sh k) h h' ∧ (∀ a, a ≠ 3 → a ≠ 7 → hI h' a = hI h a) ∧ hI h' 3 8 = 0 ∧ hI h' 3 9 = 0 ∧ ∀ i, i < 8 → hI h' 7 i = 0 := by
  obtain ⟨F, eF⟩ : ∃ F : Nat → XX, F = fun k j => if j < k then 0 else hI h 7 j := ⟨_, rfl⟩
  have wk : ∀ k, Wf (rI h 7 (F k)) := fun k => w
  have e0 : rI h 7 (F 0) = h := by
    have : F 0 = hI h 7 := by rw [eF]; funext j; simp
    rw [this, rI_self]
  have loop : lp (lb_X0_begin_2 3) lpN (0, h) = some (rI h 7 (F 8)) := by
    refine lp_run (fun k => (nI k, rI h 7 (F k))) 8 _ ?_ ?_ (by decide) (by rw [e0]; rfl)
    · intro k hk
      have c1 : nI k < 8 := nI_lt (b := 8) hk (by decide)
      unfold lb_X0_begin_2
      simp only [c1, if_true, g_3_7 (wk k), Option.bind_some, wI_eq (wk k) 7 8 rfl k hk (by decide), sI_rI, nI_1]
      have : va_up (F k) k 0 = F (k + 1) := by
        funext j
        rw [eF]
        unfold va_up
        by_cases hj : j = k
        · subst hj; simp
        · by_cases hj2 : j < k
          · simp [hj, hj2, show j < k + 1 by omega]
          · simp [hj, hj2, show ¬ j < k + 1 by omega]
      rw [this]
    · unfold lb_X0_begin_2
      rfl
  have w8 := wk 8
  refine ⟨sI (sI (rI h 7 (F 8)) 3 8 0) 3 9 0, ?_, ?_, ?_, ?_, ?_, ?_⟩
  · unfold fn_X0_begin
    simp only [loop, Option.bind_some, w_pI w8 3 0 8 _ rfl, w_pI (h := sI (rI h 7 (F 8)) 3 8 0) w8 3 0 9 _ rfl]
  · exact (((Fr.refl _ h).rI _ (fun _ => rfl)).sI _ rfl).sI _ rfl
  · intro a h3 h7
    rw [hI_sI_r, if_neg h3, hI_sI_r, if_neg h3, hI_rI, if_neg h7]
  · simp [hI_sI]
  · simp [hI_sI]
  · intro i hi
    rw [hI_sI_r, if_neg (by decide), hI_sI_r, if_neg (by decide), hI_rI, if_pos rfl, eF]
    simp [hi]
theorem startTrial_eq {h : aH} (w : Wf h) {x : XX} (S : St h 22 x) : ∃ h', fn_X11_startTrial h 0 = some h' ∧ Fr (sh 28) h h' ∧ TC h' 28 (x, 0, 0, zer) := by
  obtain ⟨h1, e1, F1, S1⟩ := takes_eq w (k := 28) (q := 22) (by decide) (by decide) (by decide)
  have w1 := F1.wf w
  obtain ⟨h2, e2, F2, r2, c8, c9, c7⟩ := beginC_eq w1 28
  refine ⟨h2, ?_, ?_, ?_, c8, c9, c7⟩
  · unfold fn_X11_startTrial
    simp only [g_0_9 w, g_0_7 w, k_28 w, Option.bind_some, e1, g_0_1 w1, k_3 w1, e2]
  · refine Fr.trans (F1.mono ?_) F2
    intro a j e
    unfold sh at e
    unfold tk
    simp at e ⊢
    omega
  · unfold St
    rw [r2 28 (by decide) (by decide), r2 29 (by decide) (by decide), r2 30 (by decide) (by decide)]
    exact S1 x S
theorem clearM_eq {h : aH} (w : Wf h) (k : Nat) : ∃ h', fn_X12_clear h 86 = some h' ∧ Fr (mh k) h h' ∧ (∀ a, a ≠ 86 → a ≠ 100 → hI h' a = hI h a) ∧ hI h' 86 27 = 0 ∧ hI h' 86 28 = 0 ∧ ∀ i, i < 8 → hI h' 100 i = 0 := by
  obtain ⟨h0, eh0⟩ : ∃ h0, h0 = sI (sI h 86 27 0) 86 28 0 := ⟨_, rfl⟩
  have w0 : Wf h0 := by rw [eh0]; exact w
  obtain ⟨F, eF⟩ : ∃ F : Nat → XX, F = fun k j => if j < k then 0 else hI h0 100 j := ⟨_, rfl⟩
  have wk : ∀ k, Wf (rI h0 100 (F k)) := fun k => w0
  have e0 : rI h0 100 (F 0) = h0 := by
    have : F 0 = hI h0 100 := by rw [eF]; funext j; simp
    rw [this, rI_self]
  have loop : lp (lb_X12_clear_12 86) lpN (0, h0) = some (rI h0 100 (F 8)) := by
    refine lp_run (fun k => (nI k, rI h0 100 (F k))) 8 _ ?_ ?_ (by decide) (by rw [e0]; rfl)
    · intro k hk
      have c1 : nI k < 8 := nI_lt (b := 8) hk (by decide)
      unfold lb_X12_clear_12
      simp only [c1, if_true, g_86_29 (wk k), Option.bind_some, wI_eq (wk k) 100 8 rfl k hk (by decide), sI_rI, nI_1]
      have : va_up (F k) k 0 = F (k + 1) := by
        funext j
        rw [eF]
        unfold va_up
        by_cases hj : j = k
        · subst hj; simp
        · by_cases hj2 : j < k
          · simp [hj, hj2, show j < k + 1 by omega]
          · simp [hj, hj2, show ¬ j < k + 1 by omega]
      rw [this]
    · unfold lb_X12_clear_12
      rfl
  refine ⟨rI h0 100 (F 8), ?_, ?_, ?_, ?_, ?_, ?_⟩
  · unfold fn_X12_clear
    simp only [w_pI w 86 11 27 _ rfl, Option.bind_some, w_pI (h := sI h 86 27 0) w 86 11 28 _ rfl, ← eh0, loop]
  · rw [eh0]
    exact (((Fr.refl _ h).sI _ rfl).sI _ rfl).rI _ (fun _ => rfl)
  · intro a h3 h7
    rw [hI_rI, if_neg h7, eh0, hI_sI_r, if_neg h3, hI_sI_r, if_neg h3]
  · rw [hI_rI, if_neg (by decide), eh0]; simp [hI_sI]
  · rw [hI_rI, if_neg (by decide), eh0]; simp [hI_sI]
  · intro i hi
    rw [hI_rI, if_pos rfl, eF]
    simp [hi]
theorem layThen_eq {h : aH} (w : Wf h) {x : XX} (S : XM h 87 x) : ∃ f, fn_X12_lay h 87 99 0 = some (rI h 99 f) ∧ XM (rI h 99 f) 99 x := by
  refine ⟨_, lay_eq w 87 99 16 16 0 rfl rfl (by decide) (by decide) (by decide) (by decide) (by decide), fun i hi => ?_⟩
  rw [hI_rI, if_pos rfl]
  have := cpy_in (hI h 87) (hI h 99) 0 0 16 i hi
  rw [Nat.zero_add] at this
  rw [this]
  exact S i hi
/-- what is told -/
def ToC (h : aH) (l : List Int64) : Prop := hI h 77 1 = nI l.length ∧ l.length ≤ 16 ∧ ∀ i, i < l.length → hJ h 78 i = l.getD i 0
def ToM (h : aH) (l : List Int64) : Prop := hI h 86 10 = nI l.length ∧ l.length ≤ 16 ∧ ∀ i, i < l.length → hJ h 92 i = l.getD i 0
def stC (a j : Nat) : Bool := (a == 77 && j == 1) || a == 78
def stM (a j : Nat) : Bool := (a == 86 && j == 10) || a == 92
theorem toldBegin {h : aH} (w : Wf h) : fn_X3_begin h 77 = some (sI h 77 1 0) ∧ Fr stC h (sI h 77 1 0) ∧ ToC (sI h 77 1 0) [] := by
  refine ⟨?_, (Fr.refl _ _).sI _ rfl, ?_, by decide, fun i hi => absurd hi (by simp)⟩
  · unfold fn_X3_begin
    simp only [w_pI w 77 2 1 _ rfl, Option.bind_some]
  · rw [hI_sI]; simp; rfl
theorem getD_app (l : List Int64) (v : Int64) (i : Nat) : (l ++ [v]).getD i 0 = if i < l.length then l.getD i 0 else if i = l.length then v else 0 := by
  rw [List.getD_eq_getElem?_getD, List.getElem?_append]
  by_cases h1 : i < l.length
  · rw [if_pos h1, if_pos h1, List.getD_eq_getElem?_getD]
  · rw [if_neg h1, if_neg h1]
    by_cases h2 : i = l.length
    · subst h2; simp
    · rw [if_neg h2, List.getElem?_eq_none (by simp; omega)]; rfl
theorem toldAdd {h : aH} (w : Wf h) {l : List Int64} (T : ToC h l) (hl : l.length < 16) (v : Int64) : ∃ h', fn_X3_add h 77 v = some h' ∧ Fr stC h h' ∧ ToC h' (l ++ [v]) := by
  obtain ⟨t1, t2, t3⟩ := T
  have c1 : nI l.length < 16 := nI_lt (b := 16) hl (by decide)
  have w1 : Wf (sJ h 78 l.length v) := w
  refine ⟨sI (sJ h 78 l.length v) 77 1 (nI (l.length + 1)), ?_, ((Fr.refl _ _).sJ _ rfl).sI _ rfl, ?_, by simp; omega, fun i hi => ?_⟩
  · have e2 : hI (sJ h 78 l.length v) 77 1 = nI l.length := t1
    unfold fn_X3_add
    simp only [w_gI w 77 2 1 rfl, t1, Option.bind_some, c1, if_true, g_77_0 w, wJ_eq w 78 16 rfl l.length hl (by decide), w_gI w1 77 2 1 rfl, e2, w_pI w1 77 2 1 _ rfl, nI_1]
  · rw [hI_sI]; simp
  · rw [hJ_sI, hJ_sJ, getD_app]
    simp only [List.length_append, List.length_singleton] at hi
    by_cases h2 : i = l.length
    · subst h2; simp
    · rw [if_neg (by simp [h2]), if_pos (by omega), t3 i (by omega)]
theorem tellM {h : aH} (w : Wf h) {l : List Int64} (T : ToM h l) (hl : l.length < 16) (v : Int64) : ∃ h', fn_X12_tell h 86 v = some h' ∧ Fr stM h h' ∧ ToM h' (l ++ [v]) := by
  obtain ⟨t1, t2, t3⟩ := T
  have w1 : Wf (sJ h 92 l.length v) := w
  refine ⟨sI (sJ h 92 l.length v) 86 10 (nI (l.length + 1)), ?_, ((Fr.refl _ _).sJ _ rfl).sI _ rfl, ?_, by simp; omega, fun i hi => ?_⟩
  · have e2 : hI (sJ h 92 l.length v) 86 10 = nI l.length := t1
    unfold fn_X12_tell
    simp only [w_gI w 86 11 10 rfl, t1, Option.bind_some, g_86_9 w, wJ_eq w 92 16 rfl l.length hl (by decide), w_gI w1 86 11 10 rfl, e2, w_pI w1 86 11 10 _ rfl, nI_1]
  · rw [hI_sI]; simp
  · rw [hJ_sI, hJ_sJ, getD_app]
    simp only [List.length_append, List.length_singleton] at hi
    by_cases h2 : i = l.length
    · subst h2; simp
    · rw [if_neg (by simp [h2]), if_pos (by omega), t3 i (by omega)]
theorem tellBegin {h : aH} (w : Wf h) : pI h 86 11 10 0 = some (sI h 86 10 0) ∧ Fr stM h (sI h 86 10 0) ∧ ToM (sI h 86 10 0) [] := by
  refine ⟨w_pI w 86 11 10 _ rfl, (Fr.refl _ _).sI _ rfl, ?_, by decide, fun i hi => absurd hi (by simp)⟩
  rw [hI_sI]; simp; rfl
/-- what a question may change -/
def sc (a j : Nat) : Bool := (a == 3 && (j == 8 || j == 9)) || (a == 7 || (a == 8 || (a == 10 || (a == 11 || (a == 12 || (a == 13 || (a == 16 || (a == 17 || (a == 18 || (a == 19 || (a == 20 || (a == 21 || (a == 25 || (a == 26 || (a == 27 || (a == 28 || (a == 29 || (a == 30 || (a == 83 || (a == 84 || (a == 85 || ((a == 77 && j == 1) || a == 78))))))))))))))))))))))
def sm (a j : Nat) : Bool := (a == 86 && (j == 10 || (j == 11 || (j == 12 || (j == 13 || (j == 14 || (j == 15 || (j == 16 || (j == 21 || (j == 27 || (j == 28 || (j == 42 || (j == 43 || j == 45))))))))))))) || (a == 92 || (a == 93 || (a == 95 || (a == 96 || (a == 98 || (a == 99 || (a == 100 || (a == 101 || (a == 102 || (a == 103 || (a == 104 || (a == 108 || (a == 109 || (a == 110 || (a == 111 || a == 112)))))))))))))))
theorem sh_sc (a j : Nat) (e : sc a j = false) : sh 28 a j = false := by
  unfold sc at e
  unfold sh
  simp at e ⊢
  omega
theorem stC_sc (a j : Nat) (e : sc a j = false) : stC a j = false := by
  unfold sc at e
  unfold stC
  simp at e ⊢
  omega
theorem mh_sm (a j : Nat) (e : sm a j = false) : mh 99 a j = false := by
  unfold sm at e
  unfold mh
  simp at e ⊢
  omega
theorem stM_sm (a j : Nat) (e : sm a j = false) : stM a j = false := by
  unfold sm at e
  unfold stM
  simp at e ⊢
  omega
theorem ToC.to {S : Nat → Nat → Bool} {h h1 : aH} (f : Fr S h h1) (e1 : S 77 1 = false) (e2 : ∀ j, S 78 j = false) {l : List Int64} (T : ToC h l) : ToC h1 l :=
  ⟨(f.i 77 1 e1).trans T.1, T.2.1, fun i hi => by rw [f.jrow 78 e2]; exact T.2.2 i hi⟩
theorem ToM.to {S : Nat → Nat → Bool} {h h1 : aH} (f : Fr S h h1) (e1 : S 86 10 = false) (e2 : ∀ j, S 92 j = false) {l : List Int64} (T : ToM h l) : ToM h1 l :=
  ⟨(f.i 86 10 e1).trans T.1, T.2.1, fun i hi => by rw [f.jrow 92 e2]; exact T.2.2 i hi⟩
def CW (N : Net) (sem : Sem) (x : XX) (h : aH) : Prop := Wf h ∧ CN N h ∧ St h 22 x ∧ RuleC h 14 sem
def MW (N : Net) (sem : Sem) (x : XX) (h : aH) : Prop := Wf h ∧ MN N h ∧ XM h 87 x ∧ RuleM h 94 sem
theorem CW.to {N : Net} {sem : Sem} {x : XX} {h h1 : aH} (f : Fr sc h h1) (c : CW N sem x h) : CW N sem x h1 := by
  obtain ⟨w, ⟨c1, c2, c3, c4⟩, S, R⟩ := c
  refine ⟨f.wf w, ⟨(f.i 3 0 rfl).trans c1, (f.i 3 1 rfl).trans c2, (f.i 3 2 rfl).trans c3, fun i hi => ?_⟩, ?_, R.1, fun h' q w e1 e2 e5 => ?_⟩
  · rw [f.i 4 i rfl, f.i 5 i rfl, f.i 6 i rfl]
    exact c4 i hi
  · unfold St
    rw [f.row 22 fun _ => rfl, f.row 23 fun _ => rfl, f.row 24 fun _ => rfl]
    exact S
  · exact R.2 h' q w (e1.trans (f.row 15 fun _ => rfl)) (e2.trans (f.i 14 2 rfl)) e5
theorem MW.to {N : Net} {sem : Sem} {x : XX} {h h1 : aH} (f : Fr sm h h1) (c : MW N sem x h) : MW N sem x h1 := by
  obtain ⟨w, ⟨c1, c2, c3, c4⟩, S, R⟩ := c
  refine ⟨f.wf w, ⟨(f.i 86 1 rfl).trans c1, (f.i 86 2 rfl).trans c2, (f.i 86 3 rfl).trans c3, fun i hi => ?_⟩, ?_, ?_⟩
  · rw [f.i 88 i rfl, f.i 89 i rfl, f.i 90 i rfl]
    exact c4 i hi
  · exact XM_to (f.row 87 fun _ => rfl) S
  · obtain ⟨r1, r2, r3⟩ := R
    have e20 : hI h1 86 20 = hI h 86 20 := f.i 86 20 rfl
    have eq : hI h1 94 = hI h 94 := f.row 94 fun _ => rfl
    refine ⟨(f.r 86 18 (Or.inl rfl)).trans r1, r2, ?_⟩
    rcases r3 with ⟨d1, d2⟩ | ⟨d1, d2⟩
    · exact Or.inl ⟨e20.trans d1, d2⟩
    · refine Or.inr ⟨by rw [e20]; exact d1, fun h' y w a1 a2 a3 a4 a5 a6 a7 a8 a9 => ?_⟩
      exact d2 h' y w (a1.trans eq) (a2.trans e20) a3 a4 (a5.trans e20) a6 a7 a8 a9
