/-! frames: which places may have changed; loops by an invariant, alone and in pairs -/
theorem hI_sI_r (h : aH) (a j : Nat) (x : Int32) (b : Nat) : hI (sI h a j x) b = if b = a then va_up (hI h a) j x else hI h b := rfl
theorem hJ_sJ_r (h : aH) (a j : Nat) (x : Int64) (b : Nat) : hJ (sJ h a j x) b = if b = a then va_up (hJ h a) j x else hJ h b := rfl
def rx (a j : Nat) : Bool := a == 32 || (a == 86 && (j == 12 || j == 18))
def Fr (S : Nat → Nat → Bool) (h h' : aH) : Prop :=
  hsh h' = hsh h ∧ (∀ a j, S a j = false → hI h' a j = hI h a j ∧ hJ h' a j = hJ h a j) ∧ (∀ a j, (S a j = false ∨ rx a j = false) → hR h' a j = hR h a j)
theorem Fr.refl (S : Nat → Nat → Bool) (h : aH) : Fr S h h := ⟨rfl, fun _ _ _ => ⟨rfl, rfl⟩, fun _ _ _ => rfl⟩
theorem Fr.trans {S : Nat → Nat → Bool} {h h1 h2 : aH} (a : Fr S h h1) (b : Fr S h1 h2) : Fr S h h2 :=
  ⟨b.1.trans a.1, fun p j hs => ⟨(b.2.1 p j hs).1.trans (a.2.1 p j hs).1, (b.2.1 p j hs).2.trans (a.2.1 p j hs).2⟩, fun p j hs => (b.2.2 p j hs).trans (a.2.2 p j hs)⟩
theorem Fr.mono {S T : Nat → Nat → Bool} {h h1 : aH} (m : ∀ a j, T a j = false → S a j = false) (a : Fr S h h1) : Fr T h h1 :=
  ⟨a.1, fun p j hs => a.2.1 p j (m p j hs), fun p j hs => a.2.2 p j (hs.imp_left (m p j))⟩
theorem Fr.sI {S : Nat → Nat → Bool} {h h1 : aH} (f : Fr S h h1) {a j : Nat} (x : Int32) (e : S a j = true) : Fr S h (sI h1 a j x) := by
  refine f.trans ⟨rfl, fun p i hs => ⟨?_, rfl⟩, fun _ _ _ => rfl⟩
  rw [hI_sI]
  rw [if_neg]
  rintro ⟨rfl, rfl⟩
  rw [e] at hs
  cases hs
theorem Fr.sJ {S : Nat → Nat → Bool} {h h1 : aH} (f : Fr S h h1) {a j : Nat} (x : Int64) (e : S a j = true) : Fr S h (sJ h1 a j x) := by
  refine f.trans ⟨rfl, fun p i hs => ⟨rfl, ?_⟩, fun _ _ _ => rfl⟩
  rw [hJ_sJ]
  rw [if_neg]
  rintro ⟨rfl, rfl⟩
  rw [e] at hs
  cases hs
theorem Fr.sR {S : Nat → Nat → Bool} {h h1 : aH} (f : Fr S h h1) {a j : Nat} (x : Option Nat) (e : S a j = true) (e2 : rx a j = true) : Fr S h (sR h1 a j x) := by
  refine f.trans ⟨rfl, fun p i hs => ⟨rfl, rfl⟩, fun p i hs => ?_⟩
  rw [hR_sR]
  rw [if_neg]
  rintro ⟨rfl, rfl⟩
  rw [e, e2] at hs
  rcases hs with hs | hs <;> cases hs
theorem Fr.rI {S : Nat → Nat → Bool} {h h1 : aH} (f : Fr S h h1) {a : Nat} (g : Nat → Int32) (e : ∀ j, S a j = true) : Fr S h (rI h1 a g) := by
  refine f.trans ⟨rfl, fun p i hs => ⟨?_, rfl⟩, fun _ _ _ => rfl⟩
  rw [hI_rI]
  rw [if_neg]
  rintro rfl
  rw [e] at hs
  cases hs
theorem Fr.i {S : Nat → Nat → Bool} {h h1 : aH} (f : Fr S h h1) (a j : Nat) (e : S a j = false) : hI h1 a j = hI h a j := (f.2.1 a j e).1
theorem Fr.row {S : Nat → Nat → Bool} {h h1 : aH} (f : Fr S h h1) (a : Nat) (e : ∀ j, S a j = false) : hI h1 a = hI h a := funext fun j => (f.2.1 a j (e j)).1
theorem Fr.jrow {S : Nat → Nat → Bool} {h h1 : aH} (f : Fr S h h1) (a : Nat) (e : ∀ j, S a j = false) : hJ h1 a = hJ h a := funext fun j => (f.2.1 a j (e j)).2
theorem Fr.r {S : Nat → Nat → Bool} {h h1 : aH} (f : Fr S h h1) (a j : Nat) (e : S a j = false ∨ rx a j = false) : hR h1 a j = hR h a j := f.2.2 a j e
theorem FXR_rx : ∀ q ∈ FXR, rx q.1 q.2.1 = false := by decide +kernel
theorem Fr.wf {S : Nat → Nat → Bool} {h h1 : aH} (f : Fr S h h1) (w : Wf h) : Wf h1 := by
  refine ⟨f.1.trans w.1, fun q hq => ?_⟩
  rw [f.2.2 q.1 q.2.1 (Or.inr (FXR_rx q hq))]
  exact w.2 q hq
theorem rI_rI (h : aH) (a : Nat) (f g : Nat → Int32) : rI (rI h a f) a g = rI h a g := by
  unfold rI
  simp [bx_uu]
theorem sI_rI (h : aH) (a j : Nat) (f : Nat → Int32) (x : Int32) : sI (rI h a f) a j x = rI h a (va_up f j x) := by
  unfold sI
  rw [rI_rI, hI_rI, if_pos rfl]
theorem rI_self (h : aH) (a : Nat) : rI h a (hI h a) = h := by
  unfold rI hI
  have : va_up h.2.1 a (h.2.1 a) = h.2.1 := by
    funext b
    unfold va_up
    split
    · rename_i e; rw [e]
    · rfl
  rw [this]
theorem up_self {α : Type} {f : Nat → α} {k : Nat} {x : α} (e : f k = x) : va_up f k x = f := by
  funext j
  unfold va_up
  split
  · rename_i q; rw [q, e]
  · rfl
theorem sI_self {h : aH} {a j : Nat} {x : Int32} (e : hI h a j = x) : sI h a j x = h := by
  unfold sI
  rw [up_self e, rI_self]
theorem wI_eq {h : aH} (w : Wf h) (a n : Nat) (e : SH[a]? = some (14, n)) (k : Nat) (hk : k < n) (hn : n < 2 ^ 31) (x : Int32) : wI h a (nI k) x = some (sI h a k x) := by
  unfold wI
  rw [w_ca w a 14 n e, if_pos (by unfold inb; exact decide_eq_true (vp_in_nI hk hn)), Option.map_some, nI_clamp (by omega)]
theorem wZ_eq {h : aH} (w : Wf h) (a n : Nat) (e : SH[a]? = some (16, n)) (k : Nat) (hk : k < n) (hn : n < 2 ^ 31) (x : Int32) : wZ h a (nI k) x = some (sI h a k (vp_nar .boolean x)) := by
  unfold wZ
  rw [w_ca w a 16 n e, if_pos (by unfold inb; exact decide_eq_true (vp_in_nI hk hn)), Option.map_some, nI_clamp (by omega)]
theorem wJ_eq {h : aH} (w : Wf h) (a n : Nat) (e : SH[a]? = some (15, n)) (k : Nat) (hk : k < n) (hn : n < 2 ^ 31) (x : Int64) : wJ h a (nI k) x = some (sJ h a k x) := by
  unfold wJ
  rw [w_ca w a 15 n e, if_pos (by unfold inb; exact decide_eq_true (vp_in_nI hk hn)), Option.map_some, nI_clamp (by omega)]
theorem aI_eq {h : aH} (w : Wf h) (a kd n : Nat) (e : SH[a]? = some (kd, n)) (k : Nat) (hk : k < n) (hn : n < 2 ^ 31) : aI h a kd (nI k) = some (hI h a k) := by
  unfold aI
  rw [w_ca w a kd n e, if_pos (by unfold inb; exact decide_eq_true (vp_in_nI hk hn)), Option.map_some, nI_clamp (by omega)]
theorem aJ_eq {h : aH} (w : Wf h) (a n : Nat) (e : SH[a]? = some (15, n)) (k : Nat) (hk : k < n) (hn : n < 2 ^ 31) : aJ h a (nI k) = some (hJ h a k) := by
  unfold aJ
  rw [w_ca w a 15 n e, if_pos (by unfold inb; exact decide_eq_true (vp_in_nI hk hn)), Option.map_some, nI_clamp (by omega)]
/-- a loop by its sequence -/
theorem lp_seq {σ ρ : Type} (body : σ → Option (σ ⊕ ρ)) (s : Nat → σ) (n : Nat) (r : ρ) (h1 : ∀ k, k < n → body (s k) = some (.inl (s (k + 1)))) (h2 : body (s n) = some (.inr r)) : ∀ m k, k + m = n → ∀ N, m < N → lp body N (s k) = some r := by
  intro m
  induction m with
  | zero =>
    intro k hk N hN
    obtain ⟨M, rfl⟩ : ∃ M, N = M + 1 := ⟨N - 1, by omega⟩
    have : k = n := by omega
    subst this
    simp [lp, h2]
  | succ m ih =>
    intro k hk N hN
    obtain ⟨M, rfl⟩ : ∃ M, N = M + 1 := ⟨N - 1, by omega⟩
    simp only [lp, h1 k (by omega)]
    exact ih (k + 1) (by omega) M (by omega)
theorem lp_run {σ ρ : Type} {body : σ → Option (σ ⊕ ρ)} (s : Nat → σ) (n : Nat) (r : ρ) (h1 : ∀ k, k < n → body (s k) = some (.inl (s (k + 1)))) (h2 : body (s n) = some (.inr r)) (hn : n < 2000) {s0 : σ} (e : s0 = s 0) : lp body lpN s0 = some r := by
  rw [e]
  exact lp_seq body s n r h1 h2 n 0 (by omega) lpN hn
/-- a loop by an invariant -/
theorem lp_inv0 {σ ρ : Type} {body : σ → Option (σ ⊕ ρ)} (I : Nat → σ → Prop) (P : ρ → Prop) (n : Nat)
    (h1 : ∀ k s, k < n → I k s → (∃ s', body s = some (.inl s') ∧ I (k + 1) s') ∨ (∃ r, body s = some (.inr r) ∧ P r)) (h2 : ∀ s, I n s → ∃ r, body s = some (.inr r) ∧ P r) :
    ∀ m k, k + m = n → ∀ N, m < N → ∀ s, I k s → ∃ r, lp body N s = some r ∧ P r := by
  intro m
  induction m with
  | zero =>
    intro k hk N hN s hs
    obtain ⟨M, rfl⟩ : ∃ M, N = M + 1 := ⟨N - 1, by omega⟩
    have : k = n := by omega
    subst this
    obtain ⟨r, e, hp⟩ := h2 s hs
    exact ⟨r, by simp [lp, e], hp⟩
  | succ m ih =>
    intro k hk N hN s hs
    obtain ⟨M, rfl⟩ : ∃ M, N = M + 1 := ⟨N - 1, by omega⟩
    rcases h1 k s (by omega) hs with ⟨s', e, hi⟩ | ⟨r, e, hp⟩
    · obtain ⟨r, e2, hp⟩ := ih (k + 1) (by omega) M (by omega) s' hi
      exact ⟨r, by simp only [lp, e]; exact e2, hp⟩
    · exact ⟨r, by simp [lp, e], hp⟩
theorem lp_inv {σ ρ : Type} {body : σ → Option (σ ⊕ ρ)} (I : Nat → σ → Prop) (P : ρ → Prop) (n : Nat) (hn : n < 2000)
    (h1 : ∀ k s, k < n → I k s → (∃ s', body s = some (.inl s') ∧ I (k + 1) s') ∨ (∃ r, body s = some (.inr r) ∧ P r)) (h2 : ∀ s, I n s → ∃ r, body s = some (.inr r) ∧ P r) {s0 : σ} (e : I 0 s0) :
    ∃ r, lp body lpN s0 = some r ∧ P r := lp_inv0 I P n h1 h2 n 0 (by omega) lpN hn s0 e
/-- two loops that go together -/
theorem lp_two0 {σ ρ τ κ : Type} {b1 : σ → Option (σ ⊕ ρ)} {b2 : τ → Option (τ ⊕ κ)} (I : Nat → σ → τ → Prop) (P : ρ → κ → Prop) (n : Nat)
    (h1 : ∀ k s t, k < n → I k s t → (∃ s' t', b1 s = some (.inl s') ∧ b2 t = some (.inl t') ∧ I (k + 1) s' t') ∨ (∃ r q, b1 s = some (.inr r) ∧ b2 t = some (.inr q) ∧ P r q))
    (h2 : ∀ s t, I n s t → ∃ r q, b1 s = some (.inr r) ∧ b2 t = some (.inr q) ∧ P r q) :
    ∀ m k, k + m = n → ∀ N, m < N → ∀ s t, I k s t → ∃ r q, lp b1 N s = some r ∧ lp b2 N t = some q ∧ P r q := by
  intro m
  induction m with
  | zero =>
    intro k hk N hN s t hs
    obtain ⟨M, rfl⟩ : ∃ M, N = M + 1 := ⟨N - 1, by omega⟩
    have : k = n := by omega
    subst this
    obtain ⟨r, q, e, e2, hp⟩ := h2 s t hs
    exact ⟨r, q, by simp [lp, e], by simp [lp, e2], hp⟩
  | succ m ih =>
    intro k hk N hN s t hs
    obtain ⟨M, rfl⟩ : ∃ M, N = M + 1 := ⟨N - 1, by omega⟩
    rcases h1 k s t (by omega) hs with ⟨s', t', e, e2, hi⟩ | ⟨r, q, e, e2, hp⟩
    · obtain ⟨r, q, e3, e4, hp⟩ := ih (k + 1) (by omega) M (by omega) s' t' hi
      exact ⟨r, q, by simp only [lp, e]; exact e3, by simp only [lp, e2]; exact e4, hp⟩
    · exact ⟨r, q, by simp [lp, e], by simp [lp, e2], hp⟩
theorem lp_two {σ ρ τ κ : Type} {b1 : σ → Option (σ ⊕ ρ)} {b2 : τ → Option (τ ⊕ κ)} (I : Nat → σ → τ → Prop) (P : ρ → κ → Prop) (n : Nat) (hn : n < 2000)
    (h1 : ∀ k s t, k < n → I k s t → (∃ s' t', b1 s = some (.inl s') ∧ b2 t = some (.inl t') ∧ I (k + 1) s' t') ∨ (∃ r q, b1 s = some (.inr r) ∧ b2 t = some (.inr q) ∧ P r q))
    (h2 : ∀ s t, I n s t → ∃ r q, b1 s = some (.inr r) ∧ b2 t = some (.inr q) ∧ P r q) {s0 : σ} {t0 : τ} (e : I 0 s0 t0) :
    ∃ r q, lp b1 lpN s0 = some r ∧ lp b2 lpN t0 = some q ∧ P r q := lp_two0 I P n h1 h2 n 0 (by omega) lpN hn s0 t0 e
theorem in_eq (h : aH) (v a b : Int32) : fn_X12_in h v a b = some (if v < a then 0 else if v ≤ b then 1 else 0) := by
  unfold fn_X12_in
  split
  · rfl
  · split <;> rfl
theorem hasBasin_eq {h : aH} (w : Wf h) (b : Int32) : fn_X0_hasBasin h 3 b = some (if b < 0 then 0 else if b < hI h 3 0 then 1 else 0) := by
  unfold fn_X0_hasBasin
  simp only [w_gI w 3 0 0 rfl, Option.bind_some]
  split
  · rfl
  · split <;> rfl
theorem isBasin_eq {h : aH} (w : Wf h) (b : Int32) : fn_X12_isBasin h 86 b = some (if b < 0 then 0 else if b ≤ hI h 86 1 - 1 then 1 else 0) := by
  unfold fn_X12_isBasin
  simp only [w_gI w 86 11 1 rfl, Option.bind_some, in_eq]
  split
  · rfl
  · split <;> rfl
theorem hasSluice_eq {h : aH} (w : Wf h) (b : Int32) : fn_X0_hasSluice h 3 b = some (if b < 0 then 0 else if b < hI h 3 1 then 1 else 0) := by
  unfold fn_X0_hasSluice
  simp only [w_gI w 3 0 1 rfl, Option.bind_some]
  split
  · rfl
  · split <;> rfl
theorem isSluice_eq {h : aH} (w : Wf h) (b : Int32) : fn_X12_isSluice h 86 b = some (if b < 0 then 0 else if b ≤ hI h 86 2 - 1 then 1 else 0) := by
  unfold fn_X12_isSluice
  simp only [w_gI w 86 11 2 rfl, Option.bind_some, in_eq]
  split
  · rfl
  · split <;> rfl
/-- a basin's or a sluice's number, on both sides -/
theorem num_cases (nb : Nat) (hnb : nb ≤ 8) (b : Int32) : (b < 0 ∧ True) ∨ (¬ b < 0 ∧ ¬ b < nI nb ∧ ¬ b ≤ nI nb - 1) ∨ (¬ b < 0 ∧ b < nI nb ∧ b ≤ nI nb - 1 ∧ ∃ k : Nat, k < nb ∧ b = nI k) := by
  by_cases h0 : b < 0
  · exact Or.inl ⟨h0, trivial⟩
  right
  obtain ⟨j, hj, rfl⟩ := nI_of h0
  by_cases h1 : j < nb
  · right
    obtain ⟨m, rfl⟩ : ∃ m, nb = m + 1 := ⟨nb - 1, by omega⟩
    refine ⟨h0, nI_lt h1 (by omega), ?_, j, h1, rfl⟩
    rw [nI_pred]
    exact nI_le (by omega) (by omega)
  · left
    refine ⟨h0, nI_nlt (by omega) hj, ?_⟩
    intro q
    cases nb with
    | zero =>
      have q2 := Int32.le_iff_toInt_le.mp q
      rw [nI_toInt hj] at q2
      have : (nI 0 - 1).toInt = -1 := by decide
      omega
    | succ m =>
      rw [nI_pred] at q
      exact nI_ge (show m < j by omega) hj q
/-- an int from a to b, on both sides -/
theorem int_cases (n : Nat) (hn : n < 2 ^ 31) (b : Int32) : (b < 0 ∧ True) ∨ (¬ b < 0 ∧ ¬ b ≤ nI n) ∨ (¬ b < 0 ∧ b ≤ nI n ∧ ∃ k : Nat, k ≤ n ∧ b = nI k) := by
  by_cases h0 : b < 0
  · exact Or.inl ⟨h0, trivial⟩
  right
  by_cases h1 : b ≤ nI n
  · right
    obtain ⟨k, hk, rfl⟩ := nI_of2 (x := b) (M := nI n) (n := n) (nI_toInt hn) h0 h1
    exact ⟨h0, h1, k, hk, rfl⟩
  · exact Or.inl ⟨h0, h1⟩
