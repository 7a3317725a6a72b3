/-! orders of boats: the class's next order, on lists -/
theorem lp_sim {σ ρ τ κ : Type} {bS : σ → Option (σ ⊕ ρ)} {bT : τ → Option (τ ⊕ κ)} (R : σ → τ → Prop) (Q : ρ → κ → Prop)
    (h1 : ∀ s t t', R s t → bT t = some (.inl t') → ∃ s', bS s = some (.inl s') ∧ R s' t') (h2 : ∀ s t r, R s t → bT t = some (.inr r) → ∃ q, bS s = some (.inr q) ∧ Q q r) :
    ∀ n s t r, R s t → lp bT n t = some r → ∃ q, lp bS n s = some q ∧ Q q r := by
  intro n
  induction n with
  | zero => intro s t r _ h; cases h
  | succ n ih =>
    intro s t r hR h
    unfold lp at h
    split at h
    · cases h
    · rename_i t' e
      obtain ⟨s', e', R'⟩ := h1 s t t' hR e
      obtain ⟨q, f, g⟩ := ih s' t' r R' h
      exact ⟨q, by unfold lp; rw [e']; exact f, g⟩
    · rename_i r' e
      cases h
      obtain ⟨q, e', g⟩ := h2 s t _ hR e
      exact ⟨q, by unfold lp; rw [e'], g⟩
def ixL (p : List Nat) (s : Int32) : Option Nat := (List.range p.length).find? (fun k => nI k == s)
theorem ixL_some {p : List Nat} {s : Int32} {k : Nat} (h : ixL p s = some k) : k < p.length ∧ s = nI k := by
  unfold ixL at h
  have h1 := List.mem_of_find?_eq_some h
  have h2 := List.find?_some h
  exact ⟨List.mem_range.mp h1, (beq_iff_eq.mp h2).symm⟩
def gtL (p : List Nat) (s : Int32) : Option Int32 := (ixL p s).bind fun k => some (nI (p.getD k 0))
def swL (p : List Nat) (s t : Int32) : Option (List Nat) := (ixL p s).bind fun a => (ixL p t).bind fun b => some ((p.set a (p.getD b 0)).set b (p.getD a 0))
def n7L (p : List Nat) (s : Int32) : Option (Int32 ⊕ Int32) :=
  if s < 0 then some (.inr s) else (gtL p s).bind fun x4 => (gtL p (s + 1)).bind fun x6 => if x4 ≤ x6 then some (.inr s) else some (.inl (s + (-1)))
def n47L (p : List Nat) (v : Int32) (s : Int32) : Option (Int32 ⊕ Int32) :=
  if s ≤ v then some (.inr s) else (gtL p s).bind fun x17 => (gtL p v).bind fun x19 => if x17 < x19 then some (.inl (s + (-1))) else some (.inr s)
def n91L (s : Int32 × Int32 × List Nat) : Option ((Int32 × Int32 × List Nat) ⊕ (Int32 × List Nat)) :=
  if s.1 < s.2.1 then (swL s.2.2 s.1 s.2.1).bind fun q => some (.inl (s.1 + 1, s.2.1 + (-1), q)) else some (.inr (1, s.2.2))
def nxL (p : List Nat) : Option (Int32 × List Nat) :=
  (lp (n7L p) lpN (nI p.length - 2)).bind fun o10 =>
  if o10 < 0 then some (0, p) else
    (lp (n47L p o10) lpN (nI p.length - 1)).bind fun o23 =>
    (swL p o10 o23).bind fun p27 => lp n91L lpN (o10 + 1, nI p.length - 1, p27)
def vis (n : Nat) : Nat → List Nat → List (List Nat)
  | 0, p => [p]
  | r + 1, p => (List.range n).flatMap fun s => if p.contains s = true then [] else vis n r (p ++ [s])
def permL (n : Nat) : List (List Nat) := vis n n []
def chain : List (List Nat) → Bool
  | [] => true
  | [p] => nxL p == some (0, p)
  | p :: q :: r => nxL p == some (1, q) && chain (q :: r)
theorem chain_ok : ∀ n, n < 7 → chain (permL n) = true := by decide +kernel
theorem perm_ok : ∀ n, n < 7 → (permL n).all (fun p => p.length == n && p.all (fun s => decide (s < n))) = true := by decide +kernel
theorem perm_len : ∀ n, n < 7 → (permL n).length ≤ 720 ∧ 0 < (permL n).length ∧ (permL n).getD 0 [] = List.range n := by decide +kernel
theorem chain_get : ∀ (L : List (List Nat)), chain L = true → ∀ k, k < L.length → nxL (L.getD k []) = some (if k + 1 < L.length then (1, L.getD (k + 1) []) else (0, L.getD k []))
  | [], _, k, h => absurd h (Nat.not_lt_zero _)
  | [p], c, k, h => by
    have hk : k = 0 := by simp at h; exact h
    subst hk
    have c' : (nxL p == some (0, p)) = true := c
    rw [if_neg (by simp)]
    exact beq_iff_eq.mp c'
  | p :: q :: r, c, k, h => by
    have c' : (nxL p == some (1, q) && chain (q :: r)) = true := c
    rw [Bool.and_eq_true] at c'
    cases k with
    | zero =>
      rw [if_pos (by simp)]
      exact beq_iff_eq.mp c'.1
    | succ k =>
      have := chain_get (q :: r) c'.2 k (by simpa using h)
      rw [show (p :: q :: r).getD (k + 1) [] = (q :: r).getD k [] from rfl, show (p :: q :: r).getD (k + 1 + 1) [] = (q :: r).getD (k + 1) [] from rfl, this]
      by_cases c2 : k + 1 < (q :: r).length
      · rw [if_pos c2, if_pos (by simpa using c2)]
      · rw [if_neg c2, if_neg (by simpa using c2)]
/-- a row of turns -/
def TR (p : List Nat) (h : aH) : Prop := ∀ i, i < p.length → hI h 12 i = nI (p.getD i 0)
def twl (a j : Nat) : Bool := a == 12
theorem gtL_C {h : aH} (w : Wf h) {p : List Nat} (hp : p.length ≤ 6) (R : TR p h) {s v : Int32} (e : gtL p s = some v) : aI h 12 14 s = some v := by
  unfold gtL at e
  cases q : ixL p s with
  | none => rw [q] at e; cases e
  | some k =>
    rw [q] at e
    obtain ⟨k1, k2⟩ := ixL_some q
    have e' : some (nI (p.getD k 0)) = some v := e
    rw [k2, aI_eq w 12 14 6 rfl k (by omega) (by decide), R k k1, ← e']
theorem swL_C {h : aH} (w : Wf h) {p q : List Nat} (hp : p.length ≤ 6) (R : TR p h) {s t : Int32} (e : swL p s t = some q) : ∃ h', fn_X9_swap h 11 s t = some h' ∧ Fr twl h h' ∧ q.length = p.length ∧ TR q h' := by
  unfold swL at e
  cases e1 : ixL p s with
  | none => rw [e1] at e; cases e
  | some a =>
    cases e2 : ixL p t with
    | none => rw [e1, e2] at e; cases e
    | some b =>
      rw [e1, e2] at e
      have e' : (p.set a (p.getD b 0)).set b (p.getD a 0) = q := Option.some.inj e
      obtain ⟨a1, rfl⟩ := ixL_some e1
      obtain ⟨b1, rfl⟩ := ixL_some e2
      have w2 : Wf (sI h 12 a (nI (p.getD b 0))) := w
      refine ⟨sI (sI h 12 a (nI (p.getD b 0))) 12 b (nI (p.getD a 0)), ?_, ((Fr.refl _ _).sI _ rfl).sI _ rfl, by rw [← e']; simp, ?_⟩
      · unfold fn_X9_swap
        simp only [g_11_0 w, Option.bind_some, aI_eq w 12 14 6 rfl a (by omega) (by decide), aI_eq w 12 14 6 rfl b (by omega) (by decide), R a a1, R b b1, wI_eq w 12 6 rfl a (by omega) (by decide), g_11_0 w2, wI_eq w2 12 6 rfl b (by omega) (by decide)]
      · rw [← e']
        intro i hi
        have hi' : i < p.length := by simpa using hi
        rw [hI_row, hI_row]
        simp only [List.getD_eq_getElem?_getD, List.getElem?_set, List.length_set]
        by_cases c1 : i = b
        · subst c1; simp [b1]
        · have c1' : ¬ b = i := fun q => c1 q.symm
          by_cases c2 : i = a
          · subst c2; simp [c1, c1', a1]
          · have c2' : ¬ a = i := fun q => c2 q.symm
            simp only [if_neg c1, if_neg c2, if_neg c1', if_neg c2']
            have := R i hi'
            rw [List.getD_eq_getElem?_getD] at this
            exact this
theorem nxL_C {h : aH} (w : Wf h) {p q : List Nat} (hp : p.length ≤ 6) (hsz : hI h 11 2 = nI p.length) (R : TR p h) {r : Int32} (e : nxL p = some (r, q)) : ∃ h', fn_X9_next h 11 = some (r, h') ∧ Fr twl h h' ∧ q.length = p.length ∧ TR q h' := by
  unfold nxL at e
  cases e1 : lp (n7L p) lpN (nI p.length - 2) with
  | none => rw [e1] at e; cases e
  | some o10 =>
    rw [e1, Option.bind_some] at e
    obtain ⟨o, f1, rfl⟩ : ∃ o, lp (lb_X9_next_7 h 11) lpN (nI p.length - 2) = some o ∧ o = o10 := by
      refine lp_sim (fun s t => s = t) (fun s t => s = t) ?_ ?_ lpN _ _ _ rfl e1
      · rintro s _ t' rfl e
        unfold n7L at e
        by_cases c : s < 0
        · rw [if_pos c] at e; cases e
        · rw [if_neg c] at e
          cases g1 : gtL p s with
          | none => rw [g1] at e; cases e
          | some x4 =>
            cases g2 : gtL p (s + 1) with
            | none => rw [g1, g2] at e; cases e
            | some x6 =>
              rw [g1, g2, Option.bind_some, Option.bind_some] at e
              refine ⟨t', ?_, rfl⟩
              unfold lb_X9_next_7
              rw [if_neg c]
              simp only [g_11_0 w, Option.bind_some, gtL_C w hp R g1, gtL_C w hp R g2]
              exact e
      · rintro s _ t' rfl e
        unfold n7L at e
        refine ⟨t', ?_, rfl⟩
        unfold lb_X9_next_7
        by_cases c : s < 0
        · rw [if_pos c] at e ⊢; exact e
        · rw [if_neg c] at e ⊢
          cases g1 : gtL p s with
          | none => rw [g1] at e; cases e
          | some x4 =>
            cases g2 : gtL p (s + 1) with
            | none => rw [g1, g2] at e; cases e
            | some x6 =>
              rw [g1, g2, Option.bind_some, Option.bind_some] at e
              simp only [g_11_0 w, Option.bind_some, gtL_C w hp R g1, gtL_C w hp R g2]
              exact e
    have top : ∀ {r : Int32 × aH}, (if o < 0 then some ((0 : Int32), h) else (lp (lb_X9_next_47 h 11 o) lpN (nI p.length - 1)).bind fun o23 => (fn_X9_swap h 11 o o23).bind fun h27 => (gI h27 11 8 2).bind fun x29 => (lp (lb_X9_next_91 11) lpN (o + 1, x29 - 1, h27)).bind fun o36 => some o36) = some r → fn_X9_next h 11 = some r := by
      intro r hr
      unfold fn_X9_next
      simp only [w_gI w 11 8 2 rfl, hsz, Option.bind_some, f1, k_11 w]
      exact hr
    by_cases c : o < 0
    · rw [if_pos c] at e
      cases e
      exact ⟨h, top (by rw [if_pos c]), Fr.refl _ _, rfl, R⟩
    · rw [if_neg c] at e
      cases e2 : lp (n47L p o) lpN (nI p.length - 1) with
      | none => rw [e2] at e; cases e
      | some o23 =>
        rw [e2, Option.bind_some] at e
        obtain ⟨o', f2, rfl⟩ : ∃ o', lp (lb_X9_next_47 h 11 o) lpN (nI p.length - 1) = some o' ∧ o' = o23 := by
          refine lp_sim (fun s t => s = t) (fun s t => s = t) ?_ ?_ lpN _ _ _ rfl e2
          · rintro s _ t' rfl e
            unfold n47L at e
            refine ⟨t', ?_, rfl⟩
            unfold lb_X9_next_47
            by_cases c : s ≤ o
            · rw [if_pos c] at e; cases e
            · rw [if_neg c] at e ⊢
              cases g1 : gtL p s with
              | none => rw [g1] at e; cases e
              | some x4 =>
                cases g2 : gtL p o with
                | none => rw [g1, g2] at e; cases e
                | some x6 =>
                  rw [g1, g2, Option.bind_some, Option.bind_some] at e
                  simp only [g_11_0 w, Option.bind_some, gtL_C w hp R g1, gtL_C w hp R g2]
                  exact e
          · rintro s _ t' rfl e
            unfold n47L at e
            refine ⟨t', ?_, rfl⟩
            unfold lb_X9_next_47
            by_cases c : s ≤ o
            · rw [if_pos c] at e ⊢; exact e
            · rw [if_neg c] at e ⊢
              cases g1 : gtL p s with
              | none => rw [g1] at e; cases e
              | some x4 =>
                cases g2 : gtL p o with
                | none => rw [g1, g2] at e; cases e
                | some x6 =>
                  rw [g1, g2, Option.bind_some, Option.bind_some] at e
                  simp only [g_11_0 w, Option.bind_some, gtL_C w hp R g1, gtL_C w hp R g2]
                  exact e
        cases e3 : swL p o o' with
        | none => rw [e3] at e; cases e
        | some p27 =>
          rw [e3, Option.bind_some] at e
          obtain ⟨h27, f3, F3, l3, R3⟩ := swL_C w hp R e3
          obtain ⟨r', f4, ⟨z1, z2, z3, z4⟩⟩ : ∃ r', lp (lb_X9_next_91 11) lpN (o + 1, nI p.length - 1, h27) = some r' ∧ (r'.1 = r ∧ Fr twl h r'.2 ∧ q.length = p.length ∧ TR q r'.2) := by
            refine lp_sim (fun (s : Int32 × Int32 × aH) (t : Int32 × Int32 × List Nat) => s.1 = t.1 ∧ s.2.1 = t.2.1 ∧ Fr twl h s.2.2 ∧ t.2.2.length = p.length ∧ TR t.2.2 s.2.2) (fun (s : Int32 × aH) (t : Int32 × List Nat) => s.1 = t.1 ∧ Fr twl h s.2 ∧ t.2.length = p.length ∧ TR t.2 s.2) ?_ ?_ lpN _ _ _ ⟨rfl, rfl, F3, l3, R3⟩ e
            · rintro ⟨s1, s2, g⟩ ⟨t1, t2, pp⟩ t' ⟨rfl, rfl, F, hl, R'⟩ e
              dsimp only at F hl R'
              unfold n91L at e
              unfold lb_X9_next_91
              dsimp only at e ⊢
              by_cases c : s1 < s2
              · rw [if_pos c] at e ⊢
                cases e5 : swL pp s1 s2 with
                | none => rw [e5] at e; cases e
                | some p5 =>
                  rw [e5, Option.bind_some] at e
                  obtain ⟨h5, f5, F5, l5, R5⟩ := swL_C (F.wf w) (by omega) R' e5
                  cases e
                  refine ⟨(s1 + 1, s2 + (-1), h5), ?_, rfl, rfl, F.trans F5, l5.trans hl, R5⟩
                  simp only [k_11 (F.wf w), Option.bind_some, f5]
              · rw [if_neg c] at e; cases e
            · rintro ⟨s1, s2, g⟩ ⟨t1, t2, pp⟩ t' ⟨rfl, rfl, F, hl, R'⟩ e
              dsimp only at F hl R'
              unfold n91L at e
              unfold lb_X9_next_91
              dsimp only at e ⊢
              by_cases c : s1 < s2
              · rw [if_pos c] at e
                cases e5 : swL pp s1 s2 with
                | none => rw [e5] at e; cases e
                | some p5 => rw [e5, Option.bind_some] at e; cases e
              · rw [if_neg c] at e ⊢
                cases e
                exact ⟨_, rfl, rfl, F, hl, R'⟩
          obtain ⟨r1, h'⟩ := r'
          dsimp only at z1 z2 z3 z4
          subst z1
          refine ⟨h', top ?_, z2, z3, z4⟩
          have s27 : gI h27 11 8 2 = some (nI p.length) := by rw [w_gI (F3.wf w) 11 8 2 rfl, F3.i 11 2 rfl, hsz]
          rw [if_neg c]
          simp only [f2, f3, s27, f4, Option.bind_some]
