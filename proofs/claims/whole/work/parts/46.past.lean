/-! what was done before: push and remember -/
theorem FXR_32 : ∀ q ∈ FXR, q.1 ≠ 32 := by decide +kernel
theorem Wf_rR {h : aH} (w : Wf h) (f : Nat → Option Nat) : Wf (rR h 32 f) := by
  refine ⟨w.1, fun q hq => ?_⟩
  rw [hR_rR, if_neg (FXR_32 q hq)]
  exact w.2 q hq
theorem rR_rR (h : aH) (a : Nat) (f g : Nat → Option Nat) : rR (rR h a f) a g = rR h a g := by
  unfold rR
  simp [bx_uu]
theorem sR_rR (h : aH) (a j : Nat) (f : Nat → Option Nat) (x : Option Nat) : sR (rR h a f) a j x = rR h a (va_up f j x) := by
  unfold sR
  rw [rR_rR, hR_rR, if_pos rfl]
theorem rR_self (h : aH) (a : Nat) : rR h a (hR h a) = h := by
  unfold rR hR
  have : va_up h.2.2.2 a (h.2.2.2 a) = h.2.2.2 := by
    funext b
    unfold va_up
    split
    · rename_i e; rw [e]
    · rfl
  rw [this]
theorem aR_eq {h : aH} (w : Wf h) (a n : Nat) (e : SH[a]? = some (17, n)) (k : Nat) (hk : k < n) (hn : n < 2 ^ 31) : aR h a (nI k) = hR h a k := by
  unfold aR
  rw [w_ca w a 17 n e, if_pos (by unfold inb; exact decide_eq_true (vp_in_nI hk hn)), Option.bind_some, nI_clamp (by omega)]
theorem wR_eq {h : aH} (w : Wf h) (a n : Nat) (e : SH[a]? = some (17, n)) (k : Nat) (hk : k < n) (hn : n < 2 ^ 31) (x : Nat) (hx : x ∈ SL) : wR h a (nI k) x = some (sR h a k (some x)) := by
  unfold wR
  rw [w_ca w a 17 n e, if_pos (by unfold inb; exact decide_eq_true (vp_in_nI hk hn)), Option.bind_some, w_ck w x 6 (by rw [(SL_ok x hx).1]; rfl), nI_clamp (by omega)]
  rfl
/-- the class's past: how many, which states -/
def PastC (n : Nat) (Pp : Nat → Nat → Int32) (ad : Nat → Nat) (h : aH) : Prop :=
  hI h 31 3 = nI n ∧ (∀ i, i < 12 → hR h 32 i = some (ad i) ∧ isSt (ad i)) ∧ (∀ i j, i < 12 → j < 12 → ad i = ad j → i = j) ∧ ∀ i, i < n → SR (hI h (ad i)) (hI h (ad i + 1)) (hI h (ad i + 2)) (Pp i)
def PastM (n : Nat) (Pp : Nat → Nat → Int32) (h : aH) : Prop := hI h 86 24 = nI n ∧ ∀ i, i < n → ∀ k, k < 16 → hI h 97 (16 * i + k) = Pp i k
def pshN (n : Nat) : Nat := if n = 12 then 12 else n + 1
def pshP (n : Nat) (Pp : Nat → Nat → Int32) (x : Nat → Int32) : Nat → Nat → Int32 := if n = 12 then (fun i => if i = 11 then x else Pp (i + 1)) else (fun i => if i = n then x else Pp i)
theorem drop_eq {h : aH} (w : Wf h) {Pp : Nat → Nat → Int32} {ad : Nat → Nat} (hp : PastC 12 Pp ad h) : ∃ h', fn_X2_dropOldest h 31 = some h' ∧ Wf h' ∧ hJ h' = hJ h ∧ (∀ a, a ≠ 32 → hR h' a = hR h a) ∧ (∀ a, a ≠ 31 → hI h' a = hI h a) ∧ (∀ j, j ≠ 3 → hI h' 31 j = hI h 31 j) ∧ PastC 11 (fun i => Pp (i + 1)) (fun i => if i = 11 then ad 0 else ad (i + 1)) h' := by
  obtain ⟨p1, p2, p3, p4⟩ := hp
  obtain ⟨F, eF⟩ : ∃ F : Nat → Nat → Option Nat, F = fun k j => if j < k then hR h 32 (j + 1) else hR h 32 j := ⟨_, rfl⟩
  have wk : ∀ k, Wf (rR h 32 (F k)) := fun k => Wf_rR w _
  have e0 : rR h 32 (F 0) = h := by
    have : F 0 = hR h 32 := by rw [eF]; funext j; simp
    rw [this, rR_self]
  have loop : lp (lb_X2_dropOldest_9 31 (ad 0)) lpN (1, h) = some (rR h 32 (F 11)) := by
    refine lp_run (fun k => (nI (k + 1), rR h 32 (F k))) 11 _ ?_ ?_ (by decide) (by rw [e0]; rfl)
    · intro k hk
      have c1 : nI (k + 1) < 12 := nI_lt (b := 12) (by omega) (by decide)
      have f1 : F k (k + 1) = some (ad (k + 1)) := by rw [eF]; dsimp only; rw [if_neg (by omega)]; exact (p2 (k + 1) (by omega)).1
      unfold lb_X2_dropOldest_9
      simp only [c1, if_true, g_31_0 (wk k), Option.bind_some, aR_eq (wk k) 32 12 rfl (k + 1) (by omega) (by decide), hR_rR, f1, nI_pred, wR_eq (wk k) 32 12 rfl k (by omega) (by decide) _ (SL_st (p2 (k + 1) (by omega)).2), sR_rR, nI_1]
      have : va_up (F k) k (some (ad (k + 1))) = F (k + 1) := by
        funext j
        rw [eF]
        unfold va_up
        by_cases hj : j = k
        · subst hj
          simp
          exact (p2 (j + 1) (by omega)).1.symm
        · by_cases hj2 : j < k
          · simp [hj, hj2, show j < k + 1 by omega]
          · simp [hj, hj2, show ¬ j < k + 1 by omega]
      rw [this]
    · unfold lb_X2_dropOldest_9
      rfl
  have w1 := wk 11
  obtain ⟨G, eG⟩ : ∃ G, G = rR h 32 (va_up (F 11) 11 (some (ad 0))) := ⟨_, rfl⟩
  have wG : Wf G := by rw [eG]; exact Wf_rR w _
  refine ⟨sI G 31 3 (nI 11), ?_, wG, by rw [eG]; rfl, fun a ha => by rw [hR_sI, eG, hR_rR, if_neg ha], fun a ha => by rw [hI_sI_r, if_neg ha, eG]; rfl, fun j hj => by rw [hI_sI]; simp [hj]; rw [eG]; rfl, ?_⟩
  · unfold fn_X2_dropOldest
    have a0 : aR h 32 0 = some (ad 0) := by
      have := aR_eq w 32 12 rfl 0 (by decide) (by decide)
      rw [(p2 0 (by decide)).1] at this
      exact this
    have w11 : wR (rR h 32 (F 11)) 32 11 (ad 0) = some G := by
      have := wR_eq w1 32 12 rfl 11 (by decide) (by decide) (ad 0) (SL_st (p2 0 (by decide)).2)
      rw [sR_rR] at this
      rw [eG]
      exact this
    have s12 : hI G 31 3 = nI 12 := by rw [eG]; exact p1
    simp only [g_31_0 w, Option.bind_some, a0, loop, g_31_0 w1, w11, w_gI wG 31 1 3 rfl, s12, w_pI wG 31 1 3 _ rfl]
    rfl
  · refine ⟨by rw [hI_sI]; simp, fun i hi => ?_, fun i j hi hj hij => ?_, fun i hi => ?_⟩
    · rw [hR_sI, eG, hR_rR, if_pos rfl]
      unfold va_up
      by_cases h11 : i = 11
      · simp only [h11, if_true]
        exact ⟨trivial, (p2 0 (by decide)).2⟩
      · simp only [h11, if_false]
        rw [eF]
        simp only [show i < 11 by omega, if_true]
        exact p2 (i + 1) (by omega)
    · dsimp only at hij
      by_cases hi1 : i = 11 <;> by_cases hj1 : j = 11
      · omega
      · simp only [hi1, hj1, if_true, if_false] at hij
        have := p3 0 (j + 1) (by decide) (by omega) hij
        omega
      · simp only [hi1, hj1, if_true, if_false] at hij
        have := p3 (i + 1) 0 (by omega) (by decide) hij
        omega
      · simp only [hi1, hj1, if_false] at hij
        have := p3 (i + 1) (j + 1) (by omega) (by omega) hij
        omega
    · simp only [show ¬ i = 11 by omega, if_false]
      obtain ⟨z, hz, hz2⟩ := (p2 (i + 1) (by omega)).2
      have e1 : ∀ a, 33 ≤ a → hI (sI G 31 3 (nI 11)) a = hI h a := fun a ha => by rw [hI_sI_r, if_neg (by omega), eG]; rfl
      rw [e1 _ (by omega), e1 _ (by omega), e1 _ (by omega)]
      exact p4 (i + 1) (by omega)
theorem push_eq {h : aH} (w : Wf h) {n : Nat} {Pp : Nat → Nat → Int32} {ad : Nat → Nat} (hn : n ≤ 12) (hp : PastC n Pp ad h) {x : Nat → Int32} (hx : SR (hI h 25) (hI h 26) (hI h 27) x) :
    ∃ h' ad', fn_X2_push h 31 25 = some h' ∧ Wf h' ∧ hJ h' = hJ h ∧ (∀ a, a ≠ 32 → hR h' a = hR h a) ∧ (∀ a, (a < 33 ∨ 69 ≤ a) → a ≠ 31 → hI h' a = hI h a) ∧ (∀ j, j ≠ 3 → hI h' 31 j = hI h 31 j) ∧ PastC (pshN n) (pshP n Pp x) ad' h' := by
  -- with room
  have room : ∀ (m : Nat) (Pq : Nat → Nat → Int32) (aq : Nat → Nat) (g : aH), Wf g → m < 12 → PastC m Pq aq g → SR (hI g 25) (hI g 26) (hI g 27) x → ∃ g', ((gR g 31 1 0).bind fun a3 => (gI g 31 1 3).bind fun x4 => (aR g a3 x4).bind fun a5 => (ck g a5 6).bind fun _ => (fn_X7_takes g a5 25).bind fun h7 => (gI h7 31 1 3).bind fun x8 => (pI h7 31 1 3 (x8 + 1)).bind fun h9 => some h9) = some g' ∧
      Wf g' ∧ hJ g' = hJ g ∧ hR g' = hR g ∧ (∀ a, (a < 33 ∨ 69 ≤ a) → a ≠ 31 → hI g' a = hI g a) ∧ (∀ j, j ≠ 3 → hI g' 31 j = hI g 31 j) ∧ PastC (m + 1) (fun i => if i = m then x else Pq i) aq g' := by
    intro m Pq aq g wg hm ⟨p1, p2, p3, p4⟩ hxg
    obtain ⟨a1, a2⟩ := p2 m hm
    have a2' := a2
    obtain ⟨z, hz, hz2⟩ := a2'
    obtain ⟨g1, t1, t2, t3, t4, t5, t6⟩ := takes_eq wg (SL_st a2) (show 25 ∈ SL by decide) (show aq m ≠ 25 by omega)
    have s1 : hI g1 31 3 = nI m := by rw [t5 31 (by omega)]; exact p1
    refine ⟨sI g1 31 3 (nI (m + 1)), ?_, t2, t3, t4, fun a ha h31 => by rw [hI_sI_r, if_neg h31]; exact t5 a (by omega), fun j hj => by rw [hI_sI]; simp [hj]; rw [t5 31 (by omega)], ?_⟩
    · simp only [g_31_0 wg, Option.bind_some, w_gI wg 31 1 3 rfl, p1, aR_eq wg 32 12 rfl m hm (by decide), a1, w_ck wg (aq m) 6 (by rw [(SL_ok _ (SL_st a2)).1]; rfl), t1, w_gI t2 31 1 3 rfl, s1, w_pI t2 31 1 3 _ rfl, nI_1]
    · refine ⟨by rw [hI_sI]; simp, fun i hi => by rw [hR_sI, t4]; exact p2 i hi, p3, fun i hi => ?_⟩
      obtain ⟨zi, hzi, hzi2⟩ := (p2 i (by omega)).2
      have e1 : ∀ a, 33 ≤ a → hI (sI g1 31 3 (nI (m + 1))) a = hI g1 a := fun a ha => by rw [hI_sI_r, if_neg (by omega)]
      rw [e1 _ (by omega), e1 _ (by omega), e1 _ (by omega)]
      by_cases him : i = m
      · subst him
        simp only [if_true]
        exact t6 x hxg
      · simp only [him, if_false]
        have hne : aq i ≠ aq m := fun q => him (p3 i m (by omega) hm q)
        have ap := SL_apart (aq i) (SL_st (p2 i (by omega)).2) (aq m) (SL_st a2) hne
        rw [t5 _ (by omega), t5 _ (by omega), t5 _ (by omega)]
        exact p4 i (by omega)
  unfold fn_X2_push
  by_cases hf : n = 12
  · subst hf
    obtain ⟨g, d1, d2, d3, d4, d5, d6, d7⟩ := drop_eq w hp
    obtain ⟨g', f1, f2, f3, f4, f5, f6, f7⟩ := room 11 _ _ g d2 (by decide) d7 (by rw [d5 25 (by decide), d5 26 (by decide), d5 27 (by decide)]; exact hx)
    refine ⟨g', _, ?_, f2, f3.trans d3, fun a ha => by rw [f4]; exact d4 a ha, fun a ha h31 => (f5 a ha h31).trans (d5 a h31), fun j hj => (f6 j hj).trans (d6 j hj), f7⟩
    have e12 : hI h 31 3 = 12 := hp.1
    simp only [w_gI w 31 1 3 rfl, Option.bind_some, e12, if_true, k_31 w, d1]
    exact f1
  · obtain ⟨g', f1, f2, f3, f4, f5, f6, f7⟩ := room n _ _ h w (by omega) hp hx
    refine ⟨g', ad, ?_, f2, f3, fun a _ => by rw [f4], f5, f6, ?_⟩
    · have e12 : ¬ hI h 31 3 = 12 := by rw [hp.1]; exact fun q => hf ((nI_eq (b := 12) (by omega) (by decide)).mp q)
      simp only [w_gI w 31 1 3 rfl, Option.bind_some, e12, if_false]
      have := f1
      simp only [w_gI w 31 1 3 rfl, Option.bind_some] at this
      exact this
    · unfold pshN pshP
      rw [if_neg hf, if_neg hf]
      exact f7
