/-! what was done before: push and remember, with frames -/
theorem rR_rR (h : aH) (a : Nat) (f g : Nat → Option Nat) : rR (rR h a f) a g = rR h a g := by
  unfold rR
  simp [bx_uu]
theorem sR_rR (h : aH) (a j : Nat) (f : Nat → Option Nat) (x : Option Nat) : sR (rR h a f) a j x = rR h a (va_up f j x) := by
  unfold sR
  rw [rR_rR, hR_rR, if_pos rfl]
theorem rR_self (h : aH) (a : Nat) : rR h a (hR h a) = h := by
  unfold rR hR
  have : va_up h.2.2.2 a (h.2.2.2 a) = h.2.2.2 := by
    funext b
    unfold va_up
    split
    · rename_i e; rw [e]
    · rfl
  rw [this]
theorem aR_eq {h : aH} (w : Wf h) (a n : Nat) (e : SH[a]? = some (17, n)) (k : Nat) (hk : k < n) (hn : n < 2 ^ 31) : aR h a (nI k) = hR h a k := by
  unfold aR
  rw [w_ca w a 17 n e, if_pos (by unfold inb; exact decide_eq_true (vp_in_nI hk hn)), Option.bind_some, nI_clamp (by omega)]
theorem wR_eq {h : aH} (w : Wf h) (a n : Nat) (e : SH[a]? = some (17, n)) (k : Nat) (hk : k < n) (hn : n < 2 ^ 31) (x : Nat) (hx : x ∈ SL) : wR h a (nI k) x = some (sR h a k (some x)) := by
  unfold wR
  rw [w_ca w a 17 n e, if_pos (by unfold inb; exact decide_eq_true (vp_in_nI hk hn)), Option.bind_some, w_ck w x 6 (by rw [(SL_ok x hx).1]; rfl), nI_clamp (by omega)]
  rfl
theorem Fr.rR {S : Nat → Nat → Bool} {h h1 : aH} (f : Fr S h h1) {a : Nat} (g : Nat → Option Nat) (e : ∀ j, S a j = true) (e2 : ∀ j, rx a j = true) : Fr S h (rR h1 a g) := by
  refine f.trans ⟨rfl, fun p i hs => ⟨rfl, rfl⟩, fun p i hs => ?_⟩
  rw [hR_rR]
  rw [if_neg]
  rintro rfl
  rw [e, e2] at hs
  rcases hs with hs | hs <;> cases hs
def psC (a j : Nat) : Bool := (a == 31 && j == 3) || (a == 32 || decide (33 ≤ a ∧ a < 69))
def psM (a j : Nat) : Bool := (a == 86 && j == 24) || a == 97
def pshN (n : Nat) : Nat := if n = 12 then 12 else n + 1
def pshP (n : Nat) (Pp : Nat → XX) (x : XX) : Nat → XX := if n = 12 then (fun i => if i = 11 then x else Pp (i + 1)) else (fun i => if i = n then x else Pp i)
theorem Wf_rR {h : aH} (w : Wf h) (f : Nat → Option Nat) : Wf (rR h 32 f) := ((Fr.refl (fun _ _ => true) h).rR (a := 32) f (fun _ => rfl) (fun _ => rfl)).wf w
theorem drop_eq {h : aH} (w : Wf h) {Pp : Nat → XX} {ad : Nat → Nat} (hp : PastC 12 Pp ad h) : ∃ h', fn_X2_dropOldest h 31 = some h' ∧ Fr psC h h' ∧ PastC 11 (fun i => Pp (i + 1)) (fun i => if i = 11 then ad 0 else ad (i + 1)) h' := by
  obtain ⟨p1, p2, p3, p4⟩ := hp
  obtain ⟨F, eF⟩ : ∃ F : Nat → Nat → Option Nat, F = fun k j => if j < k then hR h 32 (j + 1) else hR h 32 j := ⟨_, rfl⟩
  have wk : ∀ k, Wf (rR h 32 (F k)) := fun k => Wf_rR w _
  have e0 : rR h 32 (F 0) = h := by
    have : F 0 = hR h 32 := by rw [eF]; funext j; simp
    rw [this, rR_self]
  have loop : lp (lb_X2_dropOldest_9 31 (ad 0)) lpN (1, h) = some (rR h 32 (F 11)) := by
    refine lp_run (fun k => (nI (k + 1), rR h 32 (F k))) 11 _ ?_ ?_ (by decide) (by rw [e0]; rfl)
    · intro k hk
      have c1 : nI (k + 1) < 12 := nI_lt (b := 12) (by omega) (by decide)
      have f1 : F k (k + 1) = some (ad (k + 1)) := by rw [eF]; dsimp only; rw [if_neg (by omega)]; exact (p2 (k + 1) (by omega)).1
      unfold lb_X2_dropOldest_9
      simp only [c1, if_true, g_31_0 (wk k), Option.bind_some, aR_eq (wk k) 32 12 rfl (k + 1) (by omega) (by decide), hR_rR, f1, nI_pred, wR_eq (wk k) 32 12 rfl k (by omega) (by decide) _ (SL_st (p2 (k + 1) (by omega)).2), sR_rR, nI_1]
      have : va_up (F k) k (some (ad (k + 1))) = F (k + 1) := by
        funext j
        rw [eF]
        unfold va_up
        by_cases hj : j = k
        · subst hj
          simp
          exact (p2 (j + 1) (by omega)).1.symm
        · by_cases hj2 : j < k
          · simp [hj, hj2, show j < k + 1 by omega]
          · simp [hj, hj2, show ¬ j < k + 1 by omega]
      rw [this]
    · unfold lb_X2_dropOldest_9
      rfl
  have w1 := wk 11
  obtain ⟨G, eG⟩ : ∃ G, G = rR h 32 (va_up (F 11) 11 (some (ad 0))) := ⟨_, rfl⟩
  have wG : Wf G := by rw [eG]; exact Wf_rR w _
  refine ⟨sI G 31 3 (nI 11), ?_, by rw [eG]; exact ((Fr.refl _ h).rR _ (fun _ => rfl) (fun _ => rfl)).sI _ rfl, ?_⟩
  · unfold fn_X2_dropOldest
    have a0 : aR h 32 0 = some (ad 0) := by
      have := aR_eq w 32 12 rfl 0 (by decide) (by decide)
      rw [(p2 0 (by decide)).1] at this
      exact this
    have w11 : wR (rR h 32 (F 11)) 32 11 (ad 0) = some G := by
      have := wR_eq w1 32 12 rfl 11 (by decide) (by decide) (ad 0) (SL_st (p2 0 (by decide)).2)
      rw [sR_rR] at this
      rw [eG]
      exact this
    have s12 : hI G 31 3 = nI 12 := by rw [eG]; exact p1
    simp only [g_31_0 w, Option.bind_some, a0, loop, g_31_0 w1, w11, w_gI wG 31 1 3 rfl, s12, w_pI wG 31 1 3 _ rfl]
    rfl
  · refine ⟨by rw [hI_sI]; simp, fun i hi => ?_, fun i j hi hj hij => ?_, fun i hi => ?_⟩
    · rw [hR_sI, eG, hR_rR, if_pos rfl]
      unfold va_up
      by_cases h11 : i = 11
      · simp only [h11, if_true]
        exact ⟨trivial, (p2 0 (by decide)).2⟩
      · simp only [h11, if_false]
        rw [eF]
        simp only [show i < 11 by omega, if_true]
        exact p2 (i + 1) (by omega)
    · dsimp only at hij
      by_cases hi1 : i = 11 <;> by_cases hj1 : j = 11
      · omega
      · simp only [hi1, hj1, if_true, if_false] at hij
        have := p3 0 (j + 1) (by decide) (by omega) hij
        omega
      · simp only [hi1, hj1, if_true, if_false] at hij
        have := p3 (i + 1) 0 (by omega) (by decide) hij
        omega
      · simp only [hi1, hj1, if_false] at hij
        have := p3 (i + 1) (j + 1) (by omega) (by omega) hij
        omega
    · simp only [show ¬ i = 11 by omega, if_false]
      obtain ⟨z, hz, hz2⟩ := (p2 (i + 1) (by omega)).2
      have e1 : ∀ a, 33 ≤ a → hI (sI G 31 3 (nI 11)) a = hI h a := fun a ha => by rw [hI_sI_r, if_neg (by omega), eG]; rfl
      have := p4 (i + 1) (by omega)
      unfold St at this ⊢
      rw [e1 _ (by omega), e1 _ (by omega), e1 _ (by omega)]
      exact this
theorem tk_ps {k : Nat} (hk : isSt k) (a j : Nat) (e : psC a j = false) : tk k a j = false := by
  obtain ⟨i, hi, rfl⟩ := hk
  unfold psC at e
  unfold tk
  simp at e ⊢
  omega
theorem room_C {x : XX} {m : Nat} {Pq : Nat → XX} {aq : Nat → Nat} {g : aH} (wg : Wf g) (hm : m < 12) (hp : PastC m Pq aq g) (hxg : St g 25 x) : ∃ g', ((gR g 31 1 0).bind fun a3 => (gI g 31 1 3).bind fun x4 => (aR g a3 x4).bind fun a5 => (ck g a5 6).bind fun _ => (fn_X7_takes g a5 25).bind fun h7 => (gI h7 31 1 3).bind fun x8 => (pI h7 31 1 3 (x8 + 1)).bind fun h9 => some h9) = some g' ∧ Fr psC g g' ∧ PastC (m + 1) (fun i => if i = m then x else Pq i) aq g' := by
  obtain ⟨p1, p2, p3, p4⟩ := hp
  obtain ⟨a1, a2⟩ := p2 m hm
  have a2' := a2
  obtain ⟨z, hz, hz2⟩ := a2'
  obtain ⟨g1, t1, t2, t6⟩ := takes_eq wg (SL_st a2) (show 25 ∈ SL by decide) (show aq m ≠ 25 by omega)
  have w1 := t2.wf wg
  have t5 : ∀ a, (a < aq m ∨ aq m + 3 ≤ a) → hI g1 a = hI g a := fun a ha => t2.row a (fun j => by unfold tk; simp; omega)
  have s1 : hI g1 31 3 = nI m := by rw [t5 31 (by omega)]; exact p1
  refine ⟨sI g1 31 3 (nI (m + 1)), ?_, (t2.mono (tk_ps a2)).sI _ rfl, ?_⟩
  · simp only [g_31_0 wg, Option.bind_some, w_gI wg 31 1 3 rfl, p1, aR_eq wg 32 12 rfl m hm (by decide), a1, w_ck wg (aq m) 6 (by rw [(SL_ok _ (SL_st a2)).1]; rfl), t1, w_gI w1 31 1 3 rfl, s1, w_pI w1 31 1 3 _ rfl, nI_1]
  · refine ⟨by rw [hI_sI]; simp, fun i hi => ?_, p3, fun i hi => ?_⟩
    · rw [hR_sI, t2.r 32 i (Or.inl (by unfold tk; simp; omega))]; exact p2 i hi
    · obtain ⟨zi, hzi, hzi2⟩ := (p2 i (by omega)).2
      have e1 : ∀ a, 33 ≤ a → hI (sI g1 31 3 (nI (m + 1))) a = hI g1 a := fun a ha => by rw [hI_sI_r, if_neg (by omega)]
      unfold St
      rw [e1 _ (by omega), e1 _ (by omega), e1 _ (by omega)]
      by_cases him : i = m
      · subst him
        simp only [if_true]
        exact t6 x hxg
      · simp only [him, if_false]
        have hne : aq i ≠ aq m := fun q => him (p3 i m (by omega) hm q)
        have ap := SL_apart (aq i) (SL_st (p2 i (by omega)).2) (aq m) (SL_st a2) hne
        rw [t5 _ (by omega), t5 _ (by omega), t5 _ (by omega)]
        exact p4 i (by omega)
theorem push_eq {h : aH} (w : Wf h) {n : Nat} {Pp : Nat → XX} {ad : Nat → Nat} (hn : n ≤ 12) (hp : PastC n Pp ad h) {x : XX} (hx : St h 25 x) : ∃ h' ad', fn_X2_push h 31 25 = some h' ∧ Fr psC h h' ∧ PastC (pshN n) (pshP n Pp x) ad' h' := by
  unfold fn_X2_push
  by_cases hf : n = 12
  · subst hf
    obtain ⟨g, d1, d2, d7⟩ := drop_eq w hp
    obtain ⟨g', f1, f2, f7⟩ := room_C (d2.wf w) (by decide) d7 (St_to d2 (fun j => ⟨rfl, rfl, rfl⟩) hx)
    refine ⟨g', _, ?_, d2.trans f2, f7⟩
    have e12 : hI h 31 3 = 12 := hp.1
    simp only [w_gI w 31 1 3 rfl, Option.bind_some, e12, if_true, k_31 w, d1]
    exact f1
  · obtain ⟨g', f1, f2, f7⟩ := room_C w (by omega) hp hx
    refine ⟨g', ad, ?_, f2, ?_⟩
    · have e12 : ¬ hI h 31 3 = 12 := by rw [hp.1]; exact fun q => hf ((nI_eq (b := 12) (by omega) (by decide)).mp q)
      simp only [w_gI w 31 1 3 rfl, Option.bind_some, e12, if_false]
      have := f1
      simp only [w_gI w 31 1 3 rfl, Option.bind_some] at this
      exact this
    · unfold pshN pshP
      rw [if_neg hf, if_neg hf]
      exact f7
/-- the reference's remember -/
theorem remember_eq {h : aH} (w : Wf h) {n a na : Nat} {Pp : Nat → XX} (hn : n ≤ 12) (hp : PastM n Pp h) (ea : SH[a]? = some (14, na)) (ha : a ≠ 97 ∧ a ≠ 86) (hna : 16 ≤ na ∧ na < 10000) {x : XX} (hx : ∀ k, k < 16 → hI h a k = x k) :
    ∃ h', fn_X12_remember h 86 a = some h' ∧ Fr psM h h' ∧ PastM (pshN n) (pshP n Pp x) h' := by
  have room : ∀ (m : Nat) (Pq : Nat → XX) (g : aH), Wf g → m < 12 → PastM m Pq g → (∀ k, k < 16 → hI g a k = x k) → ∃ g', ((gR g 86 11 23).bind fun a4 => (gI g 86 11 24).bind fun x5 => (fn_X12_lay g a a4 (16 * x5)).bind fun h6 => (gI h6 86 11 24).bind fun x7 => (pI h6 86 11 24 (x7 + 1)).bind fun h8 => some h8) = some g' ∧
      Fr psM g g' ∧ PastM (m + 1) (fun i => if i = m then x else Pq i) g' := by
    intro m Pq g wg hm ⟨p1, p2⟩ hxg
    obtain ⟨L, eL⟩ : ∃ L, L = rI g 97 (va_cpy (hI g a) (hI g 97) 0 (16 * m) 16) := ⟨_, rfl⟩
    have wL : Wf L := by rw [eL]; exact wg
    have l1 : fn_X12_lay g a 97 (nI (16 * m)) = some L := by rw [eL]; exact lay_eq wg a 97 na 192 (16 * m) ea rfl ha.1 hna.1 (by omega) (by decide) hna.2
    have l2 : (16 : Int32) * nI m = nI (16 * m) := pk_mul 16 m
    have l3 : hI L 86 24 = nI m := by rw [eL]; exact p1
    refine ⟨sI L 86 24 (nI (m + 1)), ?_, by rw [eL]; exact ((Fr.refl _ g).rI _ (fun _ => rfl)).sI _ rfl, ?_⟩
    · simp only [g_86_23 wg, Option.bind_some, w_gI wg 86 11 24 rfl, p1, l2, l1, w_gI wL 86 11 24 rfl, l3, w_pI wL 86 11 24 _ rfl, nI_1]
    · refine ⟨by rw [hI_sI]; simp, fun i hi k hk => ?_⟩
      rw [hI_sI_r, if_neg (by decide), eL, hI_rI, if_pos rfl]
      by_cases him : i = m
      · subst him
        rw [cpy_in _ _ 0 _ 16 k hk, Nat.zero_add]
        simp only [if_true]
        exact hxg k hk
      · simp only [him, if_false]
        unfold va_cpy
        rw [if_neg (by omega)]
        exact p2 i (by omega) k hk
  unfold fn_X12_remember
  by_cases hf : n = 12
  · subst hf
    obtain ⟨F, eF⟩ : ∃ F : Nat → XX, F = fun k j => if j < k then hI h 97 (j + 16) else hI h 97 j := ⟨_, rfl⟩
    have wk : ∀ k, Wf (rI h 97 (F k)) := fun k => w
    have e0 : rI h 97 (F 0) = h := by
      have : F 0 = hI h 97 := by rw [eF]; funext j; simp
      rw [this, rI_self]
    have loop : lp (lb_X12_remember_11 86 a) lpN (0, h) = some (rI h 97 (F 176)) := by
      refine lp_run (fun k => (nI k, rI h 97 (F k))) 176 _ ?_ ?_ (by decide) (by rw [e0]; rfl)
      · intro k hk
        have c1 : nI k < 176 := nI_lt (b := 176) (by omega) (by decide)
        have l2 : nI k + 16 = nI (k + 16) := nI_add k 16
        have f1 : F k (k + 16) = hI h 97 (k + 16) := by rw [eF]; dsimp only; rw [if_neg (by omega)]
        unfold lb_X12_remember_11
        simp only [c1, if_true, g_86_23 (wk k), Option.bind_some, l2, aI_eq (wk k) 97 14 192 rfl (k + 16) (by omega) (by decide), hI_rI, f1, wI_eq (wk k) 97 192 rfl k (by omega) (by decide), sI_rI, nI_1]
        have : va_up (F k) k (hI h 97 (k + 16)) = F (k + 1) := by
          funext j
          rw [eF]
          unfold va_up
          by_cases hj : j = k
          · subst hj; simp
          · by_cases hj2 : j < k
            · simp [hj, hj2, show j < k + 1 by omega]
            · simp [hj, hj2, show ¬ j < k + 1 by omega]
        rw [this]
      · have c2 : ¬ nI 176 < 176 := by decide
        unfold lb_X12_remember_11
        simp only [c2, if_false]
    have w1 := wk 176
    obtain ⟨G, eG⟩ : ∃ G, G = sI (rI h 97 (F 176)) 86 24 (nI 11) := ⟨_, rfl⟩
    have wG : Wf G := by rw [eG]; exact w
    have g11 : PastM 11 (fun i => Pp (i + 1)) G := by
      refine ⟨by rw [eG, hI_sI]; simp, fun i hi k hk => ?_⟩
      rw [eG, hI_sI_r, if_neg (by decide), hI_rI, if_pos rfl, eF]
      dsimp only
      rw [if_pos (by omega), show 16 * i + k + 16 = 16 * (i + 1) + k by omega]
      exact hp.2 (i + 1) (by omega) k hk
    obtain ⟨g', f1, f2, f7⟩ := room 11 _ G wG (by decide) g11 (fun k hk => by rw [eG, hI_sI_r, if_neg ha.2, hI_rI, if_neg ha.1]; exact hx k hk)
    have fG : Fr psM h G := by rw [eG]; exact ((Fr.refl _ h).rI _ (fun _ => rfl)).sI _ rfl
    refine ⟨g', ?_, fG.trans f2, f7⟩
    have e12 : hI h 86 24 = 12 := hp.1
    have e13 : hI (rI h 97 (F 176)) 86 24 = 12 := hp.1
    have e14 : (12 : Int32) - 1 = nI 11 := by decide
    simp only [w_gI w 86 11 24 rfl, Option.bind_some, e12, if_true, loop, w_gI w1 86 11 24 rfl, e13, w_pI w1 86 11 24 _ rfl, e14, ← eG]
    exact f1
  · obtain ⟨g', f1, f2, f7⟩ := room n _ h w (by omega) hp hx
    refine ⟨g', ?_, f2, ?_⟩
    · have e12 : ¬ hI h 86 24 = 12 := by rw [hp.1]; exact fun q => hf ((nI_eq (b := 12) (by omega) (by decide)).mp q)
      simp only [w_gI w 86 11 24 rfl, Option.bind_some, e12, if_false]
      have := f1
      simp only [w_gI w 86 11 24 rfl, Option.bind_some] at this
      exact this
    · unfold pshN pshP
      rw [if_neg hf, if_neg hf]
      exact f7
theorem psh_VS {N : Net} {c n : Nat} {Pp : Nat → XX} {x : XX} (hn : n ≤ 12) (hv : ∀ i, i < n → VS N c (Pp i)) (hx : VS N c x) : pshN n ≤ 12 ∧ ∀ i, i < pshN n → VS N c (pshP n Pp x i) := by
  unfold pshN pshP
  by_cases hf : n = 12
  · subst hf
    simp only [if_true]
    refine ⟨by omega, fun i hi => ?_⟩
    by_cases h11 : i = 11
    · simp only [h11, if_true]; exact hx
    · simp only [h11, if_false]; exact hv (i + 1) (by omega)
  · simp only [hf, if_false]
    refine ⟨by omega, fun i hi => ?_⟩
    by_cases h11 : i = n
    · simp only [h11, if_true]; exact hx
    · simp only [h11, if_false]; exact hv i (by omega)
