/-! questions: still, round -/
theorem stp_14 {N : Net} (V : NV N) (sem : Sem) {s : Nat} (hs : s < N_s N) (z : ZZ) : (stp N sem s z).1 14 = z.1 14 := by
  obtain ⟨f1, f2, f3, f4⟩ := V.2.2.2 s hs
  have h6 := V.1
  unfold stp
  split
  · rfl
  · split
    · dsimp only
      rw [up_ne _ _ (by omega), up_ne _ _ (by omega), up_ne _ _ (by omega)]
    · dsimp only
      rw [up_ne _ _ (by omega)]
theorem swp_14 {N : Net} (V : NV N) (sem : Sem) (z : ZZ) : ∀ s, s ≤ N_s N → (swp N sem s z).1 14 = z.1 14
  | 0, _ => rfl
  | s + 1, h => (stp_14 V sem (by omega) _).trans (swp_14 V sem z s (by omega))
theorem lkp_14 {N : Net} (V : NV N) {b : Nat} (hb : b < N_b N) (z : ZZ) : (lkp N b z).1 14 = z.1 14 := by
  have h6 := V.1
  unfold lkp
  split
  · split
    · rfl
    · dsimp only
      rw [up_ne _ _ (by omega), up_ne _ _ (by omega)]
  · rfl
theorem lks_14 {N : Net} (V : NV N) (z : ZZ) : ∀ b, b ≤ N_b N → (lks N b z).1 14 = z.1 14
  | 0, _ => rfl
  | b + 1, h => (lkp_14 V (by omega) _).trans (lks_14 V z b (by omega))
theorem hX_14 {N : Net} (V : NV N) (sem : Sem) (y : XX) : hX N sem y 14 = y 14 + 1 := by
  unfold hX hrZ
  dsimp only
  rw [up_eq, lks_14 V _ (N_b N) (Nat.le_refl _), swp_14 V sem _ (N_s N) (Nat.le_refl _)]
theorem hXs_14 {N : Net} (V : NV N) (sem : Sem) (y : XX) {t : Nat} (e : y 14 = nI t) : ∀ n, hXs N sem n y 14 = nI (t + n)
  | 0 => e
  | n + 1 => by
    show hX N sem _ 14 = _
    rw [hX_14 V, hXs_14 V sem y e n, nI_1]
    rfl
section Q8
variable {N : Net} {sem : Sem} {x : XX} {l : List Int64} {C M : aH}
def s83 (a j : Nat) : Bool := a == 83
def s102 (a j : Nat) : Bool := a == 102
theorem s83_sc (a j : Nat) (e : sc a j = false) : s83 a j = false := by
  unfold sc at e
  unfold s83
  simp at e ⊢
  omega
theorem s102_sm (a j : Nat) (e : sm a j = false) : s102 a j = false := by
  unfold sm at e
  unfold s102
  simp at e ⊢
  omega
theorem hXv (w : WW N sem x l C M) (i : Nat) : VS N (MH + i) (hXs N sem i x) := hXs_VS w.v sem w.2.2.2.2.2 i
/-- the traces of n hours -/
theorem trace_eq (w : WW N sem x l C M) {n : Nat} (hn : n ≤ 100) : ∃ C1 M1, fn_X11_traceTrial C 0 (nI n) = some C1 ∧ fn_X12_layTrail M 86 (nI n) = some M1 ∧ Fr sc C C1 ∧ Fr sm M M1 ∧ WW N sem x l C1 M1 ∧ (∀ i, i ≤ n → hJ C1 83 i = lN (codeN (hXs N sem i x))) ∧ (∀ i c, i ≤ n → c < 16 → hI M1 102 (16 * i + c) = hXs N sem i x c) := by
  have h8 := w.v.2.1
  obtain ⟨C1, e1, F1, w1, S1, -⟩ := w.start
  obtain ⟨M1, e2, F2, w2, X2⟩ := w1.lay
  obtain ⟨r, q, er, eq, Gr, Hq, wr, h1, h2⟩ : ∃ r q, lp (lb_X11_traceTrial_6 0 (nI n)) lpN (0, C1) = some r ∧ lp (lb_X12_layTrail_14 86 (nI n)) lpN (0, M1) = some q ∧ (Fr sc C r ∧ Fr sm M q ∧ WW N sem x l r q ∧ (∀ i, i < n + 1 → hJ r 83 i = lN (codeN (hXs N sem i x))) ∧ (∀ i c, i < n + 1 → c < 16 → hI q 102 (16 * i + c) = hXs N sem i x c)) := by
    refine lp_two (fun k s t => s.1 = nI k ∧ t.1 = nI k ∧ Fr sc C s.2 ∧ Fr sm M t.2 ∧ BB N sem x l k s.2 t.2 (hXs N sem k x) ∧ (∀ i, i < k → hJ s.2 83 i = lN (codeN (hXs N sem i x))) ∧ (∀ i c, i < k → c < 16 → hI t.2 102 (16 * i + c) = hXs N sem i x c)) _ (n + 1) (by omega) ?_ ?_ ⟨rfl, rfl, F1.mono sh_sc, F2.mono mh_sm, ⟨w2, S1, X2, w.2.2.2.2.2⟩, fun i hi => absurd hi (by omega), fun i c hi => absurd hi (by omega)⟩
    · rintro k ⟨s1, Ck⟩ ⟨t1, Mk⟩ hk ⟨rfl, rfl, GC, GM, b, hc, hm⟩
      dsimp only at GC GM b hc hm
      have cd := code_eq b.wc b.2.1 b.2.2.2 (by unfold MH; omega) h8
      have Gs : Fr s83 Ck (sJ Ck 83 k (lN (codeN (hXs N sem k x)))) := (Fr.refl _ _).sJ _ rfl
      have ly := lay_eq b.wm 99 102 16 1616 (16 * k) rfl rfl (by decide) (by decide) (by omega) (by decide) (by decide)
      obtain ⟨Ml, eMl⟩ : ∃ Ml, Ml = rI Mk 102 (va_cpy (hI Mk 99) (hI Mk 102) 0 (16 * k) 16) := ⟨_, rfl⟩
      rw [← eMl] at ly
      have Hs : Fr s102 Mk Ml := by rw [eMl]; exact (Fr.refl _ _).rI _ (fun _ => rfl)
      have ww := (b.ww.toC Gs s83_sc rfl (fun _ => rfl)).toM Hs s102_sm rfl (fun _ => rfl)
      have b2 := b.go ww Gs Hs (fun _ => rfl) (fun _ => rfl) (fun _ => rfl) (fun _ => rfl)
      obtain ⟨C3, M3, f3, g3, G3, H3, b3⟩ := b2.pass (by omega)
      have c1 : nI k ≤ nI n := nI_le (by omega) (by omega)
      have c2 : nI k < Int32.ofNat 168 := nI_lt (b := 168) (by omega) (by decide)
      have al83 : al Ck 83 = some (Int32.ofNat 168) := by
        unfold al
        rw [b.wc.1]
        rfl
      have m16 : (16 : Int32) * nI k = nI (16 * k) := pk_mul 16 k
      refine Or.inl ⟨(nI (k + 1), C3), (nI (k + 1), M3), ?_, ?_, rfl, rfl, GC.trans ((Gs.mono s83_sc).trans (G3.mono sh_sc)), GM.trans ((Hs.mono s102_sm).trans (H3.mono mh_sm)), b3, fun i hi => ?_, fun i c hi hc' => ?_⟩
      · unfold lb_X11_traceTrial_6
        simp only [if_pos c1, g_0_13 b.wc, Option.bind_some, al83, if_pos c2, g_0_9 b.wc, k_28 b.wc, cd, wJ_eq b.wc 83 168 rfl k (by omega) (by decide), g_0_1 b2.wc, g_0_9 b2.wc, g_0_4 b2.wc, k_3 b2.wc, f3, nI_1]
      · unfold lb_X12_layTrail_14
        simp only [if_pos c1, g_86_26 b.wm, g_86_31 b.wm, Option.bind_some, m16, ly, g_86_26 b2.wm, k_86 b2.wm, g3, nI_1]
      · show hJ C3 83 i = _
        rw [G3.jrow 83 (fun _ => rfl), hJ_sJ]
        by_cases e : i = k
        · subst e; rw [if_pos ⟨rfl, rfl⟩]
        · rw [if_neg (by simp [e])]; exact hc i (by omega)
      · show hI M3 102 (16 * i + c) = _
        rw [H3.row 102 (fun _ => rfl), eMl, hI_rI, if_pos rfl]
        by_cases e : i = k
        · subst e
          rw [cpy_in _ _ _ _ _ c hc', Nat.zero_add]
          exact b.2.2.1 c hc'
        · unfold va_cpy
          rw [if_neg (by omega)]
          exact hm i c (by omega) hc'
    · rintro ⟨s1, Ck⟩ ⟨t1, Mk⟩ ⟨rfl, rfl, GC, GM, b, hc, hm⟩
      have c1 : ¬ nI (n + 1) ≤ nI n := nI_ge (by omega) (by omega)
      refine ⟨Ck, Mk, ?_, ?_, GC, GM, b.ww, hc, hm⟩
      · unfold lb_X11_traceTrial_6; rw [if_neg c1]
      · unfold lb_X12_layTrail_14; rw [if_neg c1]
  refine ⟨r, q, ?_, ?_, Gr, Hq, wr, fun i hi => h1 i (by omega), fun i c hi hc => h2 i c (by omega) hc⟩
  · unfold fn_X11_traceTrial
    simp only [k_0 w.wc, Option.bind_some, e1, er]
  · unfold fn_X12_layTrail
    simp only [g_86_0 w.wm, g_86_26 w.wm, Option.bind_some, e2, eq]
/-- two hours alike in their levels -/
def lik (N : Net) (sem : Sem) (x : XX) (j k : Nat) : Prop := ∀ c, c < N_b N → hXs N sem j x c = hXs N sem k x c
theorem like_eq (w : WW N sem x l C M) {n : Nat} (hn : n ≤ 100) (hm : ∀ i c, i ≤ n → c < 16 → hI M 102 (16 * i + c) = hXs N sem i x c) {j k : Nat} (hj : j ≤ n) (hk : k ≤ n) : (lik N sem x j k ∧ fn_X12_areLevelsLike M 86 (nI j) (nI k) = some 1) ∨ (¬ lik N sem x j k ∧ fn_X12_areLevelsLike M 86 (nI j) (nI k) = some 0) := by
  have h6 := w.v.1
  have bN : N_b N < 2 ^ 31 := by omega
  obtain ⟨r, er, h⟩ : ∃ r, lp (lb_X12_areLevelsLike_2 M 86 (nI j) (nI k)) lpN 0 = some r ∧ ((lik N sem x j k ∧ r = 1) ∨ (¬ lik N sem x j k ∧ r = 0)) := by
    refine lp_inv (fun c s => s = nI c ∧ ∀ d, d < c → hXs N sem j x d = hXs N sem k x d) _ (N_b N) (by omega) ?_ ?_ ⟨rfl, fun d hd => absurd hd (by omega)⟩
    · rintro c s hc ⟨rfl, hp⟩
      have mj : (16 : Int32) * nI j = nI (16 * j) := pk_mul 16 j
      have mk : (16 : Int32) * nI k = nI (16 * k) := pk_mul 16 k
      have aj : aI M 102 14 (nI (16 * j + c)) = some (hXs N sem j x c) := by rw [aI_eq w.wm 102 14 1616 rfl (16 * j + c) (by omega) (by decide), hm j c hj (by omega)]
      have ak : aI M 102 14 (nI (16 * k + c)) = some (hXs N sem k x c) := by rw [aI_eq w.wm 102 14 1616 rfl (16 * k + c) (by omega) (by decide), hm k c hk (by omega)]
      unfold lb_X12_areLevelsLike_2
      simp only [w_gI w.wm 86 11 1 rfl, w.mn.1, Option.bind_some, if_pos (nI_lt hc bN), g_86_31 w.wm, mj, mk, nI_add, aj, ak, nI_1]
      by_cases e : hXs N sem j x c = hXs N sem k x c
      · rw [if_pos e]
        refine Or.inl ⟨_, rfl, rfl, fun d hd => ?_⟩
        by_cases ed : d = c
        · subst ed; exact e
        · exact hp d (by omega)
      · rw [if_neg e]
        exact Or.inr ⟨_, rfl, Or.inr ⟨fun q => e (q c hc), rfl⟩⟩
    · rintro s ⟨rfl, hp⟩
      refine ⟨1, ?_, Or.inl ⟨hp, rfl⟩⟩
      unfold lb_X12_areLevelsLike_2
      simp only [w_gI w.wm 86 11 1 rfl, w.mn.1, Option.bind_some, if_neg (nI_nlt (Nat.le_refl (N_b N)) bN)]
  unfold fn_X12_areLevelsLike
  rcases h with ⟨h1, rfl⟩ | ⟨h1, rfl⟩
  · exact Or.inl ⟨h1, by rw [er]; rfl⟩
  · exact Or.inr ⟨h1, by rw [er]; rfl⟩
theorem sumAt_eq (w : WW N sem x l C M) {n : Nat} (hn : n ≤ 100) (hm : ∀ i c, i ≤ n → c < 16 → hI M 102 (16 * i + c) = hXs N sem i x c) {k : Nat} (hk : k ≤ n) : fn_X12_sumAt M 86 (nI k) = some (sumI (N_b N) (hXs N sem k x)) := by
  have h6 := w.v.1
  have bN : N_b N < 2 ^ 31 := by omega
  have loop : lp (lb_X12_sumAt_4 M 86 (nI k)) lpN (0, 0) = some (sumI (N_b N) (hXs N sem k x)) := by
    refine lp_run (fun i => (sumI i (hXs N sem k x), nI i)) (N_b N) _ ?_ ?_ (by omega) rfl
    · intro c hc
      have mk : (16 : Int32) * nI k = nI (16 * k) := pk_mul 16 k
      have ak : aI M 102 14 (nI (16 * k + c)) = some (hXs N sem k x c) := by rw [aI_eq w.wm 102 14 1616 rfl (16 * k + c) (by omega) (by decide), hm k c hk (by omega)]
      unfold lb_X12_sumAt_4
      simp only [w_gI w.wm 86 11 1 rfl, w.mn.1, Option.bind_some, if_pos (nI_lt hc bN), g_86_31 w.wm, mk, nI_add, ak, nI_1]
      rfl
    · unfold lb_X12_sumAt_4
      simp only [w_gI w.wm 86 11 1 rfl, w.mn.1, Option.bind_some, if_neg (nI_nlt (Nat.le_refl (N_b N)) bN)]
  unfold fn_X12_sumAt
  rw [loop]
  rfl
theorem lik_six (w : WW N sem x l C M) {j k : Nat} : lik N sem x j k ↔ ∀ c, c < 6 → hXs N sem j x c = hXs N sem k x c := by
  constructor
  · intro h c hc
    by_cases hb : c < N_b N
    · exact h c hb
    · obtain ⟨a, -, ea, e0⟩ := (hXv w j).1 c hc
      obtain ⟨b, -, eb, e1⟩ := (hXv w k).1 c hc
      rw [ea, eb, e0 (by omega), e1 (by omega)]
  · intro h c hc
    exact h c (by have := w.v.1; omega)
theorem levels_iff (w : WW N sem x l C M) {j k : Nat} (hj : j ≤ 100) (hk : k ≤ 100) (h : aH) : ∃ a b, fn_X7_levelsOf h (lN (codeN (hXs N sem j x))) = some a ∧ fn_X7_levelsOf h (lN (codeN (hXs N sem k x))) = some b ∧ (a = b ↔ lik N sem x j k) := by
  have h8 := w.v.2.1
  obtain ⟨a1, ⟨ao, ho⟩, ⟨a_t, ht⟩⟩ := VS_nv (hXv w j) (by unfold MH; omega) h8
  obtain ⟨b1, ⟨bo, io⟩, ⟨b_t, it⟩⟩ := VS_nv (hXv w k) (by unfold MH; omega) h8
  have lev : ∀ y : XX, fn_X7_levelsOf h (lN (codeN y)) = some (nI (codeN y % 16777216)) := fun y => by
    unfold fn_X7_levelsOf
    show some ((Int64.ofNat (codeN y)).toInt32 &&& 16777215) = _
    rw [Int64.toInt32_ofNat']
    have := fa_mask (codeN y) 24
    rw [show Int32.ofNat (codeN y) &&& 16777215 = _ from this]
  refine ⟨_, _, lev _, lev _, ?_⟩
  rw [nI_eq (by omega) (by omega), lik_six w]
  have u0 := (a1 0 (by decide)).2.1
  have u1 := (a1 1 (by decide)).2.1
  have u2 := (a1 2 (by decide)).2.1
  have u3 := (a1 3 (by decide)).2.1
  have u4 := (a1 4 (by decide)).2.1
  have u5 := (a1 5 (by decide)).2.1
  have v0 := (b1 0 (by decide)).2.1
  have v1 := (b1 1 (by decide)).2.1
  have v2 := (b1 2 (by decide)).2.1
  have v3 := (b1 3 (by decide)).2.1
  have v4 := (b1 4 (by decide)).2.1
  have v5 := (b1 5 (by decide)).2.1
  have iffN : (∀ c, c < 6 → hXs N sem j x c = hXs N sem k x c) ↔ (∀ c, c < 6 → nv (hXs N sem j x) c = nv (hXs N sem k x) c) := by
    constructor
    · intro h c hc
      unfold nv
      rw [h c hc]
    · intro h c hc
      rw [(a1 c hc).1, (b1 c hc).1, h c hc]
  rw [iffN]
  unfold codeN cdP
  constructor
  · intro h c hc
    match c, hc with
    | 0, _ => omega
    | 1, _ => omega
    | 2, _ => omega
    | 3, _ => omega
    | 4, _ => omega
    | 5, _ => omega
  · intro h
    rw [h 0 (by decide), h 1 (by decide), h 2 (by decide), h 3 (by decide), h 4 (by decide), h 5 (by decide)]
    omega
theorem lik_trans {a b c : Nat} (h1 : lik N sem x a b) (h2 : lik N sem x b c) : lik N sem x a c := fun d hd => (h1 d hd).trans (h2 d hd)
theorem lik_symm {a b : Nat} (h : lik N sem x a b) : lik N sem x b a := fun d hd => (h d hd).symm
/-- four hours that change nothing -/
def run4 (N : Net) (sem : Sem) (x : XX) (k : Nat) : Prop := lik N sem x k (k + 1) ∧ lik N sem x (k + 1) (k + 2) ∧ lik N sem x (k + 2) (k + 3) ∧ lik N sem x (k + 3) (k + 4)
theorem q_still (w : WW N sem x l C M) : QR (fn_X11_still C 0) (fn_X12_still M 86) C M := by
  have h6 := w.v.1
  have h8 := w.v.2.1
  obtain ⟨M1, p1, F1, w1⟩ := w.thr
  obtain ⟨C2, M2, e2, g2, G2, H2, w2, hc, hm⟩ := trace_eq w1 (n := 100) (by decide)
  have e2' : fn_X11_traceTrial C 0 100 = some C2 := e2
  have g2' : fn_X12_layTrail M1 86 100 = some M2 := g2
  -- the class
  obtain ⟨r, er, hr⟩ : ∃ r, lp (lb_X11_still_10 C2 0) lpN (0, 1) = some r ∧ ((∃ k, k ≤ 96 ∧ run4 N sem x k ∧ (∀ j, j < k → ¬ run4 N sem x j) ∧ r = .inl (nI (k + 4))) ∨ ((∀ j, j ≤ 96 → ¬ run4 N sem x j) ∧ r = .inr (-2, C2))) := by
    refine lp_inv (fun i s => s.2 = nI (i + 1) ∧ ∃ u, u ≤ 3 ∧ u ≤ i ∧ s.1 = nI u ∧ (∀ d, d < u → lik N sem x (i - 1 - d) (i - d)) ∧ (u < i → ¬ lik N sem x (i - u - 1) (i - u)) ∧ ∀ j, j + 4 ≤ i → ¬ run4 N sem x j) _ 100 (by decide) ?_ ?_ ⟨rfl, 0, by decide, by decide, rfl, fun d hd => absurd hd (by omega), fun h => absurd h (by omega), fun j hj => absurd hj (by omega)⟩
    · rintro i ⟨s1, s2⟩ hi ⟨rfl, u, hu, hui, rfl, h1, h2, h3⟩
      obtain ⟨a, b, ea, eb, hab⟩ := levels_iff w (j := i + 1) (k := i) (by omega) (by omega) C2
      have a1 : aJ C2 83 (nI (i + 1)) = some (lN (codeN (hXs N sem (i + 1) x))) := by rw [aJ_eq w2.wc 83 168 rfl (i + 1) (by omega) (by decide), hc (i + 1) (by omega)]
      have a0 : aJ C2 83 (nI i) = some (lN (codeN (hXs N sem i x))) := by rw [aJ_eq w2.wc 83 168 rfl i (by omega) (by decide), hc i (by omega)]
      have c1 : nI (i + 1) ≤ 100 := nI_le (b := 100) (by omega) (by decide)
      unfold lb_X11_still_10
      simp only [if_pos c1, g_0_13 w2.wc, Option.bind_some, a1, ea, nI_pred, a0, eb, nI_1]
      by_cases sm : a = b
      · have lk : lik N sem x i (i + 1) := lik_symm (hab.mp sm)
        simp only [if_pos sm, Option.bind_some, if_neg one0]
        by_cases u3 : u = 3
        · subst u3
          have i3 : 3 ≤ i := hui
          obtain ⟨k, rfl⟩ : ∃ k, i = k + 3 := ⟨i - 3, by omega⟩
          rw [if_pos (show nI (3 + 1) = 4 from rfl)]
          refine Or.inr ⟨_, rfl, Or.inl ⟨k, by omega, ⟨?_, ?_, ?_, lk⟩, fun j hj => h3 j (by omega), rfl⟩⟩
          · have := h1 2 (by decide)
            rwa [show k + 3 - 1 - 2 = k by omega, show k + 3 - 2 = k + 1 by omega] at this
          · have := h1 1 (by decide)
            rwa [show k + 3 - 1 - 1 = k + 1 by omega, show k + 3 - 1 = k + 2 by omega] at this
          · have := h1 0 (by decide)
            rwa [show k + 3 - 1 - 0 = k + 2 by omega, show k + 3 - 0 = k + 3 by omega] at this
        · have n4 : ¬ nI (u + 1) = 4 := fun q => by
            have := (nI_eq (b := 4) (show u + 1 < 2 ^ 31 by omega) (by decide)).mp q
            omega
          rw [if_neg n4]
          refine Or.inl ⟨_, rfl, rfl, u + 1, by omega, by omega, rfl, fun d hd => ?_, fun h => ?_, fun j hj => ?_⟩
          · by_cases d0 : d = 0
            · subst d0
              rw [show i + 1 - 1 - 0 = i by omega, show i + 1 - 0 = i + 1 by omega]
              exact lk
            · have := h1 (d - 1) (by omega)
              rwa [show i - 1 - (d - 1) = i + 1 - 1 - d by omega, show i - (d - 1) = i + 1 - d by omega] at this
          · have := h2 (by omega)
            rwa [show i - u - 1 = i + 1 - (u + 1) - 1 by omega, show i - u = i + 1 - (u + 1) by omega] at this
          · by_cases ej : j + 4 ≤ i
            · exact h3 j ej
            · intro r
              have hij : i = j + 3 := by omega
              subst hij
              have nl := h2 (by omega)
              obtain ⟨r0, r1, r2, r3⟩ := r
              have : u = 0 ∨ u = 1 ∨ u = 2 := by omega
              rcases this with rfl | rfl | rfl
              · exact nl r2
              · exact nl r1
              · exact nl r0
      · have nlk : ¬ lik N sem x i (i + 1) := fun q => sm (hab.mpr (lik_symm q))
        simp only [if_neg sm, Option.bind_some, if_true]
        rw [if_neg (show ¬ (0 : Int32) = 4 by decide)]
        refine Or.inl ⟨_, rfl, rfl, 0, by omega, by omega, rfl, fun d hd => absurd hd (by omega), fun _ => ?_, fun j hj => ?_⟩
        · rw [show i + 1 - 0 - 1 = i by omega, show i + 1 - 0 = i + 1 by omega]
          exact nlk
        · by_cases ej : j + 4 ≤ i
          · exact h3 j ej
          · intro r
            have hij : i = j + 3 := by omega
            subst hij
            exact nlk r.2.2.2
    · rintro ⟨s1, s2⟩ ⟨rfl, u, hu, hui, rfl, h1, h2, h3⟩
      refine ⟨_, ?_, Or.inr ⟨fun j hj => h3 j (by omega), rfl⟩⟩
      unfold lb_X11_still_10
      rw [if_neg (show ¬ nI (100 + 1) ≤ 100 by decide)]
  -- the reference
  have inner : ∀ k, k ≤ 96 → ∃ b : Bool, lp (lb_X12_still_23 M2 86 (nI k)) lpN (1, 1) = some (b2 b) ∧ (b = true ↔ run4 N sem x k) := by
    intro k hk
    obtain ⟨r, er, b, rfl, hb⟩ : ∃ r, lp (lb_X12_still_23 M2 86 (nI k)) lpN (1, 1) = some r ∧ (∃ b, r = b2 b ∧ (b = true ↔ ∀ d, d < 4 → lik N sem x k (k + 1 + d))) := by
      refine lp_inv (fun i s => s.2 = nI (i + 1) ∧ ∃ b, s.1 = b2 b ∧ (b = true ↔ ∀ d, d < i → lik N sem x k (k + 1 + d))) _ 4 (by decide) ?_ ?_ ⟨rfl, true, rfl, ⟨fun _ d hd => absurd hd (by omega), fun _ => rfl⟩⟩
      · rintro i ⟨s1, s2⟩ hi ⟨rfl, b, rfl, hb⟩
        have c1 : nI (i + 1) ≤ 4 := nI_le (b := 4) (by omega) (by decide)
        unfold lb_X12_still_23
        simp only [if_pos c1, nI_1]
        cases b with
        | false =>
          simp only [if_pos (show b2 false = 0 from rfl), Option.bind_some]
          refine Or.inl ⟨_, rfl, rfl, false, rfl, ⟨fun h => (by cases h), fun h => hb.mpr (fun d hd => h d (by omega))⟩⟩
        | true =>
          have hb' := hb.mp rfl
          simp only [if_neg (show ¬ b2 true = 0 by decide), k_86 w2.wm, Option.bind_some, nI_add]
          rcases like_eq w2 (by decide) hm (j := k) (k := k + (i + 1)) (by omega) (by omega) with ⟨lk, el⟩ | ⟨lk, el⟩
          · simp only [el, Option.bind_some, if_neg one0]
            refine Or.inl ⟨_, rfl, rfl, true, rfl, ⟨fun _ d hd => ?_, fun _ => rfl⟩⟩
            by_cases e : d = i
            · subst e
              rw [show k + 1 + d = k + (d + 1) by omega]
              exact lk
            · exact hb' d (by omega)
          · simp only [el, Option.bind_some, if_true]
            refine Or.inl ⟨_, rfl, rfl, false, rfl, ⟨fun h => (by cases h), fun h => ?_⟩⟩
            have := h i (by omega)
            rw [show k + 1 + i = k + (i + 1) by omega] at this
            exact absurd this lk
      · rintro ⟨s1, s2⟩ ⟨rfl, b, rfl, hb⟩
        refine ⟨b2 b, ?_, b, rfl, hb⟩
        unfold lb_X12_still_23
        rw [if_neg (show ¬ nI (4 + 1) ≤ 4 by decide)]
    refine ⟨b, er, hb.trans ⟨fun h => ?_, fun h d hd => ?_⟩⟩
    · have l1 := h 0 (by decide)
      have l2 := h 1 (by decide)
      have l3 := h 2 (by decide)
      have l4 := h 3 (by decide)
      exact ⟨l1, lik_trans (lik_symm l1) l2, lik_trans (lik_symm l2) l3, lik_trans (lik_symm l3) l4⟩
    · obtain ⟨r0, r1, r2, r3⟩ := h
      match d, hd with
      | 0, _ => exact r0
      | 1, _ => exact lik_trans r0 r1
      | 2, _ => exact lik_trans (lik_trans r0 r1) r2
      | 3, _ => exact lik_trans (lik_trans (lik_trans r0 r1) r2) r3
  obtain ⟨q, eq, hq⟩ : ∃ r, lp (lb_X12_still_13 M2 86) lpN 0 = some r ∧ ((∃ k, k ≤ 96 ∧ run4 N sem x k ∧ (∀ j, j < k → ¬ run4 N sem x j) ∧ r = .inl (nI k)) ∨ ((∀ j, j ≤ 96 → ¬ run4 N sem x j) ∧ r = .inr (-2, M2))) := by
    refine lp_inv (fun i s => s = nI i ∧ ∀ j, j < i → ¬ run4 N sem x j) _ 97 (by decide) ?_ ?_ ⟨rfl, fun j hj => absurd hj (by omega)⟩
    · rintro i s hi ⟨rfl, h⟩
      have c1 : nI i ≤ 96 := nI_le (b := 96) (by omega) (by decide)
      obtain ⟨b, eb, hb⟩ := inner i (by omega)
      unfold lb_X12_still_13
      simp only [if_pos c1, eb, Option.bind_some, nI_1]
      cases b with
      | false =>
        rw [if_pos (show b2 false = 0 from rfl)]
        refine Or.inl ⟨_, rfl, rfl, fun j hj => ?_⟩
        by_cases e : j = i
        · subst e; intro r; have := hb.mpr r; cases this
        · exact h j (by omega)
      | true =>
        rw [if_neg (show ¬ b2 true = 0 by decide)]
        exact Or.inr ⟨_, rfl, Or.inl ⟨i, by omega, hb.mp rfl, h, rfl⟩⟩
    · rintro s ⟨rfl, h⟩
      refine ⟨_, ?_, Or.inr ⟨fun j hj => h j (by omega), rfl⟩⟩
      unfold lb_X12_still_13
      rw [if_neg (show ¬ nI 97 ≤ 96 by decide)]
  rcases hr with ⟨k, hk, rk, mk, rfl⟩ | ⟨nr, rfl⟩
  · rcases hq with ⟨k', hk', rk', mk', rfl⟩ | ⟨nr, -⟩
    · have kk : k' = k := by
        rcases Nat.lt_trichotomy k k' with h | h | h
        · exact absurd rk (mk' k h)
        · exact h.symm
        · exact absurd rk' (mk k' h)
      subst kk
      obtain ⟨C3, M3, f3, g3, G3, H3, w3⟩ := w2.begin
      have sC : fn_X7_sumOf C3 (lN (codeN (hXs N sem (k' + 4) x))) = some (sumI (N_b N) (hXs N sem k' x)) := by
        rw [sumOfC_eq C3 (hXv w (k' + 4)) (by unfold MH; omega) h8, sum6 (hXv w (k' + 4)) h6]
        refine congrArg some (sumI_congr _ (fun i hi => ?_))
        obtain ⟨r0, r1, r2, r3⟩ := rk
        exact (lik_trans (lik_trans (lik_trans r0 r1) r2) r3 i hi).symm
      have sM : fn_X12_sumAt M3 86 (nI k') = some (sumI (N_b N) (hXs N sem k' x)) := sumAt_eq w3 (n := 100) (by decide) (fun i c hi hc' => by rw [H3.row 102 (fun _ => rfl)]; exact hm i c hi hc') (by omega)
      have a1 : aJ C3 83 (nI (k' + 4)) = some (lN (codeN (hXs N sem (k' + 4) x))) := by rw [aJ_eq w3.wc 83 168 rfl (k' + 4) (by omega) (by decide), G3.jrow 83 (fun _ => rfl), hc (k' + 4) (by omega)]
      obtain ⟨C4, M4, f4, g4, G4, H4, w4⟩ := w3.add (by decide) (Int32.toInt64 (sumI (N_b N) (hXs N sem k' x)))
      have m4 : nI (k' + 4) - 4 = nI k' := nI_sub (a := k' + 4) (b := 4) (by omega)
      refine w4.qr (nI k') ?_ ?_ (G2.trans ((G3.mono stC_sc).trans (G4.mono stC_sc))) (F1.trans (H2.trans ((H3.mono stM_sm).trans (H4.mono stM_sm))))
      · unfold fn_X11_still
        simp only [k_0 w1.wc, Option.bind_some, e2', er, Sum.elim_inl, g_0_11 w2.wc, k_77 w2.wc, f3, g_0_11 w3.wc, g_0_13 w3.wc, a1, sC, k_77 w3.wc, f4, m4]
      · unfold fn_X12_still
        simp only [p1, k_86 w1.wm, Option.bind_some, g2', eq, Sum.elim_inl, g3, k_86 w3.wm, sM, g4]
    · exact absurd rk (nr k hk)
  · rcases hq with ⟨k', hk', rk', mk', rfl⟩ | ⟨-, rfl⟩
    · exact absurd rk' (nr k' hk')
    · refine w2.qr (-2) ?_ ?_ G2 (F1.trans H2)
      · unfold fn_X11_still
        simp only [k_0 w1.wc, Option.bind_some, e2', er, Sum.elim_inr]
      · unfold fn_X12_still
        simp only [p1, k_86 w1.wm, Option.bind_some, g2', eq, Sum.elim_inr]
end Q8
