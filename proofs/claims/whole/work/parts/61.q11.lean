/-! questions: looks, learns -/
section Q11
variable {N : Net} {sem : Sem} {x : XX} {l : List Int64} {C M : aH}
/-- the best of the first m + 1 looks -/
def bestL (L : Nat → Int32) : Nat → Int32 × Int32
  | 0 => (nI 0, L 0)
  | m + 1 => if L (m + 1) < (bestL L m).2 then (nI (m + 1), L (m + 1)) else bestL L m
theorem bestL_fst (L : Nat → Int32) : ∀ m, ∃ k, k ≤ m ∧ (bestL L m).1 = nI k
  | 0 => ⟨0, Nat.le_refl 0, rfl⟩
  | m + 1 => by
    obtain ⟨k, hk, e⟩ := bestL_fst L m
    show ∃ k, k ≤ m + 1 ∧ (if L (m + 1) < (bestL L m).2 then (nI (m + 1), L (m + 1)) else bestL L m).1 = nI k
    split
    · exact ⟨m + 1, Nat.le_refl _, rfl⟩
    · exact ⟨k, by omega, e⟩
theorem q_looks {n : Nat} {sb so : Nat → Nat} {sv : XX} (w : WW N sem x l C M) (s : SN N n sb so sv C M) : QR (fn_X11_looks C 0) (fn_X12_looks M 86) C M := by
  have h6 := w.v.1
  have h8 := w.v.2.1
  have bN : N_b N < 2 ^ 31 := by omega
  obtain ⟨M1, p1, F1, w1⟩ := w.thr
  have s1 := s.to (Fr.refl sc C) F1
  obtain ⟨f, C2, M2, f2, g2, G2, H2, w2, s2, v, hv, ev⟩ := fitting_eq w1 s1
  by_cases f0 : f = 0
  · refine w2.qr (-2) ?_ ?_ G2 (F1.trans H2)
    · unfold fn_X11_looks
      simp only [k_0 w1.wc, Option.bind_some, f2, if_pos f0]
    · unfold fn_X12_looks
      simp only [p1, k_86 w1.wm, Option.bind_some, g2, if_pos f0]
  have sp : 0 < N_s N := by
    refine Nat.pos_of_ne_zero fun q => f0 ?_
    rw [q] at hv
    have : v = 0 := by omega
    rw [ev, this]; rfl
  have bp : 0 < N_b N := Nat.lt_of_le_of_lt (Nat.zero_le _) (w.v.2.2.2 0 sp).1
  obtain ⟨C3, f3, G3, w3, hc⟩ := traceEach_eq w2 f
  obtain ⟨M3, M4, g3, g4, H4, w4, hm⟩ := manyM_eq w3 f
  obtain ⟨L, eL⟩ : ∃ L : Nat → Int32, L = fun m => mostL N sem x f (m / 21) (m % 21) 10 := ⟨_, rfl⟩
  have Lle : ∀ m, ∃ k : Nat, k ≤ 8 ∧ L m = nI k := fun m => by rw [eL]; exact mostL_le w f _ _ 10
  -- the class
  have clC : lp (lb_X11_looks_27 C3 0 f) lpN (-2, 1000, 0) = some (bestL L (N_b N * 21 - 1)) := by
    have dv : ∀ m, m < 126 → idv (nI m) 21 = some (nI (m / 21)) ∧ irm (nI m) 21 = some (nI (m % 21)) := by decide +kernel
    have step : ∀ m (a b : Int32), m < N_b N * 21 → lb_X11_looks_27 C3 0 f (a, b, nI m) = some (.inl (if L m < b then (nI m, L m, nI (m + 1)) else (a, b, nI (m + 1)))) := by
      intro m a b hmm
      have c1 : nI m < nI (N_b N) * 21 := by
        have : nI (N_b N) * nI 21 = nI (N_b N * 21) := pk_mul _ _
        rw [show nI (N_b N) * 21 = _ from this]
        exact nI_lt hmm (by omega)
      have ml := mostLeft_eq w3 f hc (b := m / 21) (d := m % 21) (by omega) (Nat.mod_lt _ (by decide))
      have eLm : mostL N sem x f (m / 21) (m % 21) 10 = L m := by rw [eL]
      rw [eLm] at ml
      unfold lb_X11_looks_27
      simp only [g_0_1 w3.wc, w_gI w3.wc 3 0 0 rfl, w3.cn.1, Option.bind_some, if_pos c1, (dv m (by omega)).1, (dv m (by omega)).2, k_0 w3.wc, ml, nI_1]
      by_cases q : L m < b
      · simp only [if_pos q]
      · simp only [if_neg q]
    have first : lb_X11_looks_27 C3 0 f (-2, 1000, 0) = some (.inl ((bestL L 0).1, (bestL L 0).2, nI 1)) := by
      have := step 0 (-2) 1000 (by omega)
      obtain ⟨k, hk, ek⟩ := Lle 0
      have lt : L 0 < 1000 := by rw [ek]; exact nI_lt (b := 1000) (by omega) (by decide)
      rw [if_pos lt] at this
      exact this
    refine lp_run (fun m => if m = 0 then ((-2 : Int32), (1000 : Int32), (0 : Int32)) else ((bestL L (m - 1)).1, (bestL L (m - 1)).2, nI m)) (N_b N * 21) _ ?_ ?_ (by omega) rfl
    · intro m hmm
      try dsimp only
      by_cases m0 : m = 0
      · subst m0
        rw [if_pos rfl, if_neg (by omega)]
        exact first
      · rw [if_neg m0, if_neg (by omega), step m _ _ hmm]
        obtain ⟨m', rfl⟩ : ∃ m', m = m' + 1 := ⟨m - 1, by omega⟩
        rw [Nat.add_sub_cancel, Nat.add_sub_cancel]
        show some (Sum.inl _) = some (Sum.inl ((if L (m' + 1) < (bestL L m').2 then (nI (m' + 1), L (m' + 1)) else bestL L m').1, (if L (m' + 1) < (bestL L m').2 then (nI (m' + 1), L (m' + 1)) else bestL L m').2, _))
        split <;> rfl
    · have c1 : ¬ nI (N_b N * 21) < nI (N_b N) * 21 := by
        have : nI (N_b N) * nI 21 = nI (N_b N * 21) := pk_mul _ _
        rw [show nI (N_b N) * 21 = _ from this]
        exact nI_nlt (Nat.le_refl _) (by omega)
      try dsimp only
      rw [if_neg (by omega)]
      unfold lb_X11_looks_27
      simp only [g_0_1 w3.wc, w_gI w3.wc 3 0 0 rfl, w3.cn.1, Option.bind_some, if_neg c1]
  -- the reference
  have most : ∀ (a b : Int32) (c d : Nat), c < N_b N → d < 21 → lp (lb_X12_looks_175 M4 86 a b (nI c) (nI d)) lpN (0, 0) = some (L (21 * c + d)) := by
    intro a b c d hc' hd
    have eLm : L (21 * c + d) = mostL N sem x f c d 10 := by
      rw [eL]
      show mostL N sem x f ((21 * c + d) / 21) ((21 * c + d) % 21) 10 = _
      rw [show (21 * c + d) / 21 = c by omega, show (21 * c + d) % 21 = d by omega]
    rw [eLm]
    refine lp_run (fun u => (mostL N sem x f c d u, nI u)) 10 _ ?_ ?_ (by decide) rfl
    · intro u hu
      have a1 : aI M4 108 14 (nI ((21 * c + d) * 10 + u)) = some (nI (cntL N sem x f c d (nI u) (N_s N))) := by rw [aI_eq w4.wm 108 14 1260 rfl _ (by omega) (by decide), hm c d u hc' hd hu]
      unfold lb_X12_looks_175
      simp only [if_pos (show nI u ≤ 9 from nI_le (b := 9) (by omega) (by decide)), g_86_38 w4.wm, Option.bind_some, cell_eq, nI_add, a1, nI_1]
      rfl
    · unfold lb_X12_looks_175
      rw [if_neg (show ¬ nI 10 ≤ 9 by decide)]
  obtain ⟨S, eS⟩ : ∃ S : Nat → Int32 × Int32, S = fun m => if m = 0 then (-1, 1000000) else bestL L (m - 1) := ⟨_, rfl⟩
  have S0 : S 0 = (-1, 1000000) := by rw [eS]; rfl
  have Sp : ∀ m, S (m + 1) = bestL L m := fun m => by rw [eS]; rfl
  have SS : ∀ m, (if L m < (S m).2 then (nI m, L m) else S m) = S (m + 1) := fun m => by
    cases m with
    | zero =>
      obtain ⟨k, hk, ek⟩ := Lle 0
      have lt : L 0 < 1000000 := by rw [ek]; exact nI_lt (b := 1000000) (by omega) (by decide)
      rw [S0, Sp, if_pos lt]
      rfl
    | succ m' =>
      rw [Sp, Sp]
      rfl
  have row : ∀ c, c < N_b N → lp (lb_X12_looks_162 M4 86 (nI c)) lpN ((S (21 * c)).1, (S (21 * c)).2, 0) = some (S (21 * c + 21)) := by
    intro c hc'
    refine lp_run (fun d => ((S (21 * c + d)).1, (S (21 * c + d)).2, nI d)) 21 _ ?_ ?_ (by decide) rfl
    · intro d hd
      have m21 : (21 : Int32) * nI c + nI d = nI (21 * c + d) := by
        have : nI 21 * nI c = nI (21 * c) := pk_mul 21 c
        rw [show (21 : Int32) * nI c = _ from this, nI_add]
      have q := SS (21 * c + d)
      unfold lb_X12_looks_162
      simp only [if_pos (show nI d ≤ 20 from nI_le (b := 20) (by omega) (by decide)), most _ _ c d hc' hd, Option.bind_some, m21, nI_1]
      rw [show 21 * c + (d + 1) = 21 * c + d + 1 by omega, ← q]
      by_cases z : L (21 * c + d) < (S (21 * c + d)).2
      · simp only [if_pos z]
      · simp only [if_neg z]
    · unfold lb_X12_looks_162
      rw [if_neg (show ¬ nI 21 ≤ 20 by decide)]
  have clM : lp (lb_X12_looks_150 M4 86) lpN (-1, 1000000, 0) = some (S (21 * N_b N)) := by
    refine lp_run (fun c => ((S (21 * c)).1, (S (21 * c)).2, nI c)) (N_b N) _ ?_ ?_ (by omega) (by rw [Nat.mul_zero, S0]; rfl)
    · intro c hc'
      unfold lb_X12_looks_150
      simp only [w_gI w4.wm 86 11 1 rfl, w4.mn.1, Option.bind_some, if_pos (nI_lt hc' bN), row c hc', nI_1]
      rfl
    · unfold lb_X12_looks_150
      simp only [w_gI w4.wm 86 11 1 rfl, w4.mn.1, Option.bind_some, if_neg (nI_nlt (Nat.le_refl (N_b N)) bN)]
  have Se : S (21 * N_b N) = bestL L (N_b N * 21 - 1) := by
    obtain ⟨p, ep⟩ : ∃ p, 21 * N_b N = p + 1 := ⟨21 * N_b N - 1, by omega⟩
    rw [ep, Sp, show N_b N * 21 - 1 = p by omega]
  rw [Se] at clM
  obtain ⟨k, hk, ek⟩ := bestL_fst L (N_b N * 21 - 1)
  have n2 : ¬ (bestL L (N_b N * 21 - 1)).1 = -2 := by
    rw [ek]
    intro h
    have := congrArg Int32.toInt h
    rw [nI_toInt (by omega)] at this
    have : ((-2 : Int32)).toInt = -2 := by decide
    omega
  have nb0 : ¬ nI (N_b N) = 0 := nI_ne0 bp (by omega)
  obtain ⟨C5, M5, f5, g5, G5, H5, w5⟩ := w4.begin
  obtain ⟨C6, M6, f6, g6, G6, H6, w6⟩ := w5.add (by decide) (Int32.toInt64 (bestL L (N_b N * 21 - 1)).2)
  refine w6.qr (bestL L (N_b N * 21 - 1)).1 ?_ ?_ (G2.trans (G3.trans ((G5.mono stC_sc).trans (G6.mono stC_sc)))) (F1.trans (H2.trans (H4.trans ((H5.mono stM_sm).trans (H6.mono stM_sm)))))
  · unfold fn_X11_looks
    simp only [k_0 w1.wc, Option.bind_some, f2, if_neg f0, k_0 w2.wc, f3, clC, if_neg n2, g_0_11 w3.wc, k_77 w3.wc, f5, g_0_11 w5.wc, k_77 w5.wc, f6]
  · unfold fn_X12_looks
    simp only [p1, k_86 w1.wm, Option.bind_some, g2, if_neg f0, w_gI w2.wm 86 11 1 rfl, w2.mn.1, if_neg nb0, g3, g4, clM, g5, k_86 w5.wm, g6]
def s104 (a j : Nat) : Bool := a == 104
theorem s104_sm (a j : Nat) (e : sm a j = false) : s104 a j = false := by
  unfold sm at e
  unfold s104
  simp at e ⊢
  omega
/-- which of the first i sendings leave it at its mark behind h hours -/
def tabN (N : Net) (sem : Sem) (x : XX) (a b c h : Nat) : Nat → Nat
  | 0 => 0
  | i + 1 => tabN N sem x a b c h i ||| (if mkd (hXs N sem h (sntX x a b i)) c = true then 2 ^ i else 0)
theorem tabN_lt (a b c h : Nat) : ∀ i, i ≤ 4 → tabN N sem x a b c h i < 16
  | 0, _ => (by decide : (0 : Nat) < 16)
  | i + 1, hi => by
    have := tabN_lt a b c h i (by omega)
    refine Nat.or_lt_two_pow (n := 4) this ?_
    split
    · exact Nat.pow_lt_pow_right (by decide) (by omega)
    · decide
theorem q_learns (w : WW N sem x l C M) (a b c n : Int32) : QR (fn_X11_learns C 0 a b c n) (fn_X12_learns M 86 a b c n) C M := by
  have h6 := w.v.1
  obtain ⟨M1, p1, F1, w1⟩ := w.thr
  have wc := w1.wc
  have wm := w1.wm
  have no : ∀ {oM}, fn_X11_learns C 0 a b c n = some (-1, C) → oM = some (-1, M1) → QR (fn_X11_learns C 0 a b c n) oM C M := fun e1 e2 => w1.qr (-1) e1 e2 (Fr.refl _ _) F1
  rcases w1.quarter a b c with ⟨a1, a2⟩ | ⟨i, j, k, hi, hj, hk, hij, rfl, rfl, rfl, a1, a2, a3⟩
  · refine no ?_ ?_
    · unfold fn_X11_learns; simp only [k_0 wc, Option.bind_some, a1, if_true]
    · unfold fn_X12_learns
      rcases a2 with a2 | ⟨a2, a3⟩
      · simp only [p1, k_86 wm, Option.bind_some, a2, if_true]
      · simp only [p1, k_86 wm, Option.bind_some, a2, a3, if_neg one0, if_true]
  rcases int_cases 15 (by decide) n with ⟨c1, -⟩ | ⟨c1, c2⟩ | ⟨c1, c2, m, hm, rfl⟩
  · refine no ?_ ?_
    · unfold fn_X11_learns; simp only [k_0 wc, Option.bind_some, a1, if_neg one0, if_pos c1]
    · unfold fn_X12_learns; simp only [p1, k_86 wm, Option.bind_some, a2, a3, if_neg one0, in_no (Or.inl c1), if_true]
  · replace c2 : ¬ n ≤ 15 := c2
    refine no ?_ ?_
    · unfold fn_X11_learns; simp only [k_0 wc, Option.bind_some, a1, if_neg one0, if_neg c1, if_neg c2]
    · unfold fn_X12_learns; simp only [p1, k_86 wm, Option.bind_some, a2, a3, if_neg one0, in_no (Or.inr ⟨c1, c2⟩), if_true]
  replace c2 : nI m ≤ 15 := c2
  obtain ⟨T, eT⟩ : ∃ T : Nat → Nat → Nat, T = fun h q => tabN N sem x i j k h q := ⟨_, rfl⟩
  have T0 : ∀ h, T h 0 = 0 := fun h => by rw [eT]; rfl
  have TS : ∀ h q, T h (q + 1) = T h q ||| (if mkd (hXs N sem h (sntX x i j q)) k = true then 2 ^ q else 0) := fun h q => by rw [eT]; rfl
  have Tlt : ∀ h q, q ≤ 4 → T h q < 16 := fun h q hq => by rw [eT]; exact tabN_lt i j k h q hq
  -- the reference clears
  obtain ⟨G, eG⟩ : ∃ G : Nat → XX, G = fun k j => if j < k then 0 else hI M1 104 j := ⟨_, rfl⟩
  have wk : ∀ k, Wf (rI M1 104 (G k)) := fun k => wm
  have e0 : rI M1 104 (G 0) = M1 := by
    have : G 0 = hI M1 104 := by rw [eG]; funext j; simp
    rw [this, rI_self]
  have loop0 : lp (lb_X12_learns_38 86 (nI i) (nI j) (nI k) (nI m)) lpN (0, M1) = some (rI M1 104 (G 41)) := by
    refine lp_run (fun k => (nI k, rI M1 104 (G k))) 41 _ ?_ ?_ (by decide) (by rw [e0]; rfl)
    · intro q hq
      unfold lb_X12_learns_38
      simp only [if_pos (show nI q ≤ 40 from nI_le (b := 40) (by omega) (by decide)), Option.bind_some, g_86_33 (wk q), wI_eq (wk q) 104 41 rfl q hq (by decide), sI_rI, nI_1]
      have : va_up (G q) q 0 = G (q + 1) := by
        funext j
        rw [eG]
        unfold va_up
        by_cases hj : j = q
        · subst hj; simp
        · by_cases hj2 : j < q
          · simp [hj, hj2, show j < q + 1 by omega]
          · simp [hj, hj2, show ¬ j < q + 1 by omega]
      rw [this]
    · unfold lb_X12_learns_38
      simp only [if_neg (show ¬ nI 41 ≤ 40 by decide)]
  have H0 : Fr s104 M1 (rI M1 104 (G 41)) := (Fr.refl _ _).rI _ (fun _ => rfl)
  have w2 := w1.toM H0 s104_sm rfl (fun _ => rfl)
  obtain ⟨C3, M3, f3, g3, G3, H3, w3, hC, hM⟩ : ∃ r q, lp (lb_X11_putTablesIntoTrace_3 0 (nI i) (nI j) (nI k)) lpN (0, C) = some r ∧ lp (lb_X12_learns_62 86 (nI i) (nI j) (nI k) (nI m)) lpN (0, rI M1 104 (G 41)) = some q ∧ (Fr sc C r ∧ Fr sm M q ∧ WW N sem x l r q ∧ (∀ h, h ≤ 40 → hJ r 83 h = lN (T h 4)) ∧ (∀ h, h ≤ 40 → hI q 104 h = nI (T h 4))) := by
    refine lp_two (fun q s t => s.1 = nI q ∧ t.1 = nI q ∧ Fr sc C s.2 ∧ Fr sm M t.2 ∧ WW N sem x l s.2 t.2 ∧ (∀ h, h ≤ 40 → 0 < q → hJ s.2 83 h = lN (T h q)) ∧ (∀ h, h ≤ 40 → hI t.2 104 h = nI (T h q))) _ 4 (by decide) ?_ ?_ ⟨rfl, rfl, Fr.refl _ _, F1.trans (H0.mono s104_sm), w2, fun h _ h0 => absurd h0 (by omega), fun h hh => ?_⟩
    · rintro q ⟨s1, Cq⟩ ⟨t1, Mq⟩ hq ⟨rfl, rfl, GC, GM, wq, hC, hM⟩
      dsimp only at GC GM wq hC hM
      obtain ⟨C3, M3, f3, g3, G3, H3, b3⟩ := wq.sent hi hj hq
      obtain ⟨r, u, er, eu, Gr, Hu, wr, hCr, hMu⟩ : ∃ r u, lp (lb_X11_putTablesIntoTrace_20 0 (nI i) (nI j) (nI k) (nI q)) lpN (0, C3) = some r ∧ lp (lb_X12_learns_79 86 (nI i) (nI j) (nI k) (nI m) (nI q)) lpN (0, M3) = some u ∧ (Fr sc C r ∧ Fr sm M u ∧ WW N sem x l r u ∧ (∀ h, h ≤ 40 → hJ r 83 h = lN (T h (q + 1))) ∧ (∀ h, h ≤ 40 → hI u 104 h = nI (T h (q + 1)))) := by
        refine lp_two (fun h s t => s.1 = nI h ∧ t.1 = nI h ∧ Fr sc C s.2 ∧ Fr sm M t.2 ∧ BB N sem x l h s.2 t.2 (hXs N sem h (sntX x i j q)) ∧ (∀ g, g < h → hJ s.2 83 g = lN (T g (q + 1))) ∧ (∀ g, h ≤ g → g ≤ 40 → 0 < q → hJ s.2 83 g = lN (T g q)) ∧ (∀ g, g ≤ 40 → hI t.2 104 g = nI (T g (if g < h then q + 1 else q)))) _ 41 (by decide) ?_ ?_ ⟨rfl, rfl, GC.trans (G3.mono sh_sc), GM.trans (H3.mono mh_sm), b3, fun g hg => absurd hg (by omega), fun g _ hg h0 => ?_, fun g hg => ?_⟩
        · rintro h ⟨s1, Ch⟩ ⟨t1, Mh⟩ hh ⟨rfl, rfl, GC, GM, bh, h1, h2, h3⟩
          dsimp only at GC GM bh h1 h2 h3
          obtain ⟨mC, mM⟩ := bh.mk (show k < 6 by omega)
          have lt := Tlt h q (by omega)
          have lt1 := Tlt h (q + 1) (by omega)
          have q2 : 2 ^ q < 16 := Nat.pow_lt_pow_right (n := 4) (by decide) hq
          have Gs : Fr s83 Ch (sJ Ch 83 h (lN (T h (q + 1)))) := (Fr.refl _ _).sJ _ rfl
          have Hs : Fr s104 Mh (sI Mh 104 h (nI (T h (q + 1)))) := (Fr.refl _ _).sI _ rfl
          have ww := (bh.ww.toC Gs s83_sc rfl (fun _ => rfl)).toM Hs s104_sm rfl (fun _ => rfl)
          have bb2 := bh.go ww Gs Hs (fun _ => rfl) (fun _ => rfl) (fun _ => rfl) (fun _ => rfl)
          obtain ⟨C4, M4, f4, g4, G4, H4, b4⟩ := bb2.pass (by omega)
          have ch : nI h ≤ 40 := nI_le (b := 40) (by omega) (by decide)
          have h3h := h3 h (by omega)
          rw [if_neg (by omega)] at h3h
          have aM : aI Mh 104 14 (nI h) = some (nI (T h q)) := by rw [aI_eq bh.wm 104 14 41 rfl h (by omega) (by decide), h3h]
          have orM : nI (T h q) ||| bitIf (mkd (hXs N sem h (sntX x i j q)) k) q = nI (T h (q + 1)) := by
            rw [TS]
            cases mkd (hXs N sem h (sntX x i j q)) k
            · show nI (T h q) ||| 0 = nI (T h q ||| 0)
              rw [or0, Nat.or_zero]
            · show nI (T h q) ||| bitI q = nI (T h q ||| 2 ^ q)
              rw [bitI_eq' (by omega), fa_or]
          have tC : ((if nI q = 0 then some 0 else (gR Ch 0 10 13).bind fun a16 => (aJ Ch a16 (nI h)).bind fun y17 => some y17) : Option Int64) = some (lN (T h q)) := by
            by_cases q0 : q = 0
            · subst q0
              rw [if_pos (show nI 0 = 0 from rfl), T0]
              rfl
            · rw [if_neg (nI_ne0 (by omega) (by omega)), g_0_13 bh.wc, Option.bind_some, aJ_eq bh.wc 83 168 rfl h (by omega) (by decide), h2 h (Nat.le_refl _) (by omega) (by omega)]
              rfl
          have bC : (if b2 (mkd (hXs N sem h (sntX x i j q)) k) = 0 then some (0 : Int64) else some (lsl 1 (nI q))) = some (lN (if mkd (hXs N sem h (sntX x i j q)) k = true then 2 ^ q else 0)) := by
            cases mkd (hXs N sem h (sntX x i j q)) k
            · rfl
            · have := lsl_nat (a := 1) (k := q) (by omega)
              rw [Nat.one_mul] at this
              rw [if_neg (show ¬ b2 true = 0 by decide), if_pos rfl, show lsl 1 (nI q) = _ from this]
          have orC : lN (T h q) ||| lN (if mkd (hXs N sem h (sntX x i j q)) k = true then 2 ^ q else 0) = lN (T h (q + 1)) := by
            rw [TS]
            refine wb_or (by omega) ?_
            split <;> omega
          refine Or.inl ⟨(nI (h + 1), C4), (nI (h + 1), M4), ?_, ?_, rfl, rfl, GC.trans ((Gs.mono s83_sc).trans (G4.mono sh_sc)), GM.trans ((Hs.mono s104_sm).trans (H4.mono mh_sm)), b4, fun g hg => ?_, fun g hg hg2 h0 => ?_, fun g hg => ?_⟩
          · unfold lb_X11_putTablesIntoTrace_20
            simp only [if_pos ch, g_0_9 bh.wc, k_28 bh.wc, Option.bind_some, mC, bC]
            rw [g_0_13 bh.wc, Option.bind_some]
            have tC' := tC
            rw [g_0_13 bh.wc] at tC'
            simp only [Option.bind_some] at tC' ⊢
            rw [tC']
            simp only [Option.bind_some, orC, wJ_eq bh.wc 83 168 rfl h (by omega) (by decide), g_0_1 bb2.wc, g_0_9 bb2.wc, g_0_4 bb2.wc, k_3 bb2.wc, f4, nI_1]
          · unfold lb_X12_learns_79
            simp only [if_pos ch, g_86_33 bh.wm, Option.bind_some, aM, g_86_26 bh.wm, k_86 bh.wm, mM, bitIf_eq, orM, wI_eq bh.wm 104 41 rfl h (by omega) (by decide), g_86_26 bb2.wm, k_86 bb2.wm, g4, nI_1]
          · show hJ C4 83 g = _
            rw [G4.jrow 83 (fun _ => rfl), hJ_sJ]
            by_cases e : g = h
            · subst e; rw [if_pos ⟨rfl, rfl⟩]
            · rw [if_neg (by simp [e])]; exact h1 g (by omega)
          · show hJ C4 83 g = _
            rw [G4.jrow 83 (fun _ => rfl), hJ_sJ, if_neg (by omega)]; exact h2 g (by omega) hg2 h0
          · show hI M4 104 g = _
            rw [H4.i 104 g rfl, hI_sI]
            by_cases e : g = h
            · subst e; rw [if_pos ⟨rfl, rfl⟩, if_pos (by omega)]
            · rw [if_neg (by simp [e]), h3 g hg]
              by_cases q : g < h
              · rw [if_pos q, if_pos (by omega)]
              · rw [if_neg q, if_neg (by omega)]
        · rintro ⟨s1, Ch⟩ ⟨t1, Mh⟩ ⟨rfl, rfl, GC, GM, bh, h1, h2, h3⟩
          refine ⟨Ch, Mh, ?_, ?_, GC, GM, bh.ww, fun h hh => h1 h (by omega), fun h hh => by rw [h3 h hh, if_pos (by omega)]⟩
          · unfold lb_X11_putTablesIntoTrace_20; rw [if_neg (show ¬ nI 41 ≤ 40 by decide)]
          · unfold lb_X12_learns_79; rw [if_neg (show ¬ nI 41 ≤ 40 by decide)]
        · show hJ C3 83 g = _
          rw [G3.jrow 83 (fun _ => rfl)]; exact hC g hg h0
        · show hI M3 104 g = _
          rw [H3.i 104 g rfl, if_neg (by omega)]; exact hM g hg
      have cq : nI q < 4 := nI_lt (b := 4) hq (by decide)
      refine Or.inl ⟨(nI (q + 1), r), (nI (q + 1), u), ?_, ?_, rfl, rfl, Gr, Hu, wr, fun h hh _ => hCr h hh, hMu⟩
      · unfold lb_X11_putTablesIntoTrace_3
        simp only [if_pos cq, k_0 wq.wc, Option.bind_some, f3, er, nI_1]
      · unfold lb_X12_learns_62
        simp only [if_pos cq, k_86 wq.wm, Option.bind_some, g3, eu, nI_1]
    · rintro ⟨s1, Cq⟩ ⟨t1, Mq⟩ ⟨rfl, rfl, GC, GM, wq, hC, hM⟩
      refine ⟨Cq, Mq, ?_, ?_, GC, GM, wq, fun h hh => hC h hh (by decide), hM⟩
      · unfold lb_X11_putTablesIntoTrace_3; rw [if_neg (show ¬ nI 4 < 4 by decide)]
      · unfold lb_X12_learns_62; rw [if_neg (show ¬ nI 4 < 4 by decide)]
    · show hI (rI M1 104 (G 41)) 104 h = _
      rw [hI_rI, if_pos rfl, eG, T0]
      dsimp only
      rw [if_pos (by omega)]
      rfl
  obtain ⟨r, q, er, eq, rq⟩ : ∃ r q, lp (lb_X11_learns_41 C3 0 (nI m)) lpN (-2, 0, 0) = some r ∧ lp (lb_X12_learns_146 M3 86 (nI m)) lpN (-2, 0, 0) = some q ∧ r = q := by
    refine lp_two (fun h s t => s = t ∧ s.2.2 = nI h) _ 41 (by decide) ?_ ?_ ⟨rfl, rfl⟩
    · rintro h ⟨s1, s2, s3⟩ t hh ⟨rfl, rfl⟩
      have ch : nI h ≤ 40 := nI_le (b := 40) (by omega) (by decide)
      have a1 : aJ C3 83 (nI h) = some (lN (T h 4)) := by rw [aJ_eq w3.wc 83 168 rfl h (by omega) (by decide), hC h (by omega)]
      have b1 : aI M3 104 14 (nI h) = some (nI (T h 4)) := by rw [aI_eq w3.wm 104 14 41 rfl h (by omega) (by decide), hM h (by omega)]
      have lt := Tlt h 4 (Nat.le_refl _)
      have em : lN (T h 4) = Int32.toInt64 (nI m) ↔ nI (T h 4) = nI m := by
        rw [← nI_l (by omega)]
        exact fa_wide_eq _ _
      unfold lb_X11_learns_41 lb_X12_learns_146
      simp only [if_pos ch, g_0_13 w3.wc, g_86_33 w3.wm, Option.bind_some, a1, b1, cmp0, em, nI_1]
      by_cases e : nI (T h 4) = nI m
      · simp only [if_pos e]
        by_cases d : s1 = -2
        · simp only [if_pos d]
          exact Or.inl ⟨_, _, rfl, rfl, rfl, rfl⟩
        · simp only [if_neg d]
          exact Or.inl ⟨_, _, rfl, rfl, rfl, rfl⟩
      · simp only [if_neg e]
        exact Or.inl ⟨_, _, rfl, rfl, rfl, rfl⟩
    · rintro ⟨s1, s2, s3⟩ t ⟨rfl, rfl⟩
      refine ⟨(s1, s2), (s1, s2), ?_, ?_, rfl⟩
      · unfold lb_X11_learns_41; rw [if_neg (show ¬ nI 41 ≤ 40 by decide)]
      · unfold lb_X12_learns_146; rw [if_neg (show ¬ nI 41 ≤ 40 by decide)]
  subst rq
  have tr : fn_X11_putTablesIntoTrace C 0 (nI i) (nI j) (nI k) = some C3 := by
    unfold fn_X11_putTablesIntoTrace
    rw [f3]
    rfl
  by_cases d : r.1 = -2
  · refine w3.qr (-2) ?_ ?_ G3 H3
    · unfold fn_X11_learns
      simp only [k_0 wc, Option.bind_some, a1, if_neg one0, if_neg c1, if_pos c2, tr, er, if_pos d, d, if_true]
    · unfold fn_X12_learns
      simp only [p1, k_86 wm, Option.bind_some, a2, a3, if_neg one0, in_yes c1 c2, loop0, g3, eq, if_pos d, d, if_true]
  · obtain ⟨C5, M5, f5, g5, G5, H5, w5⟩ := w3.begin
    obtain ⟨C6, M6, f6, g6, G6, H6, w6⟩ := w5.add (by decide) (Int32.toInt64 r.2)
    refine w6.qr r.1 ?_ ?_ (G3.trans ((G5.mono stC_sc).trans (G6.mono stC_sc))) (H3.trans ((H5.mono stM_sm).trans (H6.mono stM_sm)))
    · unfold fn_X11_learns
      simp only [k_0 wc, Option.bind_some, a1, if_neg one0, if_neg c1, if_pos c2, tr, er, if_neg d, g_0_11 w3.wc, k_77 w3.wc, f5, g_0_11 w5.wc, k_77 w5.wc, f6]
    · unfold fn_X12_learns
      simp only [p1, k_86 wm, Option.bind_some, a2, a3, if_neg one0, in_yes c1 c2, loop0, g3, eq, if_neg d, g5, k_86 w5.wm, g6]
end Q11
