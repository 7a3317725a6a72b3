/-! questions: table, quarters, learns -/
section Q2
variable {N : Net} {sem : Sem} {x : XX} {l : List Int64} {C M : aH}
theorem soon_no {h : aH} {v : Int32} (e : v < 0 ∨ (¬ v < 0 ∧ ¬ v ≤ 40)) : fn_X12_isSoon h v = some 0 := by
  unfold fn_X12_isSoon
  rw [in_no e]
  rfl
theorem soon_yes {h : aH} {v : Int32} (e1 : ¬ v < 0) (e2 : v ≤ 40) : fn_X12_isSoon h v = some 1 := by
  unfold fn_X12_isSoon
  rw [in_yes e1 e2]
  rfl
def bitIf (b : Bool) (i : Nat) : Int32 := if b = true then bitI i else 0
theorem bitIf_eq (b : Bool) (i : Nat) : (if b2 b = 0 then some (0 : Int32) else some (1 <<< (nI i &&& 31))) = some (bitIf b i) := by
  cases b <;> rfl
theorem q_table (w : WW N sem x l C M) (a b c n : Int32) : QR (fn_X11_table C 0 a b c n) (fn_X12_table M 86 a b c n) C M := by
  have h6 := w.v.1
  obtain ⟨M1, p1, F1, w1⟩ := w.thr
  have wc := w1.wc
  have wm := w1.wm
  have no : ∀ {oM}, fn_X11_table C 0 a b c n = some (-1, C) → oM = some (-1, M1) → QR (fn_X11_table C 0 a b c n) oM C M := fun e1 e2 => w1.qr (-1) e1 e2 (Fr.refl _ _) F1
  rcases w1.quarter a b c with ⟨a1, a2⟩ | ⟨i, j, k, hi, hj, hk, hij, rfl, rfl, rfl, a1, a2, a3⟩
  · refine no ?_ ?_
    · unfold fn_X11_table; simp only [k_0 wc, Option.bind_some, a1, if_true]
    · unfold fn_X12_table
      rcases a2 with a2 | ⟨a2, a3⟩
      · simp only [p1, k_86 wm, Option.bind_some, a2, if_true]
      · simp only [p1, k_86 wm, Option.bind_some, a2, a3, if_neg one0, if_true]
  rcases int_cases 40 (by decide) n with ⟨c1, -⟩ | ⟨c1, c2⟩ | ⟨c1, c2, m, hm, rfl⟩
  · refine no ?_ ?_
    · unfold fn_X11_table; simp only [k_0 wc, Option.bind_some, a1, if_neg one0, if_pos c1]
    · unfold fn_X12_table; simp only [p1, k_86 wm, Option.bind_some, a2, a3, if_neg one0, soon_no (Or.inl c1), if_true]
  · replace c2 : ¬ n ≤ 40 := c2
    refine no ?_ ?_
    · unfold fn_X11_table; simp only [k_0 wc, Option.bind_some, a1, if_neg one0, if_neg c1, if_neg c2]
    · unfold fn_X12_table; simp only [p1, k_86 wm, Option.bind_some, a2, a3, if_neg one0, soon_no (Or.inr ⟨c1, c2⟩), if_true]
  replace c2 : nI m ≤ 40 := c2
  obtain ⟨C2, M2, e2, e2', G2, H2, w2⟩ := w1.begin
  refine Exists.elim (lp_two (b1 := lb_X11_table_37 0 (nI i) (nI j) (nI k) (nI m)) (b2 := lb_X12_table_43 86 (nI i) (nI j) (nI k) (nI m))
    (fun q s t => s.1 = t.1 ∧ s.2.1 = nI q ∧ t.2.1 = nI q ∧ Fr sc C s.2.2 ∧ Fr sm M t.2.2 ∧ ∃ l', l'.length = q ∧ WW N sem x l' s.2.2 t.2.2)
    (fun s t => s.1 = t.1 ∧ Fr sc C s.2 ∧ Fr sm M t.2 ∧ ∃ l', WW N sem x l' s.2 t.2) 4 (by decide) ?_ ?_ (s0 := (0, 0, C2)) (t0 := (0, 0, M2)) ⟨rfl, rfl, rfl, G2.mono stC_sc, F1.trans (H2.mono stM_sm), [], rfl, w2⟩) ?_
  · rintro q ⟨s1, s2, Cq⟩ ⟨t1, t2, Mq⟩ hq ⟨rfl, rfl, rfl, GC, GM, l', hl, wq⟩
    dsimp only at GC GM wq
    obtain ⟨C3, M3, f3, g3, G3, H3, b3⟩ := wq.sent hi hj hq
    obtain ⟨C4, M4, f4, g4, G4, H4, b4⟩ := b3.run (by decide) (n := m) (by omega)
    obtain ⟨mkC, mkM⟩ := b4.mk (show k < 6 by omega)
    obtain ⟨lvC, lvM⟩ := b4.lv (show k < 6 by omega)
    obtain ⟨C5, M5, f5, g5, G5, H5, b5⟩ := b4.add (by omega) (Int32.toInt64 (hXs N sem m (sntX x i j q) k))
    have cq : nI q < 4 := nI_lt (b := 4) hq (by decide)
    refine Or.inl ⟨(s1 ||| bitIf (mkd (hXs N sem m (sntX x i j q)) k) q, nI (q + 1), C5), (s1 ||| bitIf (mkd (hXs N sem m (sntX x i j q)) k) q, nI (q + 1), M5), ?_, ?_, rfl, rfl, rfl, GC.trans ((G3.mono sh_sc).trans ((G4.mono sh_sc).trans (G5.mono stC_sc))), GM.trans ((H3.mono mh_sm).trans ((H4.mono mh_sm).trans (H5.mono stM_sm))), _, by simp [hl], b5.ww⟩
    · unfold lb_X11_table_37
      simp only [if_pos cq, k_0 wq.wc, Option.bind_some, f3, g_0_1 b3.wc, g_0_9 b3.wc, g_0_4 b3.wc, k_3 b3.wc, f4, g_0_9 b4.wc, k_28 b4.wc, mkC, bitIf_eq, g_0_11 b4.wc, g_28_0 b4.wc, lvC, k_77 b4.wc, f5, nI_1]
    · unfold lb_X12_table_43
      simp only [if_pos cq, k_86 wq.wm, Option.bind_some, g3, g_86_26 b3.wm, k_86 b3.wm, g4, g_86_26 b4.wm, k_86 b4.wm, mkM, bitIf_eq, lvM, g5, nI_1]
  · rintro ⟨s1, s2, Cq⟩ ⟨t1, t2, Mq⟩ ⟨rfl, rfl, rfl, GC, GM, l', hl, wq⟩
    refine ⟨(s1, Cq), (s1, Mq), ?_, ?_, rfl, GC, GM, l', wq⟩
    · unfold lb_X11_table_37; rw [if_neg (show ¬ nI 4 < 4 by decide)]
    · unfold lb_X12_table_43; rw [if_neg (show ¬ nI 4 < 4 by decide)]
  · rintro ⟨r, C3⟩ ⟨⟨r', M3⟩, eC, eM, rfl, GC, GM, l', w3⟩
    refine w3.qr r ?_ ?_ GC GM
    · unfold fn_X11_table
      simp only [k_0 wc, Option.bind_some, a1, if_neg one0, if_neg c1, if_pos c2, g_0_11 wc, k_77 wc, e2, eC]
    · unfold fn_X12_table
      simp only [p1, k_86 wm, Option.bind_some, a2, a3, if_neg one0, soon_yes c1 c2, e2', eM]
/-- masks: row 84 of the class, row 103 of the reference -/
theorem clearMasks_eq {h : aH} (w : Wf h) : ∃ f, fn_X11_clearMasks h 0 = some (rI h 84 f) ∧ ∀ i, i < 6 → f i = 0 := by
  obtain ⟨F, eF⟩ : ∃ F : Nat → XX, F = fun k j => if j < k then 0 else hI h 84 j := ⟨_, rfl⟩
  have wk : ∀ k, Wf (rI h 84 (F k)) := fun k => w
  have e0 : rI h 84 (F 0) = h := by
    have : F 0 = hI h 84 := by rw [eF]; funext j; simp
    rw [this, rI_self]
  have loop : lp (lb_X11_clearMasks_2 0) lpN (0, h) = some (rI h 84 (F 6)) := by
    refine lp_run (fun k => (nI k, rI h 84 (F k))) 6 _ ?_ ?_ (by decide) (by rw [e0]; rfl)
    · intro k hk
      have c1 : nI k < 6 := nI_lt (b := 6) hk (by decide)
      unfold lb_X11_clearMasks_2
      simp only [c1, if_true, g_0_14 (wk k), Option.bind_some, wI_eq (wk k) 84 6 rfl k hk (by decide), sI_rI, nI_1]
      have : va_up (F k) k 0 = F (k + 1) := by
        funext j
        rw [eF]
        unfold va_up
        by_cases hj : j = k
        · subst hj; simp
        · by_cases hj2 : j < k
          · simp [hj, hj2, show j < k + 1 by omega]
          · simp [hj, hj2, show ¬ j < k + 1 by omega]
      rw [this]
    · unfold lb_X11_clearMasks_2
      rfl
  refine ⟨F 6, ?_, fun i hi => by rw [eF]; simp [hi]⟩
  unfold fn_X11_clearMasks
  rw [loop]
  rfl
def s84 (a j : Nat) : Bool := a == 84
def s103 (a j : Nat) : Bool := a == 103
theorem s84_sc (a j : Nat) (e : sc a j = false) : s84 a j = false := by
  unfold sc at e
  unfold s84
  simp at e ⊢
  omega
theorem s103_sm (a j : Nat) (e : sm a j = false) : s103 a j = false := by
  unfold sm at e
  unfold s103
  simp at e ⊢
  omega
/-- both masks are told for a pair -/
theorem masks_eq (w : WW N sem x l C M) {a b m : Nat} (ha : a < N_b N) (hb : b < N_b N) (hm : m < 2000) (f1 f2 : Int32) (tq : Int32) :
    ∃ C' M1 M', fn_X11_putTablesIntoMasks C 0 (nI a) (nI b) (nI m) = some C' ∧ lp (lb_X12_quarters_61 86 tq (nI m) f1 (nI a) (nI b)) lpN (0, M) = some M1 ∧ lp (lb_X12_quarters_87 86 tq (nI m) f2 (nI a) (nI b)) lpN (0, M1) = some M' ∧
      Fr sc C C' ∧ Fr sm M M' ∧ WW N sem x l C' M' ∧ ∀ c, c < N_b N → hI C' 84 c = hI M' 103 c := by
  have h6 := w.v.1
  obtain ⟨f, ef, hf⟩ := clearMasks_eq w.wc
  have F0 : Fr s84 C (rI C 84 f) := (Fr.refl _ _).rI _ (fun _ => rfl)
  have w0 := w.toC F0 s84_sc rfl (fun _ => rfl)
  -- the reference clears as many as there are
  obtain ⟨G, eG⟩ : ∃ G : Nat → XX, G = fun k j => if j < k then 0 else hI M 103 j := ⟨_, rfl⟩
  have wk : ∀ k, Wf (rI M 103 (G k)) := fun k => w.wm
  have e0 : rI M 103 (G 0) = M := by
    have : G 0 = hI M 103 := by rw [eG]; funext j; simp
    rw [this, rI_self]
  have loop : lp (lb_X12_quarters_61 86 tq (nI m) f1 (nI a) (nI b)) lpN (0, M) = some (rI M 103 (G (N_b N))) := by
    refine lp_run (fun k => (nI k, rI M 103 (G k))) (N_b N) _ ?_ ?_ (by omega) (by rw [e0]; rfl)
    · intro k hk
      have gi : gI (rI M 103 (G k)) 86 11 1 = some (nI (N_b N)) := by rw [w_gI (wk k) 86 11 1 rfl, hI_rI, if_neg (by decide), w.mn.1]
      unfold lb_X12_quarters_61
      simp only [gi, Option.bind_some, if_pos (nI_lt hk (show N_b N < 2 ^ 31 by omega)), g_86_32 (wk k), wI_eq (wk k) 103 6 rfl k (by omega) (by decide), sI_rI, nI_1]
      have : va_up (G k) k 0 = G (k + 1) := by
        funext j
        rw [eG]
        unfold va_up
        by_cases hj : j = k
        · subst hj; simp
        · by_cases hj2 : j < k
          · simp [hj, hj2, show j < k + 1 by omega]
          · simp [hj, hj2, show ¬ j < k + 1 by omega]
      rw [this]
    · have gi : gI (rI M 103 (G (N_b N))) 86 11 1 = some (nI (N_b N)) := by rw [w_gI (wk _) 86 11 1 rfl, hI_rI, if_neg (by decide), w.mn.1]
      unfold lb_X12_quarters_61
      simp only [gi, Option.bind_some, if_neg (nI_nlt (Nat.le_refl (N_b N)) (show N_b N < 2 ^ 31 by omega))]
  have H0 : Fr s103 M (rI M 103 (G (N_b N))) := (Fr.refl _ _).rI _ (fun _ => rfl)
  have w1 := w0.toM H0 s103_sm rfl (fun _ => rfl)
  have main : ∃ r q, lp (lb_X11_putTablesIntoMasks_7 0 (nI a) (nI b) (nI m)) lpN (0, rI C 84 f) = some r ∧ lp (lb_X12_quarters_87 86 tq (nI m) f2 (nI a) (nI b)) lpN (0, rI M 103 (G (N_b N))) = some q ∧ (Fr sc C r ∧ Fr sm M q ∧ WW N sem x l r q ∧ ∀ c, c < N_b N → hI r 84 c = hI q 103 c) := by
    refine lp_two (fun i s t => s.1 = nI i ∧ t.1 = nI i ∧ Fr sc C s.2 ∧ Fr sm M t.2 ∧ WW N sem x l s.2 t.2 ∧ ∀ c, c < N_b N → hI s.2 84 c = hI t.2 103 c) _ 4 (by decide) ?_ ?_ ⟨rfl, rfl, F0.mono s84_sc, H0.mono s103_sm, w1, fun c hc => ?_⟩
    · rintro i ⟨s1, Ci⟩ ⟨t1, Mi⟩ hi ⟨rfl, rfl, GC, GM, wi, hmk⟩
      dsimp only at GC GM wi hmk
      obtain ⟨C3, M3, f3, g3, G3, H3, b3⟩ := wi.sent ha hb hi
      obtain ⟨C4, M4, f4, g4, G4, H4, b4⟩ := b3.run (by decide) (n := m) hm
      have mk4 : ∀ c, c < N_b N → hI C4 84 c = hI M4 103 c := fun c hc => by
        rw [G4.i 84 c rfl, G3.i 84 c rfl, H4.i 103 c rfl, H3.i 103 c rfl]
        exact hmk c hc
      have ci : nI i < 4 := nI_lt (b := 4) hi (by decide)
      obtain ⟨C5, M5, e5, e5', G5, H5, b5, mk5⟩ : ∃ r q, lp (lb_X11_putTablesIntoMasks_40 0 (nI a) (nI b) (nI m) (nI i)) lpN (0, C4) = some r ∧ lp (lb_X12_quarters_115 86 tq (nI m) f2 (nI a) (nI b) (nI i)) lpN (0, M4) = some q ∧ (Fr s84 C4 r ∧ Fr s103 M4 q ∧ BB N sem x l (0 + m) r q (hXs N sem m (sntX x a b i)) ∧ ∀ c, c < N_b N → hI r 84 c = hI q 103 c) := by
        refine lp_two (fun c s t => s.1 = nI c ∧ t.1 = nI c ∧ Fr s84 C4 s.2 ∧ Fr s103 M4 t.2 ∧ BB N sem x l (0 + m) s.2 t.2 (hXs N sem m (sntX x a b i)) ∧ ∀ c, c < N_b N → hI s.2 84 c = hI t.2 103 c) _ (N_b N) (by omega) ?_ ?_ ⟨rfl, rfl, Fr.refl _ _, Fr.refl _ _, b4, mk4⟩
        · rintro c ⟨s1, Cc⟩ ⟨t1, Mc⟩ hc ⟨rfl, rfl, GC, GM, bc, hmk⟩
          dsimp only at GC GM bc hmk
          obtain ⟨mC, mM⟩ := bc.mk (show c < 6 by omega)
          obtain ⟨u, eu⟩ : ∃ u, u = hI Mc 103 c ||| bitIf (mkd (hXs N sem m (sntX x a b i)) c) i := ⟨_, rfl⟩
          have Gs : Fr s84 Cc (sI Cc 84 c u) := (Fr.refl _ _).sI _ rfl
          have Hs : Fr s103 Mc (sI Mc 103 c u) := (Fr.refl _ _).sI _ rfl
          have ww : WW N sem x l (sI Cc 84 c u) (sI Mc 103 c u) := (bc.ww.toC Gs s84_sc rfl (fun _ => rfl)).toM Hs s103_sm rfl (fun _ => rfl)
          refine Or.inl ⟨(nI (c + 1), sI Cc 84 c u), (nI (c + 1), sI Mc 103 c u), ?_, ?_, rfl, rfl, GC.trans Gs, GM.trans Hs, bc.go ww Gs Hs (fun _ => rfl) (fun _ => rfl) (fun _ => rfl) (fun _ => rfl), fun d hd => ?_⟩
          · unfold lb_X11_putTablesIntoMasks_40
            simp only [g_0_1 bc.wc, w_gI bc.wc 3 0 0 rfl, bc.ww.cn.1, Option.bind_some, if_pos (nI_lt hc (show N_b N < 2 ^ 31 by omega)), g_0_14 bc.wc, aI_eq bc.wc 84 14 6 rfl c (by omega) (by decide), g_0_9 bc.wc, k_28 bc.wc, mC, bitIf_eq, wI_eq bc.wc 84 6 rfl c (by omega) (by decide), hmk c hc, ← eu, nI_1]
          · unfold lb_X12_quarters_115
            simp only [w_gI bc.wm 86 11 1 rfl, bc.ww.mn.1, Option.bind_some, if_pos (nI_lt hc (show N_b N < 2 ^ 31 by omega)), g_86_32 bc.wm, aI_eq bc.wm 103 14 6 rfl c (by omega) (by decide), g_86_26 bc.wm, k_86 bc.wm, mM, bitIf_eq, wI_eq bc.wm 103 6 rfl c (by omega) (by decide), ← eu, nI_1]
          · rw [hI_sI, hI_sI]
            by_cases e : d = c
            · simp [e]
            · rw [if_neg (by simp [e]), if_neg (by simp [e])]; exact hmk d hd
        · rintro ⟨s1, Cc⟩ ⟨t1, Mc⟩ ⟨rfl, rfl, GC, GM, bc, hmk⟩
          dsimp only at GC GM bc hmk
          refine ⟨Cc, Mc, ?_, ?_, GC, GM, bc, hmk⟩
          · unfold lb_X11_putTablesIntoMasks_40
            simp only [g_0_1 bc.wc, w_gI bc.wc 3 0 0 rfl, bc.ww.cn.1, Option.bind_some, if_neg (nI_nlt (Nat.le_refl (N_b N)) (show N_b N < 2 ^ 31 by omega))]
          · unfold lb_X12_quarters_115
            simp only [w_gI bc.wm 86 11 1 rfl, bc.ww.mn.1, Option.bind_some, if_neg (nI_nlt (Nat.le_refl (N_b N)) (show N_b N < 2 ^ 31 by omega))]
      refine Or.inl ⟨(nI (i + 1), C5), (nI (i + 1), M5), ?_, ?_, rfl, rfl, GC.trans ((G3.mono sh_sc).trans ((G4.mono sh_sc).trans (G5.mono s84_sc))), GM.trans ((H3.mono mh_sm).trans ((H4.mono mh_sm).trans (H5.mono s103_sm))), b5.ww, mk5⟩
      · unfold lb_X11_putTablesIntoMasks_7
        simp only [if_pos ci, k_0 wi.wc, Option.bind_some, f3, g_0_1 b3.wc, g_0_9 b3.wc, g_0_4 b3.wc, k_3 b3.wc, f4, e5, nI_1]
      · unfold lb_X12_quarters_87
        simp only [if_pos ci, k_86 wi.wm, Option.bind_some, g3, g_86_26 b3.wm, k_86 b3.wm, g4, e5', nI_1]
    · rintro ⟨s1, Ci⟩ ⟨t1, Mi⟩ ⟨rfl, rfl, GC, GM, wi, hmk⟩
      refine ⟨Ci, Mi, ?_, ?_, GC, GM, wi, hmk⟩
      · unfold lb_X11_putTablesIntoMasks_7; rw [if_neg (show ¬ nI 4 < 4 by decide)]
      · unfold lb_X12_quarters_87; rw [if_neg (show ¬ nI 4 < 4 by decide)]
    · rw [hI_rI, if_pos rfl, hI_rI, if_pos rfl, hf c (by omega), eG]
      simp [hc]
  obtain ⟨C', M', e1, e2, GC, GM, w', mk'⟩ := main
  refine ⟨C', _, M', ?_, loop, e2, GC, GM, w', mk'⟩
  unfold fn_X11_putTablesIntoMasks
  simp only [k_0 w.wc, Option.bind_some, ef, e1]
end Q2
