/-! both sides at once: the two worlds, and the two trials over them -/
def WW (N : Net) (sem : Sem) (x : XX) (l : List Int64) (C M : aH) : Prop := CW N sem x C ∧ MW N sem x M ∧ ToC C l ∧ ToM M l ∧ NV N ∧ VS N MH x
def BB (N : Net) (sem : Sem) (x : XX) (l : List Int64) (k : Nat) (C M : aH) (y : XX) : Prop := WW N sem x l C M ∧ St C 28 y ∧ XM M 99 y ∧ VS N (MH + k) y
section Both
variable {N : Net} {sem : Sem} {x : XX} {l : List Int64} {k : Nat} {C M C1 M1 : aH} {y : XX}
theorem WW.wc (w : WW N sem x l C M) : Wf C := w.1.1
theorem WW.wm (w : WW N sem x l C M) : Wf M := w.2.1.1
theorem WW.v (w : WW N sem x l C M) : NV N := w.2.2.2.2.1
theorem WW.cn (w : WW N sem x l C M) : CN N C := w.1.2.1
theorem WW.mn (w : WW N sem x l C M) : MN N M := w.2.1.2.1
theorem BB.ww (b : BB N sem x l k C M y) : WW N sem x l C M := b.1
theorem BB.wc (b : BB N sem x l k C M y) : Wf C := b.1.1.1
theorem BB.wm (b : BB N sem x l k C M y) : Wf M := b.1.2.1.1
/-- what leaves the worlds as they are -/
theorem WW.toC {S : Nat → Nat → Bool} (w : WW N sem x l C M) (f : Fr S C C1) (m : ∀ a j, sc a j = false → S a j = false) (e1 : S 77 1 = false) (e2 : ∀ j, S 78 j = false) : WW N sem x l C1 M := by
  obtain ⟨a, b, c, d, e⟩ := w
  exact ⟨a.to (f.mono m), b, c.to f e1 e2, d, e⟩
theorem WW.toM {S : Nat → Nat → Bool} (w : WW N sem x l C M) (f : Fr S M M1) (m : ∀ a j, sm a j = false → S a j = false) (e1 : S 86 10 = false) (e2 : ∀ j, S 92 j = false) : WW N sem x l C M1 := by
  obtain ⟨a, b, c, d, e⟩ := w
  exact ⟨a, b.to (f.mono m), c, d.to f e1 e2, e⟩
theorem WW.thr (w : WW N sem x l C M) : ∃ M1, pI M 86 11 11 0 = some M1 ∧ Fr sm M M1 ∧ WW N sem x l C M1 := by
  obtain ⟨a, b, c, d, e⟩ := w
  obtain ⟨M1, e1, F, b', d'⟩ := thr0 b d
  exact ⟨M1, e1, F, a, b', c, d', e⟩
theorem WW.start (w : WW N sem x l C M) : ∃ C1, fn_X11_startTrial C 0 = some C1 ∧ Fr (sh 28) C C1 ∧ WW N sem x l C1 M ∧ St C1 28 x ∧ TC C1 28 (x, 0, 0, zer) := by
  obtain ⟨C1, e, F, T⟩ := startTrial_eq w.wc w.1.2.2.1
  exact ⟨C1, e, F, w.toC F sh_sc rfl (fun _ => rfl), T.1, T⟩
theorem WW.lay (w : WW N sem x l C M) : ∃ M1, fn_X12_lay M 87 99 0 = some M1 ∧ Fr (mh 99) M M1 ∧ WW N sem x l C M1 ∧ XM M1 99 x := by
  obtain ⟨f, e, X⟩ := layThen_eq w.wm w.2.1.2.2.1
  have F : Fr (mh 99) M (rI M 99 f) := (Fr.refl _ _).rI _ (fun _ => rfl)
  exact ⟨_, e, F, w.toM F mh_sm rfl (fun _ => rfl), X⟩
theorem WW.begin (w : WW N sem x l C M) : ∃ C1 M1, fn_X3_begin C 77 = some C1 ∧ pI M 86 11 10 0 = some M1 ∧ Fr stC C C1 ∧ Fr stM M M1 ∧ WW N sem x [] C1 M1 := by
  obtain ⟨e, F, T⟩ := toldBegin w.wc
  obtain ⟨e2, F2, T2⟩ := tellBegin w.wm
  obtain ⟨a, b, c, d, f⟩ := w
  exact ⟨_, _, e, e2, F, F2, a.to (F.mono stC_sc), b.to (F2.mono stM_sm), T, T2, f⟩
theorem WW.add (w : WW N sem x l C M) (hl : l.length < 16) (v : Int64) : ∃ C1 M1, fn_X3_add C 77 v = some C1 ∧ fn_X12_tell M 86 v = some M1 ∧ Fr stC C C1 ∧ Fr stM M M1 ∧ WW N sem x (l ++ [v]) C1 M1 := by
  obtain ⟨C1, e, F, T⟩ := toldAdd w.wc w.2.2.1 hl v
  obtain ⟨M1, e2, F2, T2⟩ := tellM w.wm w.2.2.2.1 hl v
  obtain ⟨a, b, c, d, f⟩ := w
  exact ⟨_, _, e, e2, F, F2, a.to (F.mono stC_sc), b.to (F2.mono stM_sm), T, T2, f⟩
theorem BB.passC (b : BB N sem x l k C M y) : ∃ C1, fn_X0_pass C 3 28 14 = some C1 ∧ Fr (sh 28) C C1 ∧ WW N sem x l C1 M ∧ St C1 28 (hX N sem y) := by
  obtain ⟨w, S, X, v⟩ := b
  obtain ⟨C1, e, F, T⟩ := pass_eq (z := (y, hI C 3 8, hI C 3 9, hI C 7)) (Or.inr rfl) w.wc w.cn w.v w.1.2.2.2 v ⟨S, rfl, rfl, fun _ _ => rfl⟩
  refine ⟨C1, e, F, w.toC F sh_sc rfl (fun _ => rfl), ?_⟩
  have := T.1
  rw [hrZ_x] at this
  exact this
theorem BB.pass (b : BB N sem x l k C M y) (hk : k < 100000) : ∃ C1 M1, fn_X0_pass C 3 28 14 = some C1 ∧ fn_X12_goHour M 86 99 = some M1 ∧ Fr (sh 28) C C1 ∧ Fr (mh 99) M M1 ∧ BB N sem x l (k + 1) C1 M1 (hX N sem y) := by
  obtain ⟨C1, e, F, w1, S1⟩ := b.passC
  obtain ⟨w, S, X, v⟩ := b
  obtain ⟨M1, e2, F2, T2⟩ := goHour_eq (z := (y, hI M 86 27, hI M 86 28, hI M 100)) (Or.inr rfl) w.wm w.mn w.v w.2.1.2.2.2 v (by unfold MH; omega) ⟨X, rfl, rfl, fun _ _ => rfl⟩
  refine ⟨C1, M1, e, e2, F, F2, w1.toM F2 mh_sm rfl (fun _ => rfl), S1, ?_, hX_VS w.v sem v⟩
  have := T2.1
  rw [hrZ_x] at this
  exact this
theorem BB.run (b : BB N sem x l k C M y) (hk : k < 100000) {n : Nat} (hn : n < 2000) : ∃ C1 M1, fn_X0_run C 3 28 14 (nI n) = some C1 ∧ fn_X12_goHours M 86 99 (nI n) = some M1 ∧ Fr (sh 28) C C1 ∧ Fr (mh 99) M M1 ∧ BB N sem x l (k + n) C1 M1 (hXs N sem n y) := by
  obtain ⟨w, S, X, v⟩ := b
  obtain ⟨C1, e, F, T⟩ := run_eq (z := (y, hI C 3 8, hI C 3 9, hI C 7)) (Or.inr rfl) w.wc w.cn w.v w.1.2.2.2 v ⟨S, rfl, rfl, fun _ _ => rfl⟩ hn
  obtain ⟨M1, e2, F2, T2⟩ := goHours_eq (z := (y, hI M 86 27, hI M 86 28, hI M 100)) (Or.inr rfl) w.wm w.mn w.v w.2.1.2.2.2 v ⟨X, rfl, rfl, fun _ _ => rfl⟩ hn (by unfold MH; omega)
  have t1 := T.1
  have t2 := T2.1
  rw [hrs_x] at t1 t2
  exact ⟨C1, M1, e, e2, F, F2, (w.toC F sh_sc rfl (fun _ => rfl)).toM F2 mh_sm rfl (fun _ => rfl), t1, t2, by rw [← Nat.add_assoc]; exact hXs_VS w.v sem v n⟩
/-- the trials go along with what doesn't touch them -/
theorem BB.go {l' : List Int64} {S S' : Nat → Nat → Bool} (b : BB N sem x l k C M y) (w : WW N sem x l' C1 M1) (f : Fr S C C1) (f' : Fr S' M M1) (e1 : ∀ j, S 28 j = false) (e2 : ∀ j, S 29 j = false) (e3 : ∀ j, S 30 j = false) (e4 : ∀ j, S' 99 j = false) : BB N sem x l' k C1 M1 y := by
  obtain ⟨w0, s, X, v⟩ := b
  refine ⟨w, ?_, XM_to (f'.row 99 e4) X, v⟩
  unfold St
  rw [f.row 28 e1, f.row 29 e2, f.row 30 e3]
  exact s
theorem BB.begin (b : BB N sem x l k C M y) : ∃ C1 M1, fn_X3_begin C 77 = some C1 ∧ pI M 86 11 10 0 = some M1 ∧ Fr stC C C1 ∧ Fr stM M M1 ∧ BB N sem x [] k C1 M1 y := by
  obtain ⟨C1, M1, e, e2, F, F2, w⟩ := b.ww.begin
  exact ⟨C1, M1, e, e2, F, F2, b.go w F F2 (fun _ => rfl) (fun _ => rfl) (fun _ => rfl) (fun _ => rfl)⟩
theorem BB.add (b : BB N sem x l k C M y) (hl : l.length < 16) (v : Int64) : ∃ C1 M1, fn_X3_add C 77 v = some C1 ∧ fn_X12_tell M 86 v = some M1 ∧ Fr stC C C1 ∧ Fr stM M M1 ∧ BB N sem x (l ++ [v]) k C1 M1 y := by
  obtain ⟨C1, M1, e, e2, F, F2, w⟩ := b.ww.add hl v
  exact ⟨C1, M1, e, e2, F, F2, b.go w F F2 (fun _ => rfl) (fun _ => rfl) (fun _ => rfl) (fun _ => rfl)⟩
/-- a level set in the trials -/
theorem St_set {h : aH} (S : St h 28 y) {c : Nat} (hc : c < 6) (v : Int32) : St (sI h 29 c v) 28 (va_up y c v) := mul_upd_lv S hc v
theorem setC_eq {h : aH} (w : Wf h) {c : Nat} (hc : c < 6) (v : Int32) : wI h 29 (nI c) v = some (sI h 29 c v) ∧ Fr (sh 28) h (sI h 29 c v) := ⟨wI_eq w 29 6 rfl c hc (by decide) v, (Fr.refl _ _).sI _ rfl⟩
theorem setM_eq {h : aH} (w : Wf h) {c : Nat} (hc : c < 16) (v : Int32) : wI h 99 (nI c) v = some (sI h 99 c v) ∧ Fr (mh 99) h (sI h 99 c v) := ⟨wI_eq w 99 16 rfl c hc (by decide) v, (Fr.refl _ _).sI _ rfl⟩
theorem BB.lv (b : BB N sem x l k C M y) {c : Nat} (hc : c < 6) : aI C 29 14 (nI c) = some (y c) ∧ aI M 99 14 (nI c) = some (y c) := by
  rw [aI_eq b.wc 29 14 6 rfl c hc (by decide), aI_eq b.wm 99 14 16 rfl c (by omega) (by decide)]
  exact ⟨congrArg some (b.2.1.1 c hc), congrArg some (b.2.2.1 c (by omega))⟩
theorem BB.mk (b : BB N sem x l k C M y) {c : Nat} (hc : c < 6) : fn_X7_isAtMark C 28 (nI c) = some (b2 (mkd y c)) ∧ fn_X12_isMarked M 86 99 (nI c) = some (b2 (mkd y c)) :=
  ⟨isAtMark_eq b.wc (Or.inr rfl) b.2.1 hc, isMarked_eq b.wm (Or.inr rfl) b.2.2.1 hc⟩
theorem BB.sum (b : BB N sem x l k C M y) : fn_X11_together C 0 28 = some (sumI (N_b N) y) ∧ fn_X12_sumOf M 86 99 0 = some (sumI (N_b N) y) :=
  ⟨together_eq b.wc b.ww.cn b.ww.v (Or.inr rfl) b.2.1, sumOf0_eq b.wm b.ww.mn b.ww.v (Or.inr rfl) b.2.2.1⟩
theorem WW.qr {l' : List Int64} {oC oM : Option (Int32 × aH)} {C' M' : aH} (w : WW N sem x l' C' M') (r : Int32) (e1 : oC = some (r, C')) (e2 : oM = some (r, M')) (F : Fr sc C C') (F2 : Fr sm M M') : QR oC oM C M :=
  ⟨r, C', M', l', e1, e2, F, F2, w.2.2.1, w.2.2.2.1⟩
/-- what is sent in: nothing or nine -/
def snt (i : Nat) (b : Nat) : Int32 := if i.testBit b = true then 9 else 0
def sntX (x : XX) (a b i : Nat) : XX := va_up (va_up x a (snt i 0)) b (snt i 1)
theorem snt_c0 : ∀ i, i < 4 → (if (nI i &&& 1) = 0 then some (0 : Int32) else some 9) = some (snt i 0) := by decide +kernel
theorem snt_c1 : ∀ i, i < 4 → (if (nI i &&& 2) = 0 then some (0 : Int32) else some 9) = some (snt i 1) := by decide +kernel
theorem snt_m0 : ∀ i, i < 4 → (if b2 (isBit (nI i) 0) = 0 then some (0 : Int32) else some 9) = some (snt i 0) := by decide +kernel
theorem snt_m1 : ∀ i, i < 4 → (if b2 (isBit (nI i) 1) = 0 then some (0 : Int32) else some 9) = some (snt i 1) := by decide +kernel
theorem snt_v (i b : Nat) : ∃ v : Nat, v ≤ 9 ∧ snt i b = nI v := by
  unfold snt
  split
  · exact ⟨9, by decide, rfl⟩
  · exact ⟨0, by decide, rfl⟩
theorem WW.sent (w : WW N sem x l C M) {a b i : Nat} (ha : a < N_b N) (hb : b < N_b N) (hi : i < 4) : ∃ C1 M1, fn_X11_startSent C 0 (nI a) (nI b) (nI i) = some C1 ∧ fn_X12_beginTable M 86 (nI a) (nI b) (nI i) = some M1 ∧ Fr (sh 28) C C1 ∧ Fr (mh 99) M M1 ∧ BB N sem x l 0 C1 M1 (sntX x a b i) := by
  have h6 := w.v.1
  obtain ⟨C1, e1, F1, w1, S1, -⟩ := w.start
  obtain ⟨M1, e2, F2, w2, X2⟩ := w1.lay
  obtain ⟨c1, G1⟩ := setC_eq w1.wc (c := a) (by omega) (snt i 0)
  obtain ⟨c2, G2⟩ := setC_eq (h := sI C1 29 a (snt i 0)) w1.wc (c := b) (by omega) (snt i 1)
  obtain ⟨m1, H1⟩ := setM_eq w2.wm (c := a) (by omega) (snt i 0)
  obtain ⟨m2, H2⟩ := setM_eq (h := sI M1 99 a (snt i 0)) w2.wm (c := b) (by omega) (snt i 1)
  have FC := F1.trans (G1.trans G2)
  have FM := F2.trans (H1.trans H2)
  have wf1 : Wf (sI C1 29 a (snt i 0)) := w1.wc
  have wf2 : Wf (sI M1 99 a (snt i 0)) := w2.wm
  refine ⟨_, _, ?_, ?_, FC, FM, (w.toC FC sh_sc rfl (fun _ => rfl)).toM FM mh_sm rfl (fun _ => rfl), St_set (St_set S1 (by omega) _) (by omega) _, XM_up (XM_up X2 _ _) _ _, ?_⟩
  · unfold fn_X11_startSent
    simp only [k_0 w.wc, Option.bind_some, e1, g_0_9 w1.wc, g_28_0 w1.wc, snt_c0 i hi, c1, g_0_9 wf1, g_28_0 wf1, snt_c1 i hi, c2]
  · have n0 : (0 : Int32) = nI 0 := rfl
    have n1 : (1 : Int32) = nI 1 := rfl
    unfold fn_X12_beginTable
    simp only [g_86_0 w.wm, g_86_26 w.wm, Option.bind_some, e2, g_86_26 w2.wm, show fn_X12_has M1 (nI i) 0 = _ from has_eq M1 (nI i) (s := 0) (by decide), snt_m0 i hi, m1, g_86_26 wf2, show fn_X12_has (sI M1 99 a (snt i 0)) (nI i) 1 = _ from has_eq (sI M1 99 a (snt i 0)) (nI i) (s := 1) (by decide), snt_m1 i hi, m2]
  · obtain ⟨v0, hv0, ev0⟩ := snt_v i 0
    obtain ⟨v1, hv1, ev1⟩ := snt_v i 1
    unfold sntX
    rw [ev0, ev1]
    exact VS_lv (VS_lv w.2.2.2.2.2 ha h6 hv0) hb h6 hv1
/-- two of three basins -/
theorem WW.bas (w : WW N sem x l C M) (b : Int32) : (fn_X0_hasBasin C 3 b = some 0 ∧ fn_X12_isBasin M 86 b = some 0) ∨ ∃ k, k < N_b N ∧ b = nI k ∧ fn_X0_hasBasin C 3 b = some 1 ∧ fn_X12_isBasin M 86 b = some 1 := bas_cases w.wc w.cn w.wm w.mn w.v b
theorem WW.slu (w : WW N sem x l C M) (b : Int32) : (fn_X0_hasSluice C 3 b = some 0 ∧ fn_X12_isSluice M 86 b = some 0) ∨ ∃ k, k < N_s N ∧ b = nI k ∧ fn_X0_hasSluice C 3 b = some 1 ∧ fn_X12_isSluice M 86 b = some 1 := slu_cases w.wc w.cn w.wm w.mn w.v b
theorem nI_ne {a b : Nat} (ha : a < 8) (hb : b < 8) (h : a ≠ b) : ¬ nI a = nI b := fun q => h ((nI_eq (by omega) (by omega)).mp q)
theorem WW.quarter (w : WW N sem x l C M) (a b c : Int32) : (fn_X11_areQuarter C 0 a b c = some 0 ∧ (fn_X12_areTwo M 86 a b = some 0 ∨ fn_X12_areTwo M 86 a b = some 1 ∧ fn_X12_isBasin M 86 c = some 0)) ∨
    ∃ i j k, i < N_b N ∧ j < N_b N ∧ k < N_b N ∧ i ≠ j ∧ a = nI i ∧ b = nI j ∧ c = nI k ∧ fn_X11_areQuarter C 0 a b c = some 1 ∧ fn_X12_areTwo M 86 a b = some 1 ∧ fn_X12_isBasin M 86 c = some 1 := by
  have h6 := w.v.1
  unfold fn_X11_areQuarter fn_X12_areTwo
  simp only [g_0_1 w.wc, k_3 w.wc, k_86 w.wm, Option.bind_some]
  rcases w.bas a with ⟨a1, a2⟩ | ⟨i, hi, rfl, a1, a2⟩
  · simp only [a1, a2, Option.bind_some, if_true]
    exact Or.inl ⟨trivial, Or.inl trivial⟩
  rcases w.bas b with ⟨b1, b2⟩ | ⟨j, hj, rfl, b1, b2⟩
  · simp only [a1, a2, b1, b2, Option.bind_some, if_true, if_neg one0]
    exact Or.inl ⟨trivial, Or.inl trivial⟩
  rcases w.bas c with ⟨c1, c2⟩ | ⟨k, hk, rfl, c1, c2⟩
  · simp only [a1, a2, b1, b2, c1, c2, Option.bind_some, if_true, if_neg one0]
    refine Or.inl ⟨trivial, ?_⟩
    by_cases e : nI i = nI j
    · left; rw [if_pos e]
    · right; rw [if_neg e]; exact ⟨rfl, trivial⟩
  · simp only [a1, a2, b1, b2, c1, c2, Option.bind_some, if_neg one0]
    by_cases e : i = j
    · subst e
      left
      rw [if_pos rfl]
      exact ⟨rfl, Or.inl rfl⟩
    · right
      rw [if_neg (nI_ne (by omega) (by omega) e)]
      exact ⟨i, j, k, hi, hj, hk, e, rfl, rfl, rfl, rfl, rfl, trivial⟩
end Both
