/-! rule as a step -/
def code0 : List Nat := [1, 1000, 1001, 2045, 4, 2062, 2043]
theorem cp_text {bd : Int32 × aH → Option ((Int32 × aH) ⊕ aH)} {n q : Nat} {h : aH} (hn : n < 100) (hq : q ≠ 91) (h1 : ∀ k g, k < n → Fr (fun a _ => a == q) h g → bd (nI k, g) = some (.inl (nI (k + 1), sI g q k (vp_nar .byte (hI g 91 k))))) (h2 : ∀ g, Fr (fun a _ => a == q) h g → bd (nI n, g) = some (.inr g)) : ∃ h', lp bd lpN (0, h) = some h' ∧ Fr (fun a _ => a == q) h h' ∧ ∀ i, i < n → hI h' q i = vp_nar .byte (hI h 91 i) := by
  refine lp_inv (fun k (s : Int32 × aH) => s.1 = nI k ∧ Fr (fun a _ => a == q) h s.2 ∧ ∀ i, i < k → hI s.2 q i = vp_nar .byte (hI h 91 i)) (fun h' => Fr (fun a _ => a == q) h h' ∧ ∀ i, i < n → hI h' q i = vp_nar .byte (hI h 91 i)) n (by omega) ?_ ?_ ⟨rfl, Fr.refl _ _, fun i hi => absurd hi (Nat.not_lt_zero _)⟩
  · rintro k ⟨s1, g⟩ hk ⟨rfl, F, R⟩
    dsimp only at F R
    have e91 : hI g 91 k = hI h 91 k := F.i 91 k (by simp; omega)
    refine Or.inl ⟨_, h1 k g hk F, rfl, F.sI _ (by simp), fun i hi => ?_⟩
    dsimp only
    rw [hI_row]
    by_cases e : i = k
    · rw [if_pos e, e, e91]
    · rw [if_neg e]; exact R i (by omega)
  · rintro ⟨s1, g⟩ ⟨rfl, F, R⟩
    exact ⟨g, h2 g F, F, R⟩
theorem nar_ok {t : Nat} (ht : t < 256) {v : Int32} (h1 : v &&& 255 = nI t) (h2 : t < 128 → v = nI t) : (vp_nar .byte v) &&& 255 = nI t ∧ (t < 128 → vp_nar .byte v = nI t) := by
  refine ⟨by rw [byte_nar, bp_b]; exact h1, fun q => ?_⟩
  rw [h2 q]
  have : ∀ t, t < 128 → vp_nar .byte (nI t) = nI t := by decide +kernel
  exact this t q
section RULE
variable {T : Nat → Nat} {n : Nat} {h : aH}
theorem none_C (w : Wf h) : ∃ h', fn_X4_becomesNone h 17 = some h' ∧ Fr rrC h h' ∧ hI h' 17 2 = nI 7 ∧ CA (hI h' 18) code0 := by
  have w1 : Wf (sI h 17 2 7) := w
  have cp : cpS (sI h 17 2 7) 18 = some (rI (sI h 17 2 7) 18 (va_cpy at7 (hI (sI h 17 2 7) 18) 0 0 7)) := by
    unfold cpS
    rw [w1.1]
    rfl
  refine ⟨rI (sI h 17 2 7) 18 (va_cpy at7 (hI (sI h 17 2 7) 18) 0 0 7), ?_, ((Fr.refl rrC h).sI _ rfl).rI _ (fun _ => rfl), ?_, fun i hi => ?_⟩
  · unfold fn_X4_becomesNone
    rw [w_pI w 17 3 2 _ rfl, Option.bind_some, g_17_0 w1, Option.bind_some, cp]
  · rw [hI_rI, if_neg (by decide), hI_row, if_pos rfl]; rfl
  · have hi : i < 7 := hi
    rw [hI_rI, if_pos rfl]
    have e := cpy_in at7 (hI (sI h 17 2 7) 18) 0 0 7 i hi
    rw [Nat.zero_add] at e
    rw [e]
    have : ∀ i, i < 7 → at7 i = nI (code0.getD i 0) := by decide +kernel
    exact this i hi
theorem code0_v (q : Nat → Int32) : ex q code0 [] = [1 + (if q 0 - q 1 ≤ 4 then 0 else 1)] := rfl
theorem read_all (w : Wf h) (t : TxC T n h) : ∃ o h' code, fn_X5_read h 20 17 = some (wrI o, h') ∧ Fr rrC h h' ∧ ((n = 0 ∧ o = none ∧ code = code0) ∨ (0 < n ∧ o = pw T n ∧ code = (prs T n).1)) ∧ (o = none → n ≤ 40 ∧ hI h' 17 2 = nI code.length ∧ CA (hI h' 18) code ∧ code.length ≤ 40 ∧ (∀ i, i < code.length → code.getD i 0 < 4000) ∧ ∀ q, ∃ v, ex q code [] = [v]) := by
  have n8 := t.1
  by_cases n0 : n = 0
  · obtain ⟨h', e, F, q1, q2⟩ := none_C w
    refine ⟨none, h', code0, ?_, F, Or.inl ⟨n0, rfl, rfl⟩, fun _ => ⟨by omega, q1, q2, by decide, by decide, fun q => ⟨_, code0_v q⟩⟩⟩
    unfold fn_X5_read
    simp only [g_20_0 w, w_gI w 1 7 1 rfl, t.2.1, Option.bind_some]
    rw [if_pos (show nI n = 0 by rw [n0]; rfl)]
    simp only [k_17 w, Option.bind_some, e]
    rfl
  · have hT : ∀ i, i < n → T i < 256 := fun i hi => (t.2.2 i hi).1
    obtain ⟨cr, cp⟩ := read_agree (T := T) (n := n) hT (by omega)
    obtain ⟨h', e, F, z⟩ := readC w t (by omega) cr
    refine ⟨pw T n, h', (prs T n).1, e, F, Or.inr ⟨by omega, rfl, rfl⟩, fun q => ?_⟩
    obtain ⟨z1, z2, z3⟩ := z q
    have gd := prs_good (n := n) hT
    refine ⟨(cp q).2, z1, z2, z3, fun i hi => ?_, fun y => ?_⟩
    · have e2 : (prs T n).1.getD i 0 = (prs T n).1[i] := by simp [hi]
      rw [e2]
      exact gd.1 _ (List.getElem_mem _)
    · obtain ⟨v, hv⟩ := gd.2 (pw_none q) y
      exact ⟨v, hv []⟩
end RULE
def rlC (a j : Nat) : Bool := rrC a j || ((a == 1 && j == 1) || (a == 15 || (a == 14 && j == 2)))
theorem rrC_rl (a j : Nat) (e : rlC a j = false) : rrC a j = false := by unfold rlC at e; simp at e; simp [e]
theorem rlC_cls (a j : Nat) (e : cls a j = false) : rlC a j = false := by
  unfold cls at e; unfold rlC rrC; simp at e ⊢; omega
theorem rlM_mdl (a j : Nat) (e : mdl a j = false) : rlM a j = false := by
  unfold mdl at e; unfold rlM noM; simp at e ⊢; omega
theorem WRL.rule {N : Net} {sem sem' : Sem} {x : XX} {l : List Int64} {c : Nat} {C M C1 M1 : aH} (r : WRL N sem x l c C M) (f : Fr rlC C C1) (g : Fr rlM M M1) (rc : RuleC C1 14 sem') (rm : RuleM M1 94 sem') (t : TxtR C1 M1) : WRL N sem' x l (c + 1) C1 M1 := by
  obtain ⟨V, v, cw, mw, tc, tm, tx, pa, ke, se⟩ := r
  have S3 : St C1 22 x := St_to f (fun j => ⟨rfl, rfl, rfl⟩) cw.2.2.1
  have X3 : XM M1 87 x := XM.to g (fun j => rfl) mw.2.2.1
  have cn : CN N C1 := by
    obtain ⟨z1, z2, z3, z4⟩ := cw.2.1
    refine ⟨(f.i 3 0 rfl).trans z1, (f.i 3 1 rfl).trans z2, (f.i 3 2 rfl).trans z3, fun i hi => ?_⟩
    rw [f.i 4 i rfl, f.i 5 i rfl, f.i 6 i rfl]
    exact z4 i hi
  have mn : MN N M1 := by
    obtain ⟨z1, z2, z3, z4⟩ := mw.2.1
    refine ⟨(g.i 86 1 rfl).trans z1, (g.i 86 2 rfl).trans z2, (g.i 86 3 rfl).trans z3, fun i hi => ?_⟩
    rw [g.i 88 i rfl, g.i 89 i rfl, g.i 90 i rfl]
    exact z4 i hi
  refine ⟨V, VS_mono (by omega) v, ⟨f.wf cw.1, cn, S3, rc⟩, ⟨g.wf mw.1, mn, X3, rm⟩, tc.to f rfl (fun _ => rfl), tm.to g rfl (fun _ => rfl), t, ?_, ?_, ?_⟩
  · exact pa.to f g rfl (fun _ => rfl) (fun a j h1 h2 => by unfold rlC rrC; simp; omega) rfl (fun _ => rfl) (by omega)
  · exact ke.to f g (fun a j h1 h2 => by unfold rlC rrC; simp; omega) rfl (fun a j h1 h2 => by unfold rlM noM; simp; omega) (by omega) (by omega)
  · exact se.to2 f g rfl (fun a j h1 h2 => by unfold rlC rrC; simp; omega) rfl (fun a j h1 h2 => by unfold rlM noM; simp; omega)
theorem takes_C {h : aH} (w : Wf h) : ∃ h', fn_X4_takes h 14 17 = some h' ∧ Fr rlC h h' ∧ hI h' 14 2 = hI h 17 2 ∧ (∀ i, i < 40 → hI h' 15 i = hI h 18 i) ∧ hI h' 1 = hI h 1 := by
  have cp : cpI h 18 0 15 0 40 = some (rI h 15 (va_cpy (hI h 18) (hI h 15) 0 0 40)) := by
    unfold cpI
    rw [w.1]
    rfl
  have w3 : Wf (rI h 15 (va_cpy (hI h 18) (hI h 15) 0 0 40)) := w
  refine ⟨sI (rI h 15 (va_cpy (hI h 18) (hI h 15) 0 0 40)) 14 2 (hI h 17 2), ?_, ((Fr.refl rlC h).rI _ (fun _ => rfl)).sI _ rfl, ?_, fun i hi => ?_, rfl⟩
  · unfold fn_X4_takes
    have g : hI (rI h 15 (va_cpy (hI h 18) (hI h 15) 0 0 40)) 17 2 = hI h 17 2 := by rw [hI_rI, if_neg (by decide)]
    simp only [g_17_0 w, g_14_0 w, Option.bind_some, cp, w_gI w3 17 3 2 rfl, g, w_pI w3 14 3 2 _ rfl]
  · rw [hI_row, if_pos rfl]
  · rw [hI_sI_r, if_neg (by decide), hI_rI, if_pos rfl]
    have e := cpy_in (hI h 18) (hI h 15) 0 0 40 i hi
    rw [Nat.zero_add] at e
    exact e
theorem stp_rule (c : Nat) (hc : c ≤ 64) : STEP c (fun C => fn_X11_rule C 0) (fun M => fn_X12_rule M 86) := by
  intro C M ⟨N, sem, x, l, r⟩
  have r' : WRL N sem x l c C M := r
  obtain ⟨V, v0, cw, mw, tc, tm, tx, pa, ke, se⟩ := r
  have w := cw.1
  have m := mw.1
  obtain ⟨n, T, hn, tC, t8, tT⟩ := txt_T tx
  obtain ⟨M0, eM⟩ : ∃ M0, M0 = sI M 86 11 0 := ⟨_, rfl⟩
  have m0 : Wf M0 := by rw [eM]; exact m
  have pM : pI M 86 11 11 0 = some M0 := by rw [eM]; exact w_pI m 86 11 11 _ rfl
  have gM0 : Fr rlM M M0 := by rw [eM]; exact (Fr.refl _ M).sI _ rfl
  have t80 : hI M0 86 8 = nI n := by rw [eM, hI_sI]; simp [t8]
  have tT0 : ∀ i, i < n → T i < 256 ∧ hI M0 91 i &&& 255 = nI (T i) ∧ (T i < 128 → hI M0 91 i = nI (T i)) := fun i hi => by rw [eM]; exact tT i hi
  obtain ⟨o, C1, code, a1, a2, a3, a4⟩ := read_all w tC
  have w1 := a2.wf w
  obtain ⟨C2, eC2⟩ : ∃ C2, C2 = sI C1 1 1 0 := ⟨_, rfl⟩
  have w2 : Wf C2 := by rw [eC2]; exact w1
  have F2 : Fr rlC C C2 := by rw [eC2]; exact (a2.mono rrC_rl).sI _ rfl
  have c11 : hI C2 1 1 = 0 := by rw [eC2, hI_row, if_pos rfl]
  have clr : fn_X8_clear C1 1 = some C2 := by unfold fn_X8_clear; rw [w_pI w1 1 7 1 _ rfl, eC2]; rfl
  have headC : fn_X11_rule C 0 = (if wrI o = -1 then (fn_X4_takes C2 14 17).bind fun h11 => some (0, h11) else some (-1 - wrI o, C2)) := by
    unfold fn_X11_rule
    simp only [g_0_6 w, g_0_5 w, k_20 w, Option.bind_some, a1, g_0_0 w1, k_1 w1, clr, g_0_4 w2, g_0_5 w2, k_14 w2]
  obtain ⟨b, M1, b1, b3, b4, b5⟩ := readRule_M m0 t80 hn tT0
  have m1 := b3.wf m0
  have headM : fn_X12_rule M 86 = (if b2 b = 0 then (gI M1 86 11 16).bind fun x14 => some (-1 - x14, M1) else (lp (lb_X12_rule_26 86 (nI n)) lpN (0, M1)).bind fun o11 => (pI o11 86 11 20 (nI n)).bind fun h13 => some (0, h13)) := by
    unfold fn_X12_rule
    simp only [pM, w_gI m0 86 11 8 rfl, t80, Option.bind_some, k_86 m0, b1]
  have good : o = none → b = true → ∃ r C' M', fn_X11_rule C 0 = some (r, C') ∧ fn_X12_rule M 86 = some (r, M') ∧ REL (c + 1) C' M' ∧ Fr cls C C' ∧ Fr mdl M M' := by
    intro ho hb
    subst ho hb
    obtain ⟨z0, z1, z2, z3, z4, z5⟩ := a4 rfl
    obtain ⟨C3, e3, F3, q1, q2, q3⟩ := takes_C w2
    have g17 : hI C2 17 2 = nI code.length := by rw [eC2]; exact z1
    have g18 : hI C2 18 = hI C1 18 := by rw [eC2]; rfl
    have h18 : hR M1 86 18 = some 94 := by
      rw [b3.r 86 18 (Or.inl rfl), eM]
      exact mw.2.2.2.1
    obtain ⟨M2, e4, F4, R4⟩ := cp_text (bd := lb_X12_rule_26 86 (nI n)) (n := n) (q := 94) (h := M1) (by omega) (by decide) (fun k g hk F => by
      have wg := F.wf m1
      have hg : hR g 86 18 = some 94 := (F.r 86 18 (Or.inl rfl)).trans h18
      unfold lb_X12_rule_26
      dsimp only
      rw [if_pos (nI_lt hk (by omega))]
      simp only [gR_86 wg hg, g_86_7 wg, Option.bind_some, aI_eq wg 91 12 80 rfl k (by omega) (by decide), wB_eq wg 94 40 rfl k (by omega) (by decide), nI_1]) (fun g F => by
      unfold lb_X12_rule_26
      rw [if_neg (nI_nlt (Nat.le_refl n) (by omega))])
    have m2 := F4.wf m1
    have F4' : Fr rlM M1 M2 := F4.mono (fun a j e => by unfold rlM at e; simp at e; simp; exact e.2.2.1)
    have FM : Fr rlM M (sI M2 86 20 (nI n)) := (gM0.trans ((b3.mono rrM_rl).trans F4')).sI _ rfl
    have m8 : hI (sI M2 86 20 (nI n)) 86 8 = 0 := by rw [hI_row, if_neg (by decide), F4.i 86 8 rfl]; exact b4
    have c13 : hI C3 1 1 = 0 := by rw [q3]; exact c11
    have rc : RuleC C3 14 (semOf code) := RuleC_of (Or.inl rfl) (by rw [q1]; exact g17) (fun i hi => by rw [q2 i (by omega), g18]; exact z2 i hi) z3 z4 z5
    have hr18 : hR (sI M2 86 20 (nI n)) 86 18 = some 94 := (F4.r 86 18 (Or.inl rfl)).trans h18
    have h20 : hI (sI M2 86 20 (nI n)) 86 20 = nI n := by rw [hI_row, if_pos rfl]
    have rm : RuleM (sI M2 86 20 (nI n)) 94 (semOf code) := by
      rcases a3 with ⟨n0, -, rfl⟩ | ⟨hn0, ho, rfl⟩
      · refine ⟨hr18, Or.inl rfl, Or.inl ⟨by rw [h20, n0]; rfl, fun y => ?_⟩⟩
        unfold semOf
        rw [code0_v]
        rfl
      · refine RuleM_of (Or.inl rfl) hr18 h20 hn0 z0 (fun i hi => ?_) ho.symm
        have e94 : hI (sI M2 86 20 (nI n)) 94 i = vp_nar .byte (hI M1 91 i) := by rw [hI_sI_r, if_neg (by decide)]; exact R4 i hi
        obtain ⟨y1, y2, y3⟩ := tT0 i hi
        rw [e94, b3.i 91 i rfl]
        exact ⟨y1, nar_ok y1 y2 y3⟩
    refine ⟨0, C3, sI M2 86 20 (nI n), ?_, ?_, ⟨N, semOf code, x, l, r'.rule (F2.trans F3) FM rc rm (TxtR.none c13 m8)⟩, (F2.trans F3).mono rlC_cls, FM.mono rlM_mdl⟩
    · rw [headC]
      show (if (-1 : Int32) = -1 then _ else _) = _
      rw [if_pos rfl, e3]; rfl
    · rw [headM, if_neg (by decide), e4, Option.bind_some, w_pI m2 86 11 20 _ rfl]; rfl
  rcases b5 with ⟨hb, nn⟩ | ⟨hb, hn0, wg, pe, gw⟩
  · refine good ?_ hb
    rcases a3 with ⟨n0, ho, -⟩ | ⟨hn0, ho, -⟩
    · exact ho
    · rcases nn with z | ⟨-, z⟩
      · omega
      · rw [ho, z]
  · subst hb
    have ho : o = some wg := by
      rcases a3 with ⟨n0, -, -⟩ | ⟨-, ho, -⟩
      · omega
      · rw [ho, pe]
    subst ho
    have wl : wg ≤ 80 := by
      rcases a3 with ⟨n0, -, -⟩ | ⟨-, ho, -⟩
      · omega
      · have := (read_agree (T := T) (n := n) (fun i hi => (tT i hi).1) hn0).1
        rw [pe] at this
        have := this.1
        omega
    have FM : Fr rlM M M1 := gM0.trans (b3.mono rrM_rl)
    have rc : RuleC C2 14 sem := RuleC.same (by rw [eC2]; exact a2.row 15 fun _ => rfl) (by rw [eC2]; exact a2.i 14 2 rfl) cw.2.2.2
    have rm : RuleM M1 94 sem := RuleM.same (by rw [b3.row 94 fun _ => rfl, eM]; rfl) (by rw [b3.i 86 20 rfl, eM, hI_row, if_neg (by decide)]) (by rw [b3.r 86 18 (Or.inl rfl), eM]; rfl) mw.2.2.2
    refine ⟨-1 - nI wg, C2, M1, ?_, ?_, ⟨N, sem, x, l, r'.rule F2 FM rc rm (TxtR.none c11 b4)⟩, F2.mono rlC_cls, FM.mono rlM_mdl⟩
    · show fn_X11_rule C 0 = _
      rw [headC]
      show (if nI wg = -1 then _ else _) = _
      rw [if_neg (nI_m1 (by omega))]; rfl
    · show fn_X12_rule M 86 = _
      rw [headM, if_pos (by rfl), gw]; rfl
