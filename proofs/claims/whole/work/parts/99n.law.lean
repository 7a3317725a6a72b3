/-! law as a step -/
def lwC (a j : Nat) : Bool := sc a j || (a == 1 && j == 1)
def lwM (a j : Nat) : Bool := sm a j || (a == 86 && (j == 8 || (j == 18 || j == 20)))
theorem sc_lw (a j : Nat) (e : lwC a j = false) : sc a j = false := by unfold lwC at e; simp at e; simp [e]
theorem sm_lw (a j : Nat) (e : lwM a j = false) : sm a j = false := by unfold lwM at e; simp at e; simp [e]
theorem rrC_lw (a j : Nat) (e : lwC a j = false) : rrC a j = false := rrC_sc a j (sc_lw a j e)
theorem rrM_lw (a j : Nat) (e : lwM a j = false) : rrM a j = false := by
  unfold lwM sm at e; unfold rrM noM; simp at e ⊢; omega
theorem lwC_k (a j : Nat) (e : kC a j = true) : lwC a j = false := by
  unfold kC at e; unfold lwC sc; simp at e ⊢; omega
theorem lwC_cls (a j : Nat) (e : cls a j = false) : lwC a j = false := by
  unfold cls at e; unfold lwC sc; simp at e ⊢; omega
theorem lwM_mdl (a j : Nat) (e : mdl a j = false) : lwM a j = false := by
  unfold mdl at e; unfold lwM sm; simp at e ⊢; omega
section LAW
variable {N : Net} {sem : Sem} {x : XX} {l : List Int64} {C M : aH}
theorem WRL.law {c : Nat} {l' : List Int64} {C1 M1 : aH} (r : WRL N sem x l c C M) (f : Fr lwC C C1) (g : Fr lwM M M1) (h18 : hR M1 86 18 = hR M 86 18) (h20 : hI M1 86 20 = hI M 86 20) (t1 : ToC C1 l') (t2 : ToM M1 l') (t : TxtR C1 M1) : WRL N sem x l' (c + 1) C1 M1 := by
  obtain ⟨V, v, cw, mw, tc, tm, tx, pa, ke, se⟩ := r
  have S3 : St C1 22 x := St_to f (fun j => ⟨rfl, rfl, rfl⟩) cw.2.2.1
  have X3 : XM M1 87 x := XM.to g (fun j => rfl) mw.2.2.1
  have mn : MN N M1 := by
    obtain ⟨z1, z2, z3, z4⟩ := mw.2.1
    refine ⟨(g.i 86 1 rfl).trans z1, (g.i 86 2 rfl).trans z2, (g.i 86 3 rfl).trans z3, fun i hi => ?_⟩
    rw [g.i 88 i rfl, g.i 89 i rfl, g.i 90 i rfl]
    exact z4 i hi
  refine ⟨V, VS_mono (by omega) v, cw.go f lwC_k S3, ⟨g.wf mw.1, mn, X3, RuleM.same (g.row 94 fun _ => rfl) h20 h18 mw.2.2.2⟩, t1, t2, t, ?_, ?_, ?_⟩
  · exact pa.to f g rfl (fun _ => rfl) (fun a j h1 h2 => by unfold lwC sc; simp; omega) rfl (fun _ => rfl) (by omega)
  · exact ke.to f g (fun a j h1 h2 => by unfold lwC sc; simp; omega) rfl (fun a j h1 h2 => by unfold lwM sm; simp; omega) (by omega) (by omega)
  · exact se.to2 f g rfl (fun a j h1 h2 => by unfold lwC sc; simp; omega) rfl (fun a j h1 h2 => by unfold lwM sm; simp; omega)
theorem RuleC.at {h h1 : aH} {r : Nat} {sem : Sem} (e1 : hI h1 (r + 1) = hI h (r + 1)) (e2 : hI h1 r 2 = hI h r 2) (R : RuleC h r sem) : RuleC h1 r sem := ⟨R.1, fun h' q w a1 a2 a3 => R.2 h' q w (a1.trans e1) (a2.trans e2) a3⟩
theorem RuleM.at {h h1 : aH} {q : Nat} {sem : Sem} (e1 : hI h1 q = hI h q) (e2 : hI h1 86 20 = hI h 86 20) (e3 : hR h1 86 18 = hR h 86 18) (R : RuleM h q sem) : RuleM h1 q sem := by
  obtain ⟨r1, r2, r3⟩ := R
  refine ⟨e3.trans r1, r2, ?_⟩
  rcases r3 with ⟨d1, d2⟩ | ⟨d1, d2⟩
  · exact Or.inl ⟨e2.trans d1, d2⟩
  · refine Or.inr ⟨by rw [e2]; exact d1, fun h' y w a1 a2 a3 a4 a5 a6 a7 a8 a9 => ?_⟩
    exact d2 h' y w (a1.trans e1) (a2.trans e2) a3 a4 (a5.trans e2) a6 a7 a8 a9
theorem trialC {h : aH} {r : Nat} {sem : Sem} (w : Wf h) (cn : CN N h) (S : St h 22 x) (V : NV N) (v : VS N MH x) (R : RuleC h r sem) : ∃ h1 h2, fn_X11_startTrial h 0 = some h1 ∧ Wf h1 ∧ fn_X0_run h1 3 28 r 10 = some h2 ∧ Fr (sh 28) h h2 ∧ TC h2 28 (hrs N sem 10 (x, 0, 0, zer)) := by
  obtain ⟨h1, e1, F1, T1⟩ := startTrial_eq w S
  have w1 := F1.wf w
  have R1 : RuleC h1 r sem := by
    rcases R.1 with rfl | rfl
    · exact R.at (F1.row 15 fun _ => rfl) (F1.i 14 2 rfl)
    · exact R.at (F1.row 18 fun _ => rfl) (F1.i 17 2 rfl)
  obtain ⟨h2, e2, F2, T2⟩ := run_eq (Or.inr rfl) w1 (cn.to (Or.inr rfl) F1) V R1 (B := MH) v T1 (n := 10) (by decide)
  exact ⟨h1, h2, e1, w1, e2, F1.trans F2, T2⟩
theorem thenM {h : aH} {q : Nat} {sem : Sem} (w : Wf h) (mn : MN N h) (X : XM h 87 x) (V : NV N) (v : VS N MH x) (R : RuleM h q sem) : ∃ h', fn_X12_goThen h 86 10 = some h' ∧ Fr (mh 99) h h' ∧ TM h' 99 (hrs N sem 10 (x, 0, 0, zer)) := by
  obtain ⟨f, e, X1⟩ := layThen_eq w X
  have F1 : Fr (mh 99) h (rI h 99 f) := (Fr.refl _ _).rI _ (fun _ => rfl)
  have w1 := F1.wf w
  obtain ⟨h2, e2, F2, r2, c1, c2, c3⟩ := clearM_eq w1 99
  have w2 := F2.wf w1
  have F12 := F1.trans F2
  have T2 : TM h2 99 (x, 0, 0, zer) := ⟨XM_to (r2 99 (by decide) (by decide)) X1, c1, c2, c3⟩
  have R2 : RuleM h2 q sem := by
    rcases R.2.1 with rfl | rfl
    · exact R.at (F12.row 94 fun _ => rfl) (F12.i 86 20 rfl) (F12.r 86 18 (Or.inl rfl))
    · exact R.at (F12.row 95 fun _ => rfl) (F12.i 86 20 rfl) (F12.r 86 18 (Or.inl rfl))
  obtain ⟨h3, e3, F3, T3⟩ := goHours_eq (Or.inr rfl) w2 (mn.to (Or.inr rfl) F12) V R2 (B := MH) v T2 (n := 10) (by decide) (by unfold MH; decide)
  refine ⟨h3, ?_, F12.trans F3, T3⟩
  have e3' : fn_X12_goHours h2 86 99 10 = some h3 := e3
  unfold fn_X12_goThen
  simp only [g_86_0 w, g_86_26 w, Option.bind_some, e, k_86 w1, e2, g_86_26 w2, k_86 w2, e3']
def lvT (z : XX) (k : Nat) : List Int64 := (List.range k).map (fun i => Int32.toInt64 (z i))
theorem lvT_s (z : XX) (k : Nat) : lvT z (k + 1) = lvT z k ++ [Int32.toInt64 (z k)] := by
  unfold lvT
  rw [List.range_succ, List.map_append]
  rfl
theorem lvT_len (z : XX) (k : Nat) : (lvT z k).length = k := by unfold lvT; simp
theorem law_tellC {h : aH} {z : XX} {l0 : List Int64} {p q : Int32} (w : Wf h) (cn : CN N h) (V : NV N) (S : St h 28 z) (t : ToC h l0) (hl : l0.length = 2) : ∃ h', lp (lb_X11_law_116 0 p q) lpN (0, h) = some (q - p, h') ∧ Fr stC h h' ∧ ToC h' (l0 ++ lvT z (N_b N)) := by
  have h6 := V.1
  obtain ⟨⟨r, h'⟩, e, e1, F, T⟩ : ∃ o : Int32 × aH, lp (lb_X11_law_116 0 p q) lpN (0, h) = some o ∧ o.1 = q - p ∧ Fr stC h o.2 ∧ ToC o.2 (l0 ++ lvT z (N_b N)) := by
    refine lp_inv (fun k (s : Int32 × aH) => s.1 = nI k ∧ Fr stC h s.2 ∧ ToC s.2 (l0 ++ lvT z k)) (fun (o : Int32 × aH) => o.1 = q - p ∧ Fr stC h o.2 ∧ ToC o.2 (l0 ++ lvT z (N_b N))) (N_b N) (by omega) ?_ ?_ ⟨rfl, Fr.refl _ _, by show ToC h (l0 ++ []); rw [List.append_nil]; exact t⟩
    · rintro k ⟨s1, g⟩ hk ⟨rfl, F, T⟩
      dsimp only at F T
      have wg := F.wf w
      obtain ⟨g', ea, Fa, ta⟩ := toldAdd wg T (by rw [List.length_append, lvT_len]; omega) (Int32.toInt64 (z k))
      refine Or.inl ⟨(nI (k + 1), g'), ?_, rfl, F.trans Fa, ?_⟩
      · have lv : aI g 29 14 (nI k) = some (z k) := by rw [aI_eq wg 29 14 6 rfl k (by omega) (by decide), F.i 29 k rfl, S.1 k (by omega)]
        unfold lb_X11_law_116
        simp only [g_0_1 wg, w_gI wg 3 0 0 rfl, (F.i 3 0 rfl).trans cn.1, Option.bind_some]
        rw [if_pos (nI_lt hk (by omega))]
        simp only [g_0_11 wg, g_0_9 wg, g_28_0 wg, Option.bind_some, lv, k_77 wg, ea, nI_1]
      · show ToC g' (l0 ++ lvT z (k + 1))
        rw [lvT_s, ← List.append_assoc]; exact ta
    · rintro ⟨s1, g⟩ ⟨rfl, F, T⟩
      dsimp only at F T
      have wg := F.wf w
      refine ⟨(q - p, g), ?_, rfl, F, T⟩
      unfold lb_X11_law_116
      simp only [g_0_1 wg, w_gI wg 3 0 0 rfl, (F.i 3 0 rfl).trans cn.1, Option.bind_some]
      rw [if_neg (nI_nlt (Nat.le_refl _) (by omega))]
  dsimp only at e1 F T
  subst e1
  exact ⟨h', e, F, T⟩
theorem law_tellM {h : aH} {z : XX} {l0 : List Int64} {p q : Int32} (w : Wf h) (mn : MN N h) (V : NV N) (S : XM h 99 z) (e27 : hI h 86 27 = q) (t : ToM h l0) (hl : l0.length = 2) : ∃ h', lp (lb_X12_law_130 86 p) lpN (0, h) = some (q - p, h') ∧ Fr stM h h' ∧ ToM h' (l0 ++ lvT z (N_b N)) := by
  have h6 := V.1
  obtain ⟨⟨r, h'⟩, e, e1, F, T⟩ : ∃ o : Int32 × aH, lp (lb_X12_law_130 86 p) lpN (0, h) = some o ∧ o.1 = q - p ∧ Fr stM h o.2 ∧ ToM o.2 (l0 ++ lvT z (N_b N)) := by
    refine lp_inv (fun k (s : Int32 × aH) => s.1 = nI k ∧ Fr stM h s.2 ∧ ToM s.2 (l0 ++ lvT z k)) (fun (o : Int32 × aH) => o.1 = q - p ∧ Fr stM h o.2 ∧ ToM o.2 (l0 ++ lvT z (N_b N))) (N_b N) (by omega) ?_ ?_ ⟨rfl, Fr.refl _ _, by show ToM h (l0 ++ []); rw [List.append_nil]; exact t⟩
    · rintro k ⟨s1, g⟩ hk ⟨rfl, F, T⟩
      dsimp only at F T
      have wg := F.wf w
      obtain ⟨g', ea, Fa, ta⟩ := tellM wg T (by rw [List.length_append, lvT_len]; omega) (Int32.toInt64 (z k))
      refine Or.inl ⟨(nI (k + 1), g'), ?_, rfl, F.trans Fa, ?_⟩
      · have lv : aI g 99 14 (nI k) = some (z k) := by rw [aI_eq wg 99 14 16 rfl k (by omega) (by decide), F.i 99 k rfl, S k (by omega)]
        unfold lb_X12_law_130
        simp only [w_gI wg 86 11 1 rfl, (F.i 86 1 rfl).trans mn.1, Option.bind_some]
        rw [if_pos (nI_lt hk (by omega))]
        simp only [g_86_26 wg, Option.bind_some, lv, k_86 wg, ea, nI_1]
      · show ToM g' (l0 ++ lvT z (k + 1))
        rw [lvT_s, ← List.append_assoc]; exact ta
    · rintro ⟨s1, g⟩ ⟨rfl, F, T⟩
      dsimp only at F T
      have wg := F.wf w
      refine ⟨(q - p, g), ?_, rfl, F, T⟩
      unfold lb_X12_law_130
      simp only [w_gI wg 86 11 1 rfl, (F.i 86 1 rfl).trans mn.1, Option.bind_some]
      rw [if_neg (nI_nlt (Nat.le_refl _) (by omega))]
      simp only [w_gI wg 86 11 27 rfl, (F.i 86 27 rfl).trans e27, Option.bind_some]
  dsimp only at e1 F T
  subst e1
  exact ⟨h', e, F, T⟩
theorem pR18 {h : aH} (w : Wf h) {v : Nat} (hv : v = 94 ∨ v = 95) : pR h 86 11 18 v = some (sR h 86 18 (some v)) := by
  unfold pR
  rw [k_86 w]
  rfl
end LAW
