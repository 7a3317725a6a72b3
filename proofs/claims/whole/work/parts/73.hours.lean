/-! hours -/
theorem sumI_nat {N : Net} {B : Nat} {y : XX} (v : VS N B y) : ∀ n, n ≤ 6 → ∃ s : Nat, s ≤ 9 * n ∧ sumI n y = nI s
  | 0, _ => ⟨0, by omega, rfl⟩
  | n + 1, h => by
    obtain ⟨s, hs, es⟩ := sumI_nat v n (by omega)
    obtain ⟨a, ha, ea, -⟩ := v.1 n (by omega)
    refine ⟨s + a, by omega, ?_⟩
    show sumI n y + y n = nI (s + a)
    rw [es, ea, nI_add]
theorem sumI_pos {N : Net} {B : Nat} {y : XX} (V : NV N) (v : VS N B y) : ¬ sumI (N_b N) y < 0 := by
  have h6 := V.1
  obtain ⟨s, hs, es⟩ := sumI_nat v (N_b N) h6
  rw [es]
  exact nI_pos (by omega)
theorem hours_C {N : Net} {sem : Sem} {x : XX} {C : aH} {B : Nat} (cw : CW N sem x C) (V : NV N) (vs : VS N B x) {n : Nat} (hn : n ≤ 60) (b : Int32) : ∃ C1, fn_X11_act C 0 110 (nI n) b = some (sumI (N_b N) (hrs N sem n (x, 0, 0, zer)).1, C1) ∧ Fr (sh 22) C C1 ∧ TC C1 22 (hrs N sem n (x, 0, 0, zer)) := by
  obtain ⟨w, cn, S, R⟩ := cw
  obtain ⟨A, b1, b2', b3, b4, b5, b6⟩ := beginC_eq w 22
  have wA := b2'.wf w
  have TA : TC A 22 (x, 0, 0, zer) := ⟨by unfold St; rw [b3 22 (by decide) (by decide), b3 23 (by decide) (by decide), b3 24 (by decide) (by decide)]; exact S, b4, b5, b6⟩
  have cA : CN N A := cn.to (Or.inl rfl) b2'
  have RA : RuleC A 14 sem := R.to (Or.inl rfl) b2'
  obtain ⟨C1, q1, q2, q3⟩ : ∃ C1, lp (lb_X11_letHoursPass_21 0 (nI n)) lpN (0, A) = some C1 ∧ Fr (sh 22) A C1 ∧ TC C1 22 (hrs N sem n (x, 0, 0, zer)) := by
    refine lp_inv (fun k s => s.1 = nI k ∧ Fr (sh 22) A s.2 ∧ TC s.2 22 (hrs N sem k (x, 0, 0, zer))) (fun o => Fr (sh 22) A o ∧ TC o 22 (hrs N sem n (x, 0, 0, zer))) n (by omega) ?_ ?_ ?_
    · intro k s hk ⟨e1, f, T⟩
      have ws := f.wf wA
      obtain ⟨h', p1, p2, p3⟩ := pass_eq (Or.inl rfl) ws (cA.to (Or.inl rfl) f) V (RA.to (Or.inl rfl) f) (hrs_VS V sem (z := (x, 0, 0, zer)) vs k) T
      refine Or.inl ⟨(nI (k + 1), h'), ?_, rfl, f.trans p2, p3⟩
      unfold lb_X11_letHoursPass_21
      rw [e1, if_pos (nI_lt hk (by omega)), g_0_1 ws, Option.bind_some, g_0_7 ws, Option.bind_some, g_0_4 ws, Option.bind_some, k_3 ws, Option.bind_some, p1, Option.bind_some, nI_1, Option.bind_some]
    · intro s ⟨e1, f, T⟩
      refine ⟨s.2, ?_, f, T⟩
      unfold lb_X11_letHoursPass_21
      rw [e1, if_neg (nI_nlt (Nat.le_refl n) (by omega))]
    · exact ⟨rfl, Fr.refl _ _, TA⟩
  have w1 := q2.wf wA
  refine ⟨C1, ?_, b2'.trans q2, q3⟩
  rw [act_110 w, bind_pair]
  unfold fn_X11_letHoursPass
  rw [if_neg (nI_pos (by omega)), if_pos (show nI n ≤ 60 from nI_le (b := 60) hn (by decide)), g_0_1 w, Option.bind_some, k_3 w, Option.bind_some, b1, Option.bind_some, q1, Option.bind_some, g_0_7 w1, Option.bind_some, k_0 w1, Option.bind_some, together_eq w1 (cA.to (Or.inl rfl) q2) V (Or.inl rfl) q3.1, Option.bind_some]
theorem stC_ac (a j : Nat) (e : acC a j = false) : stC a j = false := stC_sc a j (sc_ac a j e)
theorem stM_ac (a j : Nat) (e : acM a j = false) : stM a j = false := stM_sm a j (sm_ac a j e)
theorem stp_hours (c : Nat) (hc : c ≤ 64) (v : Int32) : STEP c (fun C => fn_X11_hours C 0 v) (fun M => fn_X12_hours M 86 v) := by
  intro C M ⟨N, sem, x, l, r⟩
  have r' : WRL N sem x l c C M := r
  obtain ⟨V, v0, cw, mw, tc, tm, tx, ⟨pn, Pp, ad, hpn, pc, pm, pv⟩, ke, se⟩ := r
  have w := cw.1
  have m := mw.1
  have m0 : Wf (sI M 86 11 0) := m
  have fM0 : Fr txM M (sI M 86 11 0) := (Fr.refl _ M).sI _ rfl
  have gM0 : Fr acM M (sI M 86 11 0) := (Fr.refl _ M).sI _ rfl
  obtain ⟨C1, f1, w1, S1, wr⟩ := wrapC (N := N) w cw.2.2.1 hpn pc 110 v 0
  have cw1 : CW N sem x C1 := cw.go (f1.mono tk25_ac) acC_k S1
  have bad : (v < 0 ∨ ¬ v ≤ 60) → ∃ r C' M', fn_X11_hours C 0 v = some (r, C') ∧ fn_X12_hours M 86 v = some (r, M') ∧ REL (c + 1) C' M' ∧ Fr cls C C' ∧ Fr mdl M M' := by
    intro hb
    have ac : fn_X11_act C1 0 110 v 0 = some (-1, C1) := by
      rw [act_110 w1, bind_pair]
      unfold fn_X11_letHoursPass
      by_cases h0 : v < 0
      · rw [if_pos h0]
      · rw [if_neg h0, if_neg (hb.resolve_left h0)]
    obtain ⟨u1, -, -⟩ := wr (-1) C1 ac (Fr.refl _ _)
    refine ⟨-1, C1, sI M 86 11 0, ?_, ?_, r'.refuse f1 fM0 (by rw [hI_sI]; simp) rfl, f1.mono tk25_cls, fM0.mono txM_mdl⟩
    · unfold fn_X11_hours
      rw [k_0 w, Option.bind_some, u1 (by decide), Option.bind_some, if_pos (show (-1 : Int32) < 0 by decide)]
    · unfold fn_X12_hours
      rw [w_pI m 86 11 11 _ rfl, Option.bind_some, in_eq, Option.bind_some]
      by_cases h0 : v < 0
      · rw [if_pos h0, if_pos rfl]
      · rw [if_neg h0, if_neg (hb.resolve_left h0), if_pos rfl]
  rcases int_cases 60 (by omega) v with ⟨d1, -⟩ | ⟨d1, d2⟩ | ⟨d1, d2, n, hn, rfl⟩
  · exact bad (Or.inl d1)
  · exact bad (Or.inr d2)
  have d2 : nI n ≤ 60 := d2
  obtain ⟨z, ez⟩ : ∃ z, z = hrs N sem n (x, 0, 0, zer) := ⟨_, rfl⟩
  have vz : VS N (300 * (c + 1)) z.1 := by rw [ez]; exact VS_mono (by omega) (hrs_VS V sem (z := (x, 0, 0, zer)) v0 n)
  have sp := sumI_pos V vz
  obtain ⟨C2, a1, f2, T2⟩ := hours_C cw1 V v0 hn 0
  rw [← ez] at a1 T2
  obtain ⟨-, u0, u1⟩ := wr _ C2 a1 f2
  have pm0 : PastM pn Pp (sI M 86 11 0) := ⟨by rw [hI_sI]; simp [pm.1], fun i hi k hk => pm.2 i hi k hk⟩
  -- what is remembered on both sides
  obtain ⟨C3, M1, pn', Pp', ad', hpn', y1, y2, y3, y4, y5, y6, y7⟩ : ∃ C3 M1 pn' Pp' ad', pn' ≤ 12 ∧ fn_X11_actThatCanBeUndone C 0 110 (nI n) 0 = some (sumI (N_b N) z.1, C3) ∧ ((if nI n ≤ 0 then some (sI M 86 11 0) else (gR (sI M 86 11 0) 86 11 0).bind fun a19 => (ck (sI M 86 11 0) 86 11).bind fun u20 => (fn_X12_remember (sI M 86 11 0) 86 a19).bind fun h21 => some h21) : Option aH) = some M1 ∧ Fr psC C2 C3 ∧ Fr psM (sI M 86 11 0) M1 ∧ PastC pn' Pp' ad' C3 ∧ PastM pn' Pp' M1 ∧ ∀ i, i < pn' → VS N (300 * (c + 1)) (Pp' i) := by
    by_cases h0 : n = 0
    · subst h0
      refine ⟨C2, sI M 86 11 0, pn, Pp, ad, hpn, u0 sp rfl rfl, ?_, Fr.refl _ _, Fr.refl _ _, ?_, pm0, fun i hi => VS_mono (by omega) (pv i hi)⟩
      · rw [if_pos (by decide)]
      · exact (pc.to f1 rfl (fun _ => rfl) (fun a j h1 h2 => by unfold tk; simp; omega) hpn).to f2 rfl (fun _ => rfl) (fun a j h1 h2 => by unfold sh; simp; omega) hpn
    · have nz : ¬ nI n = 0 := fun q => h0 ((nI_eq (b := 0) (by omega) (by omega)).mp q)
      obtain ⟨C3, ad', q1, q2, q3⟩ := u1 sp (fun q => nz q.2)
      obtain ⟨M1, b1, b3, b4⟩ := remember_eq m0 hpn pm0 (a := 87) (na := 16) rfl (by decide) (by decide) (x := x) (fun k hk => mw.2.2.1 k hk)
      obtain ⟨z1, z2⟩ := psh_VS (c := 300 * (c + 1)) (x := x) hpn (fun i hi => VS_mono (by omega) (pv i hi)) (VS_mono (by omega) v0)
      refine ⟨C3, M1, pshN pn, pshP pn Pp x, ad', z1, q1, ?_, q2, b3, q3, b4, z2⟩
      rw [if_neg (show ¬ nI n ≤ 0 from nI_ge (a := 0) (by omega) (by omega)), g_86_0 m0, Option.bind_some, k_86 m0, Option.bind_some, b1, Option.bind_some]
  have w2 := f2.wf w1
  have w3 := y3.wf w2
  have T3 : TC C3 22 z := by
    refine ⟨St_to y3 (fun j => ⟨rfl, rfl, rfl⟩) T2.1, (y3.i 3 8 rfl).trans T2.2.1, (y3.i 3 9 rfl).trans T2.2.2.1, fun i hi => ?_⟩
    rw [y3.i 7 i rfl]
    exact T2.2.2.2 i hi
  have g1 : Fr acM M M1 := gM0.trans (y4.mono psM_ac)
  have X1 : XM M1 87 x := XM.to y4 (fun j => rfl) (show XM (sI M 86 11 0) 87 x from mw.2.2.1)
  have mw1 : MW N sem x M1 := mw.go g1 acM_k X1
  have m1 := mw1.1
  obtain ⟨M2, k1, k2, k3, k4, k5, k6⟩ := clearM_eq m1 87
  have TM2 : TM M2 87 (x, 0, 0, zer) := ⟨fun i hi => by rw [k3 87 (by decide) (by decide)]; exact X1 i hi, k4, k5, k6⟩
  have m2 := k2.wf m1
  have mw2 : MW N sem x M2 := mw1.go (k2.mono mh87_ac) acM_k TM2.1
  obtain ⟨M3, g3, g4, g5⟩ := goHours_eq (Or.inl rfl) m2 mw2.2.1 V mw2.2.2.2 v0 TM2 (n := n) (by omega) (by omega)
  rw [← ez] at g5
  have m3 := g4.wf m2
  have mw3 : MW N sem z.1 M3 := mw2.go (g4.mono mh87_ac) acM_k g5.1
  -- told
  obtain ⟨t1, t2, t3⟩ := toldBegin w3
  have w4 := t2.wf w3
  obtain ⟨C5, t4, t5, t6⟩ := toldAdd w4 t3 (by decide) (Int32.toInt64 z.2.1)
  have w5 := t5.wf w4
  obtain ⟨C6, t7, t8, t9⟩ := toldAdd w5 t6 (by simp) (Int32.toInt64 z.2.2.1)
  obtain ⟨s1, s2, s3⟩ := tellBegin m3
  have m4 := s2.wf m3
  obtain ⟨M5, s4, s5, s6⟩ := tellM m4 s3 (by decide) (Int32.toInt64 z.2.1)
  have m5 := s5.wf m4
  obtain ⟨M6, s7, s8, s9⟩ := tellM m5 s6 (by simp) (Int32.toInt64 z.2.2.1)
  have m6 := s8.wf m5
  have fC : Fr acC C C6 := ((((f1.mono tk25_ac).trans (f2.mono sh22_ac)).trans (y3.mono psC_ac)).trans (t2.mono stC_ac)).trans ((t5.trans t8).mono stC_ac)
  have fM : Fr acM M M6 := (((g1.trans (k2.mono mh87_ac)).trans (g4.mono mh87_ac)).trans (s2.mono stM_ac)).trans ((s5.trans s8).mono stM_ac)
  have tt : Fr stC C3 C6 := (t2.trans t5).trans t8
  have ss : Fr stM M3 M6 := (s2.trans s5).trans s8
  have X6 : XM M6 87 z.1 := XM.to ss (fun _ => rfl) g5.1
  have mw6 : MW N sem z.1 M6 := mw3.go (ss.mono stM_ac) acM_k X6
  refine ⟨sumI (N_b N) z.1, C6, M6, ?_, ?_, ⟨N, sem, z.1, _, r'.act fC fM (St_to tt (fun j => ⟨rfl, rfl, rfl⟩) T3.1) X6 vz t9 s9 ⟨pn', Pp', ad', hpn', ?_, ?_, y7⟩⟩, fC.mono acC_cls, fM.mono acM_mdl⟩
  · have r8 : hI (sI C3 77 1 0) 3 8 = z.2.1 := (t2.i 3 8 rfl).trans T3.2.1
    have r9 : hI C5 3 9 = z.2.2.1 := ((t2.trans t5).i 3 9 rfl).trans T3.2.2.1
    dsimp only
    unfold fn_X11_hours
    rw [k_0 w, Option.bind_some, y1, Option.bind_some, if_neg sp, g_0_11 w3, Option.bind_some, k_77 w3, Option.bind_some, t1, Option.bind_some, g_0_11 w4, Option.bind_some, g_0_1 w4, Option.bind_some, w_gI w4 3 0 8 rfl, Option.bind_some, k_77 w4, Option.bind_some, r8, t4, Option.bind_some, g_0_11 w5, Option.bind_some, g_0_1 w5, Option.bind_some, w_gI w5 3 0 9 rfl, Option.bind_some, k_77 w5, Option.bind_some, r9, t7, Option.bind_some]
  · have r8 : hI (sI M3 86 10 0) 86 27 = z.2.1 := (s2.i 86 27 rfl).trans g5.2.1
    have r9 : hI M5 86 28 = z.2.2.1 := ((s2.trans s5).i 86 28 rfl).trans g5.2.2.1
    dsimp only
    unfold fn_X12_hours
    rw [w_pI m 86 11 11 _ rfl, Option.bind_some, in_eq, Option.bind_some, if_neg d1, if_pos d2, if_neg one0, y2, Option.bind_some, k_86 m1, Option.bind_some, k1, Option.bind_some, g_86_0 m2, Option.bind_some, k_86 m2, Option.bind_some, g3, Option.bind_some, s1, Option.bind_some, w_gI m4 86 11 27 rfl, Option.bind_some, k_86 m4, Option.bind_some, r8, s4, Option.bind_some, w_gI m5 86 11 28 rfl, Option.bind_some, k_86 m5, Option.bind_some, r9, s7, Option.bind_some, g_86_0 m6, Option.bind_some, k_86 m6, Option.bind_some, sumOf0_eq m6 mw6.2.1 V (Or.inl rfl) X6, Option.bind_some]
  · exact y5.to tt rfl (fun _ => rfl) (fun a j h1 h2 => by unfold stC; simp; omega) hpn'
  · refine ⟨?_, fun i hi k hk => ?_⟩
    · rw [ss.i 86 24 rfl, g4.i 86 24 rfl, k2.i 86 24 rfl]; exact y6.1
    · rw [ss.i 97 _ rfl, g4.i 97 _ rfl, k2.i 97 _ rfl]; exact y6.2 i hi k hk
