/-! keep, again, sheet -/
def kpC (a j : Nat) : Bool := a == 76 || decide (70 ≤ a ∧ a < 76)
def kpM (a j : Nat) : Bool := (a == 86 && j == 11) || (a == 113 || (a == 114 || a == 115))
theorem kpC_k (a j : Nat) (e : kC a j = true) : kpC a j = false := by
  unfold kC at e; unfold kpC; simp at e ⊢; omega
theorem kpM_k (a j : Nat) (e : kM a j = true) : kpM a j = false := by
  unfold kM at e; unfold kpM; simp at e ⊢; omega
theorem kpC_cls (a j : Nat) (e : cls a j = false) : kpC a j = false := by
  unfold cls at e; unfold kpC; simp at e ⊢; omega
theorem kpM_mdl (a j : Nat) (e : mdl a j = false) : kpM a j = false := by
  unfold mdl at e; unfold kpM; simp at e ⊢; omega
theorem WRL.kept {N : Net} {sem : Sem} {x : XX} {l : List Int64} {c : Nat} {C M C1 M1 : aH} (r : WRL N sem x l c C M) (f : Fr kpC C C1) (g : Fr kpM M M1) (t : KeptR N (300 * (c + 1)) (c + 1) C1 M1) : WRL N sem x l (c + 1) C1 M1 := by
  obtain ⟨V, v, cw, mw, tc, tm, tx, pa, ke, se⟩ := r
  have S3 : St C1 22 x := St_to f (fun j => ⟨rfl, rfl, rfl⟩) cw.2.2.1
  have X3 : XM M1 87 x := XM.to g (fun j => rfl) mw.2.2.1
  refine ⟨V, VS_mono (by omega) v, cw.go f kpC_k S3, mw.go g kpM_k X3, tc.to f rfl (fun _ => rfl), tm.to g rfl (fun _ => rfl), tx.to f g rfl (fun _ => rfl) rfl (fun _ => rfl), ?_, t, ?_⟩
  · exact pa.to f g rfl (fun _ => rfl) (fun a j h1 h2 => by unfold kpC; simp; omega) rfl (fun _ => rfl) (by omega)
  · exact se.to2 f g rfl (fun a j h1 h2 => by unfold kpC; simp; omega) rfl (fun a j h1 h2 => by unfold kpM; simp; omega)
theorem two_cases (b : Int32) : (b < 0 ∧ True) ∨ (¬ b < 0 ∧ ¬ b < 2 ∧ ¬ b ≤ 1) ∨ (¬ b < 0 ∧ b < 2 ∧ b ≤ 1 ∧ ∃ k : Nat, k < 2 ∧ b = nI k) := num_cases 2 (by decide) b
theorem kad {i : Nat} (hi : i < 2) : 70 + 3 * i ∈ SL := by
  have : ∀ i : Nat, i < 2 → 70 + 3 * i ∈ SL := by decide
  exact this i hi
theorem aR69 {h : aH} (w : Wf h) {i : Nat} (hi : i < 2) : aR h 69 (nI i) = some (70 + 3 * i) := by
  rw [aR_eq w 69 2 rfl i hi (by decide)]
  have h0 : hR h 69 0 = some 70 := w.2 (69, 0, 70) (by decide +kernel)
  have h1 : hR h 69 1 = some 73 := w.2 (69, 1, 73) (by decide +kernel)
  rcases (show i = 0 ∨ i = 1 by omega) with rfl | rfl
  · exact h0
  · exact h1
theorem nar_b1 : vp_nar .boolean 1 = 1 := rfl
theorem stp_keep (c : Nat) (v : Int32) : STEP c (fun C => fn_X11_keep C 0 v) (fun M => fn_X12_keep M 86 v) := by
  intro C M ⟨N, sem, x, l, r⟩
  have r' : WRL N sem x l c C M := r
  obtain ⟨V, v0, cw, mw, tc, tm, tx, pa, ⟨cm, k1, k2, k3⟩, se⟩ := r
  have w := cw.1
  have m := mw.1
  have m0 : Wf (sI M 86 11 0) := m
  have th := r'.thr
  have no : (v < 0 ∨ ¬ v < 2 ∧ ¬ v ≤ 1) → ∃ r C' M', fn_X11_keep C 0 v = some (r, C') ∧ fn_X12_keep M 86 v = some (r, M') ∧ REL (c + 1) C' M' ∧ Fr cls C C' ∧ Fr mdl M M' := by
    intro hb
    refine ⟨0, C, sI M 86 11 0, ?_, ?_, ⟨N, sem, x, l, th.1⟩, Fr.refl _ C, th.2⟩
    · unfold fn_X11_keep fn_X2_keepUnder
      rw [g_0_10 w, Option.bind_some, g_0_7 w, Option.bind_some, k_31 w, Option.bind_some]
      by_cases h0 : v < 0
      · rw [if_pos h0]; rfl
      · rw [if_neg h0, if_neg (hb.resolve_left h0).1]; rfl
    · unfold fn_X12_keep
      rw [w_pI m 86 11 11 _ rfl, Option.bind_some, in_eq, Option.bind_some]
      by_cases h0 : v < 0
      · rw [if_pos h0, if_pos rfl]
      · rw [if_neg h0, if_neg (hb.resolve_left h0).2, if_pos rfl]
  rcases two_cases v with ⟨d1, -⟩ | ⟨d1, d2, d3⟩ | ⟨d1, d2, d3, i, hi, rfl⟩
  · exact no (Or.inl d1)
  · exact no (Or.inr ⟨d2, d3⟩)
  obtain ⟨C1, t1, t2, t3⟩ := takes_eq w (k := 70 + 3 * i) (q := 22) (kad hi) (by decide) (by omega)
  have w1 := t2.wf w
  have z1 : wZ C1 76 (nI i) 1 = some (sI C1 76 i 1) := wZ_eq w1 76 2 rfl i hi (by decide) 1
  have fC : Fr kpC C (sI C1 76 i 1) := (t2.mono (fun a j e => by unfold kpC at e; unfold tk; simp at e ⊢; omega)).sI _ rfl
  obtain ⟨M1, eM1⟩ : ∃ M1, M1 = sI (sI M 86 11 0) 114 i 1 := ⟨_, rfl⟩
  have m1 : Wf M1 := by rw [eM1]; exact m
  have z2 : wZ (sI M 86 11 0) 114 (nI i) 1 = some M1 := by rw [eM1]; exact wZ_eq m0 114 2 rfl i hi (by decide) 1
  obtain ⟨M2, eM2⟩ : ∃ M2, M2 = sI M1 115 i (nI cm) := ⟨_, rfl⟩
  have m2 : Wf M2 := by rw [eM2]; exact m1
  have e46 : hI M1 86 46 = nI cm := by rw [eM1, hI_sI_r, if_neg (by decide), hI_sI]; simp [k2]
  have z3 : wI M1 115 (nI i) (nI cm) = some M2 := by rw [eM2]; exact wI_eq m1 115 2 rfl i hi (by decide) _
  obtain ⟨M3, eM3⟩ : ∃ M3, M3 = rI M2 113 (va_cpy (hI M2 87) (hI M2 113) 0 (16 * i) 16) := ⟨_, rfl⟩
  have z4 : fn_X12_lay M2 87 113 (16 * nI i) = some M3 := by
    rw [eM3, show (16 : Int32) * nI i = nI (16 * i) from pk_mul 16 i]
    exact lay_eq m2 87 113 16 32 (16 * i) rfl rfl (by decide) (by decide) (by omega) (by decide) (by decide)
  have fM : Fr kpM M M3 := by
    rw [eM3, eM2, eM1]
    exact ((((Fr.refl _ M).sI _ rfl).sI _ rfl).sI _ rfl).rI _ (fun _ => rfl)
  refine ⟨1, sI C1 76 i 1, M3, ?_, ?_, ⟨N, sem, x, l, r'.kept fC fM ⟨cm, by omega, (fM.i 86 46 rfl).trans k2, fun j hj => ?_⟩⟩, fC.mono kpC_cls, fM.mono kpM_mdl⟩
  · dsimp only
    unfold fn_X11_keep fn_X2_keepUnder
    rw [g_0_10 w, Option.bind_some, g_0_7 w, Option.bind_some, k_31 w, Option.bind_some, if_neg d1, if_pos d2, g_31_1 w, Option.bind_some, aR69 w hi, Option.bind_some, w_ck w _ 6 (by rw [(SL_ok _ (kad hi)).1]; rfl), Option.bind_some, t1, Option.bind_some, g_31_2 w1, Option.bind_some, z1, Option.bind_some]
    rfl
  · dsimp only
    unfold fn_X12_keep
    rw [w_pI m 86 11 11 _ rfl, Option.bind_some, in_eq, Option.bind_some, if_neg d1, if_pos d3, if_neg one0, g_86_48 m0, Option.bind_some, z2, Option.bind_some, g_86_49 m1, Option.bind_some, w_gI m1 86 11 46 rfl, Option.bind_some, e46, z3, Option.bind_some, g_86_0 m2, Option.bind_some, g_86_47 m2, Option.bind_some, z4, Option.bind_some]
  · by_cases hij : j = i
    · subst hij
      refine ⟨true, true, cm, ?_, ?_, ?_, Nat.le_refl _, by simp, fun _ => ⟨x, VS_mono (by omega) v0, ?_, fun k hk => ?_⟩⟩
      · rw [hI_sI]; simp; rfl
      · rw [eM3, hI_rI, if_neg (by decide), eM2, hI_sI_r, if_neg (by decide), eM1, hI_sI]; simp; rfl
      · rw [eM3, hI_rI, if_neg (by decide), eM2, hI_sI]; simp
      · have := t3 x cw.2.2.1
        unfold St at this ⊢
        rw [hI_sI_r, if_neg (by omega), hI_sI_r, if_neg (by omega), hI_sI_r, if_neg (by omega)]
        exact this
      · rw [eM3, hI_rI, if_pos rfl, cpy_in _ _ 0 _ 16 k hk, Nat.zero_add, eM2, hI_sI_r, if_neg (by decide), eM1]
        exact mw.2.2.1 k hk
    · obtain ⟨a, b, u, q1, q2, q3, q4, q5, q6⟩ := k3 j hj
      refine ⟨a, b, u, ?_, ?_, ?_, q4, q5, fun ha => ?_⟩
      · rw [hI_sI, if_neg (by omega), t2.i 76 j (by unfold tk; simp; omega)]; exact q1
      · rw [eM3, hI_rI, if_neg (by decide), eM2, hI_sI_r, if_neg (by decide), eM1, hI_sI, if_neg (by omega)]; exact q2
      · rw [eM3, hI_rI, if_neg (by decide), eM2, hI_sI, if_neg (by omega), eM1]; exact q3
      · obtain ⟨y, y1, y2, y3⟩ := q6 ha
        refine ⟨y, VS_mono (by omega) y1, ?_, fun k hk => ?_⟩
        · have := St_to t2 (k := 70 + 3 * j) (fun s => ⟨by unfold tk; simp; omega, by unfold tk; simp; omega, by unfold tk; simp; omega⟩) y2
          unfold St at this ⊢
          rw [hI_sI_r, if_neg (by omega), hI_sI_r, if_neg (by omega), hI_sI_r, if_neg (by omega)]
          exact this
        · rw [eM3, hI_rI, if_pos rfl]
          unfold va_cpy
          rw [if_neg (by omega), eM2, hI_sI_r, if_neg (by decide), eM1]
          exact y3 k hk
theorem stp_again (c : Nat) (hc : c ≤ 64) (v : Int32) : STEP c (fun C => fn_X11_again C 0 v) (fun M => fn_X12_again M 86 v) := by
  intro C M ⟨N, sem, x, l, r⟩
  have r' : WRL N sem x l c C M := r
  obtain ⟨V, v0, cw, mw, tc, tm, tx, ⟨pn, Pp, ad, hpn, pc, pm, pv⟩, ⟨cm, k1, k2, k3⟩, se⟩ := r
  have w := cw.1
  have m := mw.1
  obtain ⟨M0, eM⟩ : ∃ M0, M0 = sI M 86 11 0 := ⟨_, rfl⟩
  have m0 : Wf M0 := by rw [eM]; exact m
  have gM0 : Fr acM M M0 := by rw [eM]; exact (Fr.refl _ M).sI _ rfl
  have th := r'.thr
  rw [← eM] at th
  have no : fn_X2_bringBack C 31 v 22 = some (0, C) → fn_X12_again M 86 v = some (0, M0) → ∃ r C' M', fn_X11_again C 0 v = some (r, C') ∧ fn_X12_again M 86 v = some (r, M') ∧ REL (c + 1) C' M' ∧ Fr cls C C' ∧ Fr mdl M M' := by
    intro h1 h2
    refine ⟨0, C, M0, ?_, h2, ⟨N, sem, x, l, th.1⟩, Fr.refl _ C, th.2⟩
    unfold fn_X11_again
    rw [g_0_10 w, Option.bind_some, g_0_7 w, Option.bind_some, k_31 w, Option.bind_some, h1]
    rfl
  have head : (v < 0 ∨ ¬ v < 2 ∧ ¬ v ≤ 1) → fn_X2_bringBack C 31 v 22 = some (0, C) ∧ fn_X12_again M 86 v = some (0, M0) := by
    intro hb
    constructor
    · unfold fn_X2_bringBack
      by_cases h0 : v < 0
      · rw [if_pos h0]
      · rw [if_neg h0, if_neg (hb.resolve_left h0).1]
    · unfold fn_X12_again
      rw [w_pI m 86 11 11 _ rfl, ← eM, Option.bind_some, in_eq, Option.bind_some]
      by_cases h0 : v < 0
      · rw [if_pos h0, if_pos rfl]
      · rw [if_neg h0, if_neg (hb.resolve_left h0).2, if_pos rfl]
  rcases two_cases v with ⟨d1, -⟩ | ⟨d1, d2, d3⟩ | ⟨d1, d2, d3, i, hi, rfl⟩
  · exact no (head (Or.inl d1)).1 (head (Or.inl d1)).2
  · exact no (head (Or.inr ⟨d2, d3⟩)).1 (head (Or.inr ⟨d2, d3⟩)).2
  obtain ⟨a, b, u, q1, q2, q3, q4, q5, q6⟩ := k3 i hi
  have c76 : aI C 76 16 (nI i) = some (b2 a) := by rw [aI_eq w 76 16 2 rfl i hi (by decide), q1]
  have c114 : aI M0 114 16 (nI i) = some (b2 b) := by rw [aI_eq m0 114 16 2 rfl i hi (by decide), eM]; exact congrArg some q2
  have c115 : aI M0 115 14 (nI i) = some (nI u) := by rw [aI_eq m0 115 14 2 rfl i hi (by decide), eM]; exact congrArg some q3
  have c46 : hI M0 86 46 = nI cm := by rw [eM, hI_sI]; simp [k2]
  by_cases ha : a = true
  · obtain ⟨y, y1, y2, y3⟩ := q6 ha
    obtain ⟨hb, hu⟩ := q5.mp ha
    subst ha hb hu
    obtain ⟨C2, t1, t2, t3⟩ := takes_eq w (k := 22) (q := 70 + 3 * i) (by decide) (kad hi) (by omega)
    have w2 := t2.wf w
    have fC : Fr acC C (sI C2 31 3 0) := (t2.mono tk22_ac).sI _ rfl
    obtain ⟨F, eF⟩ : ∃ F, F = fun k => rI M0 87 (va_cpy (hI M0 113) (hI M0 87) (16 * i) 0 k) := ⟨_, rfl⟩
    have wF : ∀ k, Wf (F k) := fun k => by rw [eF]; exact m0
    have lM : lp (lb_X12_again_40 86 (nI i)) lpN (0, M0) = some (F 16) := by
      refine lp_run (fun k => (nI k, F k)) 16 _ ?_ ?_ (by decide) (by rw [eF]; dsimp only; rw [cpy_0, rI_self]; rfl)
      · intro k hk
        have e1 : nI k < 16 := nI_lt (b := 16) hk (by decide)
        have i113 : hI (F k) 113 = hI M0 113 := by rw [eF]; rfl
        have o1 : (16 : Int32) * nI i + nI k = nI (16 * i + k) := by rw [show (16 : Int32) * nI i = nI (16 * i) from pk_mul 16 i, nI_add]
        unfold lb_X12_again_40
        dsimp only
        rw [if_pos e1, g_86_0 (wF k), Option.bind_some, g_86_47 (wF k), Option.bind_some, o1, aI_eq (wF k) 113 14 32 rfl (16 * i + k) (by omega) (by decide), Option.bind_some, i113, wI_eq (wF k) 87 16 rfl k (by omega) (by decide), Option.bind_some, nI_1, Option.bind_some]
        have : sI (F k) 87 k (hI M0 113 (16 * i + k)) = F (k + 1) := by
          rw [eF]
          dsimp only
          rw [sI_rI, cpy_s0]
        rw [this]
      · have e2 : ¬ nI 16 < 16 := by decide
        unfold lb_X12_again_40
        dsimp only
        rw [if_neg e2]
    have fF : Fr x87 M0 (F 16) := by rw [eF]; exact (Fr.refl _ M0).rI _ (fun _ => rfl)
    have XF : XM (sI (F 16) 86 24 0) 87 y := by
      intro k hk
      rw [hI_sI_r, if_neg (by decide), eF]
      dsimp only
      rw [hI_rI, if_pos rfl, cpy_i0 _ _ _ _ _ hk, eM]
      exact y3 k hk
    have fM : Fr acM M (sI (F 16) 86 24 0) := (gM0.trans (fF.mono x87_ac)).sI _ rfl
    have f3 : Fr psC C2 (sI C2 31 3 0) := (Fr.refl _ C2).sI _ rfl
    have g3 : Fr psM (F 16) (sI (F 16) 86 24 0) := (Fr.refl _ (F 16)).sI _ rfl
    refine ⟨1, sI C2 31 3 0, sI (F 16) 86 24 0, ?_, ?_, ⟨N, sem, y, l, r'.act fC fM (St_to f3 (fun j => ⟨rfl, rfl, rfl⟩) (t3 y y2)) XF (VS_mono (by omega) y1) ?_ ?_ ⟨0, Pp, ad, by omega, ⟨?_, fun j hj => ?_, pc.2.2.1, fun j hj => absurd hj (by omega)⟩, ⟨?_, fun j hj => absurd hj (by omega)⟩, fun j hj => absurd hj (by omega)⟩⟩, fC.mono acC_cls, fM.mono acM_mdl⟩
    · dsimp only
      unfold fn_X11_again fn_X2_bringBack
      rw [g_0_10 w, Option.bind_some, g_0_7 w, Option.bind_some, k_31 w, Option.bind_some, if_neg d1, if_pos d2, g_31_2 w, Option.bind_some, c76, Option.bind_some, if_neg (by decide), g_31_1 w, Option.bind_some, aR69 w hi, Option.bind_some, k_22 w, Option.bind_some, t1, Option.bind_some, w_pI w2 31 1 3 _ rfl]
      rfl
    · dsimp only
      unfold fn_X12_again
      rw [w_pI m 86 11 11 _ rfl, ← eM, Option.bind_some, in_eq, Option.bind_some, if_neg d1, if_pos d3, if_neg one0, g_86_48 m0, Option.bind_some, c114, Option.bind_some, if_neg (by decide), g_86_49 m0, Option.bind_some, c115, Option.bind_some, w_gI m0 86 11 46 rfl, Option.bind_some, c46, if_pos rfl, lM, Option.bind_some, w_pI (wF 16) 86 11 24 _ rfl]
      rfl
    · exact (tc.to t2 rfl (fun _ => rfl)).to f3 rfl (fun _ => rfl)
    · refine ToM.to g3 rfl (fun _ => rfl) (ToM.to fF rfl (fun _ => rfl) ?_)
      rw [eM]
      exact tm.to ((Fr.refl txM M).sI _ rfl) rfl (fun _ => rfl)
    · rw [hI_sI]; simp; rfl
    · show hR (sI C2 31 3 0) 32 j = _ ∧ _
      rw [hR_sI, t2.r 32 j (Or.inl rfl)]
      exact pc.2.1 j hj
    · rw [hI_sI]; simp; rfl
  · have a0 : a = false := by cases a; rfl; exact absurd rfl ha
    subst a0
    refine no ?_ ?_
    · unfold fn_X2_bringBack
      rw [if_neg d1, if_pos d2, g_31_2 w, Option.bind_some, c76, Option.bind_some, if_pos (show b2 false = 0 from rfl)]
    · unfold fn_X12_again
      rw [w_pI m 86 11 11 _ rfl, ← eM, Option.bind_some, in_eq, Option.bind_some, if_neg d1, if_pos d3, if_neg one0, g_86_48 m0, Option.bind_some, c114, Option.bind_some]
      cases b with
      | false => rw [if_pos (show b2 false = 0 from rfl)]
      | true =>
        have hne : ¬ u = cm := fun q => ha (q5.mpr ⟨rfl, q⟩)
        have hne2 : ¬ nI u = nI cm := fun q => hne ((nI_eq (by omega) (by omega)).mp q)
        rw [if_neg (by decide), g_86_49 m0, Option.bind_some, c115, Option.bind_some, w_gI m0 86 11 46 rfl, Option.bind_some, c46, if_neg hne2]
