/-! undo, keep, again, sheet -/
theorem tk22_ac (a j : Nat) (e : acC a j = false) : tk 22 a j = false := by
  unfold acC at e; unfold tk; simp at e ⊢; omega
theorem x87_ac (a j : Nat) (e : acM a j = false) : (a == 87) = false := by
  unfold acM at e; simp at e ⊢; omega
def x87 (a j : Nat) : Bool := a == 87
theorem cpy_s0 (f g : XX) (off n : Nat) : va_up (va_cpy f g off 0 n) n (f (off + n)) = va_cpy f g off 0 (n + 1) := by
  have := cpy_s f g off 0 n
  rw [Nat.zero_add] at this
  exact this
theorem cpy_i0 (f g : XX) (off n k : Nat) (h : k < n) : va_cpy f g off 0 n k = f (off + k) := by
  have := cpy_in f g off 0 n k h
  rw [Nat.zero_add] at this
  exact this
theorem stp_undo (c : Nat) : STEP c (fun C => fn_X11_undo C 0) (fun M => fn_X12_undo M 86) := by
  intro C M ⟨N, sem, x, l, r⟩
  have r' : WRL N sem x l c C M := r
  obtain ⟨V, v0, cw, mw, tc, tm, tx, ⟨pn, Pp, ad, hpn, pc, pm, pv⟩, ke, se⟩ := r
  have w := cw.1
  have m := mw.1
  obtain ⟨M0, eM⟩ : ∃ M0, M0 = sI M 86 11 0 := ⟨_, rfl⟩
  have m0 : Wf M0 := by rw [eM]; exact m
  have gM0 : Fr acM M M0 := by rw [eM]; exact (Fr.refl _ M).sI _ rfl
  have e24 : hI M0 86 24 = nI pn := by rw [eM, hI_sI]; simp [pm.1]
  have p97 : ∀ i, i < pn → ∀ k, k < 16 → hI M0 97 (16 * i + k) = Pp i k := by rw [eM]; exact pm.2
  have t97 : ToM M0 l := by rw [eM]; exact tm.to ((Fr.refl txM M).sI _ rfl) rfl (fun _ => rfl)
  obtain ⟨p1, p2, p3, p4⟩ := pc
  cases pn with
  | zero =>
    have th := r'.thr
    rw [← eM] at th
    refine ⟨-1, C, M0, ?_, ?_, ⟨N, sem, x, l, th.1⟩, Fr.refl _ C, th.2⟩
    · dsimp only
      unfold fn_X11_undo fn_X2_pop
      rw [g_0_10 w, Option.bind_some, g_0_7 w, Option.bind_some, k_31 w, Option.bind_some, w_gI w 31 1 3 rfl, Option.bind_some, p1, if_pos (by decide)]
      rfl
    · dsimp only
      unfold fn_X12_undo
      rw [w_pI m 86 11 11 _ rfl, ← eM, Option.bind_some, w_gI m0 86 11 24 rfl, Option.bind_some, e24, if_pos (by decide)]
  | succ n =>
    have nz : ¬ nI (n + 1) = 0 := fun q => absurd ((nI_eq (b := 0) (by omega) (by omega)).mp q) (by omega)
    have w1 : Wf (sI C 31 3 (nI n)) := w
    obtain ⟨a1, a2⟩ := p2 n (by omega)
    have a2' := a2
    obtain ⟨q, hq, eq⟩ := a2'
    obtain ⟨C2, t1, t2, t3⟩ := takes_eq w1 (k := 22) (q := ad n) (by decide) (SL_st a2) (by omega)
    have w2 := t2.wf w1
    have f1 : Fr psC C (sI C 31 3 (nI n)) := (Fr.refl _ C).sI _ rfl
    have sy : St C2 22 (Pp n) := by
      apply t3
      have := p4 n (by omega)
      unfold St at this ⊢
      rw [hI_sI_r, if_neg (by omega), hI_sI_r, if_neg (by omega), hI_sI_r, if_neg (by omega)]
      exact this
    have fC : Fr acC C C2 := (f1.mono psC_ac).trans (t2.mono tk22_ac)
    -- the reference
    obtain ⟨M1, eM1⟩ : ∃ M1, M1 = sI M0 86 24 (nI n) := ⟨_, rfl⟩
    have m1 : Wf M1 := by rw [eM1]; exact m0
    have gM1 : Fr acM M0 M1 := by rw [eM1]; exact (Fr.refl _ M0).sI _ rfl
    have e24' : hI M1 86 24 = nI n := by rw [eM1, hI_sI]; simp
    have m97 : hI M1 97 = hI M0 97 := by rw [eM1]; rfl
    obtain ⟨F, eF⟩ : ∃ F, F = fun k => rI M1 87 (va_cpy (hI M1 97) (hI M1 87) (16 * n) 0 k) := ⟨_, rfl⟩
    have wF : ∀ k, Wf (F k) := fun k => by rw [eF]; exact m1
    have lM : lp (lb_X12_undo_26 86) lpN (0, M1) = some (nI n, F 16) := by
      refine lp_run (fun k => (nI k, F k)) 16 _ ?_ ?_ (by decide) (by rw [eF]; dsimp only; rw [cpy_0, rI_self]; rfl)
      · intro k hk
        have c1 : nI k < 16 := nI_lt (b := 16) hk (by decide)
        have i24 : hI (F k) 86 24 = nI n := by rw [eF]; exact e24'
        have i97 : hI (F k) 97 = hI M1 97 := by rw [eF]; rfl
        have o1 : (16 : Int32) * nI n + nI k = nI (16 * n + k) := by rw [show (16 : Int32) * nI n = nI (16 * n) from pk_mul 16 n, nI_add]
        unfold lb_X12_undo_26
        dsimp only
        rw [if_pos c1, g_86_0 (wF k), Option.bind_some, g_86_23 (wF k), Option.bind_some, w_gI (wF k) 86 11 24 rfl, Option.bind_some, i24, o1, aI_eq (wF k) 97 14 192 rfl (16 * n + k) (by omega) (by decide), Option.bind_some, i97, wI_eq (wF k) 87 16 rfl k (by omega) (by decide), Option.bind_some, nI_1, Option.bind_some]
        have : sI (F k) 87 k (hI M1 97 (16 * n + k)) = F (k + 1) := by
          rw [eF]
          dsimp only
          rw [sI_rI, cpy_s0]
        rw [this]
      · have c2 : ¬ nI 16 < 16 := by decide
        have i24 : hI (F 16) 86 24 = nI n := by rw [eF]; exact e24'
        unfold lb_X12_undo_26
        dsimp only
        rw [if_neg c2, w_gI (wF 16) 86 11 24 rfl, Option.bind_some, i24]
    have fF : Fr x87 M1 (F 16) := by rw [eF]; exact (Fr.refl _ M1).rI _ (fun _ => rfl)
    have XF : XM (F 16) 87 (Pp n) := by
      intro k hk
      rw [eF]
      dsimp only
      rw [hI_rI, if_pos rfl, cpy_i0 _ _ _ _ _ hk, m97]
      exact p97 n (by omega) k hk
    have fM : Fr acM M (F 16) := (gM0.trans gM1).trans (fF.mono x87_ac)
    refine ⟨nI n, C2, F 16, ?_, ?_, ⟨N, sem, Pp n, l, r'.act fC fM sy XF (VS_mono (by omega) (pv n (by omega))) ?_ ?_ ⟨n, Pp, ad, by omega, ⟨?_, fun i hi => ?_, p3, fun i hi => ?_⟩, ⟨?_, fun i hi k hk => ?_⟩, fun i hi => VS_mono (by omega) (pv i (by omega))⟩⟩, fC.mono acC_cls, fM.mono acM_mdl⟩
    · dsimp only
      unfold fn_X11_undo fn_X2_pop
      have r31 : hI C2 31 3 = nI n := by rw [t2.i 31 3 rfl, hI_sI]; simp
      have r32 : aR (sI C 31 3 (nI n)) 32 (nI n) = some (ad n) := by rw [aR_eq w1 32 12 rfl n (by omega) (by decide)]; exact a1
      have r33 : hI (sI C 31 3 (nI n)) 31 3 = nI n := by rw [hI_sI]; simp
      rw [g_0_10 w, Option.bind_some, g_0_7 w, Option.bind_some, k_31 w, Option.bind_some, w_gI w 31 1 3 rfl, Option.bind_some, p1, if_neg nz, Option.bind_some, nI_pred, w_pI w 31 1 3 _ rfl, Option.bind_some, g_31_0 w1, Option.bind_some, w_gI w1 31 1 3 rfl, Option.bind_some, r33, r32, Option.bind_some, k_22 w1, Option.bind_some, t1, Option.bind_some, w_gI w2 31 1 3 rfl, Option.bind_some, r31]
      rfl
    · dsimp only
      unfold fn_X12_undo
      rw [w_pI m 86 11 11 _ rfl, ← eM, Option.bind_some, w_gI m0 86 11 24 rfl, Option.bind_some, e24, if_neg nz, Option.bind_some, nI_pred, w_pI m0 86 11 24 _ rfl, ← eM1, Option.bind_some, lM, Option.bind_some]
    · exact (tc.to f1 rfl (fun _ => rfl)).to t2 rfl (fun _ => rfl)
    · refine ToM.to fF rfl (fun _ => rfl) ?_
      rw [eM1]
      exact t97.to ((Fr.refl psM M0).sI _ rfl) rfl (fun _ => rfl)
    · rw [t2.i 31 3 rfl, hI_sI]; simp
    · rw [t2.r 32 i (Or.inl rfl)]; exact p2 i hi
    · obtain ⟨z, hz, ez⟩ := (p2 i (by omega)).2
      have := p4 i (by omega)
      refine St_to t2 (fun j => ⟨by unfold tk; simp; omega, by unfold tk; simp; omega, by unfold tk; simp; omega⟩) ?_
      unfold St at this ⊢
      rw [hI_sI_r, if_neg (by omega), hI_sI_r, if_neg (by omega), hI_sI_r, if_neg (by omega)]
      exact this
    · rw [fF.i 86 24 rfl]; exact e24'
    · rw [fF.i 97 _ rfl, m97]; exact p97 i (by omega) k hk
