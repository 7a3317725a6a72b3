/-! basins as a step -/
section ADM
variable {T : Nat → Nat} {n : Nat} {N : Net} {sem : Sem} {x : XX} {h : aH}
def bsM (a j : Nat) : Bool := (a == 86 && (j == 1 || j == 3)) || a == 87
theorem bsM_tl (a j : Nat) (e : tlM a j = false) : bsM a j = false := by
  unfold tlM at e; unfold bsM; simp at e ⊢; omega
theorem addB_M {z : Net × XX} (m : Wf h) (V : NV z.1) (h6 : N_b z.1 < 6) (mn : MN z.1 h) (X : XM h 87 z.2) {j v1 : Nat} (hj : j < 7) (r : hI h 93 (3 * j) = nI (dg T n (4 * j)) ∧ hI h 93 (3 * j + 1) = nI (dg T n (4 * j + 1)) ∧ hI h 93 (3 * j + 2) = b2 (decide (T (4 * j + 2) = 33))) (hv : j < v1) (hv2 : v1 < 100) : ∃ h', lb_X12_basins_187 86 (nI v1) (nI j, h) = some (.inl (nI (j + 1), h')) ∧ Fr bsM h h' ∧ MN (ad1 T n j z).1 h' ∧ XM h' 87 (ad1 T n j z).2 := by
  obtain ⟨c1, c2, c3, c4⟩ := mn
  obtain ⟨r1, r2, r3⟩ := r
  obtain ⟨h61, e61⟩ : ∃ h61, h61 = sI (sI h 87 (N_b z.1) (nI (dg T n (4 * j)))) 87 (6 + N_b z.1) (nI (dg T n (4 * j + 1))) := ⟨_, rfl⟩
  have m56 : Wf (sI h 87 (N_b z.1) (nI (dg T n (4 * j)))) := m
  have m61 : Wf h61 := by rw [e61]; exact m
  obtain ⟨l', el'⟩ : ∃ l', l' = (if T (4 * j + 2) = 33 then N_l z.1 ||| 2 ^ N_b z.1 else N_l z.1) := ⟨_, rfl⟩
  have m67 : Wf (sI h61 86 3 (nI l')) := m61
  obtain ⟨q1, q2⟩ := lk_M (N_b z.1) h6 (N_l z.1) V.2.2.1
  have lk : (nI (N_l z.1) &&& (((1 : Int32) <<< (nI (N_b z.1) &&& 31)) ^^^ (-1))) ||| (b2 (decide (T (4 * j + 2) = 33)) <<< (nI (N_b z.1) &&& 31)) = nI l' := by
    rw [el']
    by_cases c : T (4 * j + 2) = 33
    · rw [decide_eq_true c, if_pos c]; exact q1
    · rw [decide_eq_false c, if_neg c]; exact q2
  have g61 : ∀ k, hI h61 86 k = hI h 86 k := fun k => by rw [e61]; rfl
  have g93 : ∀ k, hI h61 93 k = hI h 93 k := fun k => by rw [e61]; rfl
  have e3' : (3 : Int32) * nI j = nI (3 * j) := three j (by omega)
  have e31 : (nI (3 * j) : Int32) + 1 = nI (3 * j + 1) := nI_1 _
  have e32 : (nI (3 * j) : Int32) + 2 = nI (3 * j + 2) := nI_add _ 2
  have e6 : (6 : Int32) + nI (N_b z.1) = nI (6 + N_b z.1) := nI_add 6 _
  have up : ∀ k, k ≠ N_b z.1 → k ≠ 6 + N_b z.1 → (ad1 T n j z).2 k = z.2 k := by
    intro k a b
    show va_up (va_up z.2 (N_b z.1) _) (6 + N_b z.1) _ k = z.2 k
    unfold va_up
    rw [if_neg b, if_neg a]
  refine ⟨sI (sI h61 86 3 (nI l')) 86 1 (nI (N_b z.1 + 1)), ?_, ?_, ⟨by rw [hI_row, if_pos rfl]; rfl, ?_, ?_, fun i hi => ?_⟩, fun i hi => ?_⟩
  · have w1 := wI_eq m 87 16 rfl (N_b z.1) (by omega) (by decide) (nI (dg T n (4 * j)))
    have w2 := wI_eq m56 87 16 rfl (6 + N_b z.1) (by omega) (by decide) (nI (dg T n (4 * j + 1)))
    rw [← e61] at w2
    have g56 : ∀ k, hI (sI h 87 (N_b z.1) (nI (dg T n (4 * j)))) 86 k = hI h 86 k := fun k => rfl
    have g56' : ∀ k, hI (sI h 87 (N_b z.1) (nI (dg T n (4 * j)))) 93 k = hI h 93 k := fun k => rfl
    have g67 : hI (sI h61 86 3 (nI l')) 86 1 = nI (N_b z.1) := by rw [hI_row, if_neg (by decide), g61, c1]
    unfold lb_X12_basins_187
    dsimp only
    rw [if_pos (nI_lt hv (by omega))]
    simp only [g_86_0 m, w_gI m 86 11 1 rfl, c1, g_86_17 m, Option.bind_some, e3', aI_eq m 93 14 24 rfl (3 * j) (by omega) (by decide), r1, w1, g_86_0 m56, w_gI m56 86 11 1 rfl, g56, g_86_17 m56, e31, aI_eq m56 93 14 24 rfl (3 * j + 1) (by omega) (by decide), g56', r2, e6, w2, w_gI m61 86 11 3 rfl, w_gI m61 86 11 1 rfl, g61, c3, g_86_17 m61, e32, aI_eq m61 93 14 24 rfl (3 * j + 2) (by omega) (by decide), g93, r3, lk, w_pI m61 86 11 3 _ rfl, w_gI m67 86 11 1 rfl, g67, nI_1, w_pI m67 86 11 1 _ rfl]
  · rw [e61]
    exact ((((Fr.refl bsM h).sI _ rfl).sI _ rfl).sI _ rfl).sI _ rfl
  · rw [hI_row, if_neg (by decide), hI_row, if_neg (by decide), g61]; exact c2
  · rw [hI_row, if_neg (by decide), hI_row, if_pos rfl, el']; rfl
  · rw [e61]; exact c4 i hi
  · have r87 : hI (sI (sI h61 86 3 (nI l')) 86 1 (nI (N_b z.1 + 1))) 87 = va_up (va_up (hI h 87) (N_b z.1) (nI (dg T n (4 * j)))) (6 + N_b z.1) (nI (dg T n (4 * j + 1))) := by rw [e61]; rfl
    rw [r87]
    show _ = va_up (va_up z.2 (N_b z.1) _) (6 + N_b z.1) _ i
    unfold va_up
    by_cases a : i = 6 + N_b z.1
    · rw [if_pos a, if_pos a]
    · rw [if_neg a, if_neg a]
      by_cases b : i = N_b z.1
      · rw [if_pos b, if_pos b]
      · rw [if_neg b, if_neg b]; exact X i hi
theorem four : ∀ K, K < 20 → nI K * (4 : Int32) = nI (4 * K) := by decide +kernel
theorem stp_basins (c : Nat) (hc : c ≤ 64) : STEP c (fun C => fn_X11_basins C 0) (fun M => fn_X12_basins M 86) := by
  intro C M ⟨N, sem, x, l, r⟩
  have r' : WRL N sem x l c C M := r
  obtain ⟨V, v0, cw, mw, tc, tm, tx, pa, ke, se⟩ := r
  have w := cw.1
  have m := mw.1
  have h6 := V.1
  obtain ⟨n, T, hn, tC, t8, tT⟩ := txt_T tx
  obtain ⟨M0, eM⟩ : ∃ M0, M0 = sI M 86 11 0 := ⟨_, rfl⟩
  have m0 : Wf M0 := by rw [eM]; exact m
  have gM0 : Fr noM M M0 := by rw [eM]; exact (Fr.refl _ M).sI _ rfl
  obtain ⟨M1, b1, b2', b3, b4⟩ := beginText_M (T := T) (n := n) (top := 23) m0 (by rw [eM, hI_sI]; simp [t8]) hn (by decide) (fun i hi => by rw [eM]; exact tT i hi)
  have g1 : Fr noM M M1 := gM0.trans (b3.mono btM_no)
  have m1 := b2'.1
  have pM : pI M 86 11 11 0 = some M0 := by rw [eM]; exact w_pI m 86 11 11 _ rfl
  have b1' : fn_X12_beginText M0 86 23 = some M1 := b1
  have room : (6 : Int32) - nI (N_b N) = nI (6 - N_b N) := nI_sub (a := 6) h6
  have ws := wsl_eq w tC (st := stB T n) (v3 := 0) (lg := 23) (room := 6 - N_b N) (by decide) (by omega) (fun p hp => Or.inl ⟨rfl, standsB w tC hp⟩)
  have ws' : fn_X11_wrongSignOfLines C 0 23 (nI (6 - N_b N)) 0 = some (wrI (wres (stB T n) 23 (6 - N_b N) n)) := ws
  have g13 : gI M1 86 11 13 = some (nI n) := by rw [w_gI m1 86 11 13 rfl, b2'.2.2.1]
  have headC : fn_X11_basins C 0 = (((if wrI (wres (stB T n) 23 (6 - N_b N) n) = -1 then (idv (nI n + 1) 4).bind fun x16 => some x16 else some 0) : Option Int32).bind fun t5 => (lp (lb_X11_basins_41 0 (wrI (wres (stB T n) 23 (6 - N_b N) n)) t5) lpN (0, C)).bind fun o10 => (ck o10 0 10).bind fun _ => (fn_X11_endOfLines o10 0 (wrI (wres (stB T n) 23 (6 - N_b N) n)) t5).bind fun o13 => some (o13.1, o13.2)) := by
    unfold fn_X11_basins
    simp only [g_0_1 w, w_gI w 3 0 0 rfl, cw.2.1.1, Option.bind_some, k_0 w, room, ws', g_0_0 w, w_gI w 1 7 1 rfl, tC.2.1]
  have noC : ∀ wr : Option Nat, wr = wres (stB T n) 23 (6 - N_b N) n → (wr = none → n = 0) → ∃ C1, fn_X11_basins C 0 = some ((match wr with | none => nI 0 | some q => -1 - nI q), C1) ∧ Fr txC C C1 ∧ hI C1 1 1 = 0 := by
    intro wr hwr hn0
    have wle : ∀ q, wr = some q → q ≤ 80 := fun q e => by rw [hwr] at e; have := wres_le e; omega
    obtain ⟨C1, e1, -, e3, e4, -⟩ := endOfLines_eq (h := C) w wr wle (K := 0) (by decide)
    refine ⟨C1, ?_, (e4 rfl).mono (fun a j e => by unfold txC at e; simp at e; simp; omega), e3⟩
    rw [headC, ← hwr]
    have t5 : ((if wrI wr = -1 then (idv (nI n + 1) 4).bind fun x16 => some x16 else some 0) : Option Int32) = some (nI 0) := by
      cases wr with
      | none => rw [hn0 rfl]; rfl
      | some q =>
        show (if nI q = -1 then _ else some 0) = _
        rw [if_neg (nI_m1 (by have := wle q rfl; omega))]; rfl
    have loop : lp (lb_X11_basins_41 0 (wrI wr) (nI 0)) lpN (0, C) = some C := by
      refine lp_run (fun _ => (0, C)) 0 C (fun k hk => absurd hk (Nat.not_lt_zero _)) ?_ (by decide) rfl
      unfold lb_X11_basins_41
      rw [if_neg (show ¬ (0 : Int32) < nI 0 by decide)]
    rw [t5, Option.bind_some, loop, Option.bind_some, k_0 w, Option.bind_some, e1, Option.bind_some]
    cases wr <;> rfl
  by_cases n0 : n = 0
  · obtain ⟨C1, c1, c2, c3⟩ := noC none (by unfold wres; rw [if_pos n0]) (fun _ => n0)
    refine ⟨nI 0, C1, M1, c1, ?_, ⟨N, sem, x, l, r'.no c2 g1 (TxtR.none c3 b4)⟩, c2.mono txC_cls, g1.mono noM_mdl⟩
    show fn_X12_basins M 86 = _
    unfold fn_X12_basins
    simp only [pM, k_86 m0, Option.bind_some, b1', g13]
    rw [if_pos (show nI n = 0 by rw [n0]; rfl)]
    rfl
  · have hQ : ∀ K h h', Fr rdS h h' → QB T n (N_b N) K h → QB T n (N_b N) K h' := fun K h h' F q => q.to F
    have q0 : QB T n (N_b N) 0 M1 := ⟨(g1.i 86 1 rfl).trans mw.2.1.1, fun j hj => absurd hj (Nat.not_lt_zero _)⟩
    obtain ⟨o, o1, o2, L⟩ := lnRead (blk := blkB) (lg := 23) (room := 6 - N_b N) (st := stB T n) (Q := QB T n (N_b N)) (by omega) (by omega) (fun K hK => by omega) (fun p hp => by unfold stB; rw [if_neg (by omega), if_neg (by omega)]) hQ (fun K h hK h4 r q => blkB_ok h6 hK h4 r q) b2' q0
    have gO : Fr noM M o.2 := g1.trans (o2.mono rdL_no)
    have mO := gO.wf m
    have loopM : lp (lb_X12_basins_24 86) lpN (0, 1, M1) = some o := by
      have : lb_X12_basins_24 86 = lnG blkB := funext lbB
      rw [this]; exact o1
    have nn0 : ¬ nI n = 0 := fun q => n0 ((nI_eq (b := 0) (by omega) (by decide)).mp q)
    rcases lnRight (by omega) hQ L with ⟨K, k1, k2, k3, k4, k5, k6, k7, k8⟩ | ⟨wg, h', k1, k2, k3, k4⟩
    · have kb : N_b N + (K + 1) ≤ 6 := by omega
      -- the class adds
      obtain ⟨C2, e2, F2, cn2, S2⟩ : ∃ C2, lp (lb_X11_basins_41 0 (-1) (nI (K + 1))) lpN (0, C) = some C2 ∧ Fr bsC C C2 ∧ CN (adK T n (K + 1) (N, x)).1 C2 ∧ St C2 22 (adK T n (K + 1) (N, x)).2 := by
        refine lp_inv (fun k (s : Int32 × aH) => s.1 = nI k ∧ Fr bsC C s.2 ∧ CN (adK T n k (N, x)).1 s.2 ∧ St s.2 22 (adK T n k (N, x)).2) (fun C2 => Fr bsC C C2 ∧ CN (adK T n (K + 1) (N, x)).1 C2 ∧ St C2 22 (adK T n (K + 1) (N, x)).2) (K + 1) (by omega) ?_ ?_ ⟨rfl, Fr.refl _ _, cw.2.1, cw.2.2.1⟩
        · rintro k ⟨s1, g⟩ hk ⟨rfl, F, cn, S⟩
          dsimp only at F cn S
          have wg := F.wf w
          have tg : TxC T n g := ⟨tC.1, (F.i 1 1 rfl).trans tC.2.1, fun i hi => ⟨(tC.2.2 i hi).1, (F.i 2 i rfl).trans (tC.2.2 i hi).2⟩⟩
          obtain ⟨va, vb⟩ := adK_ok (T := T) (n := n) (z := (N, x)) V v0 k (by show N_b N + k ≤ 6; omega)
          obtain ⟨g', a1, a2, a3, a4⟩ := addB_C wg tg va (by rw [adK_b]; show N_b N + k < 6; omega) cn S (j := k) (by omega)
          refine Or.inl ⟨(nI (k + 1), g'), ?_, rfl, F.trans a2, a3, a4⟩
          unfold lb_X11_basins_41
          dsimp only
          rw [if_pos (nI_lt hk (by omega)), k_0 wg, Option.bind_some, four k (by omega), a1, Option.bind_some, nI_1, Option.bind_some]
        · rintro ⟨s1, g⟩ ⟨rfl, F, z⟩
          refine ⟨g, ?_, F, z⟩
          unfold lb_X11_basins_41
          rw [if_neg (nI_nlt (Nat.le_refl _) (by omega))]
      have w2 := F2.wf w
      obtain ⟨C3, e3, F3, e31, -, e33⟩ := endOfLines_eq (h := C2) w2 none (fun q e => by cases e) (K := K + 1) (by omega)
      obtain ⟨e34, e35, e36⟩ := e33 (by omega)
      -- the reference adds
      obtain ⟨M3, f3, G3, mn3, X3⟩ : ∃ M3, lp (lb_X12_basins_187 86 (nI (K + 1))) lpN (0, o.2) = some M3 ∧ Fr bsM o.2 M3 ∧ MN (adK T n (K + 1) (N, x)).1 M3 ∧ XM M3 87 (adK T n (K + 1) (N, x)).2 := by
        have mnO : MN N o.2 := by
          obtain ⟨z1, z2, z3, z4⟩ := mw.2.1
          refine ⟨(gO.i 86 1 rfl).trans z1, (gO.i 86 2 rfl).trans z2, (gO.i 86 3 rfl).trans z3, fun i hi => ?_⟩
          rw [gO.i 88 i rfl, gO.i 89 i rfl, gO.i 90 i rfl]
          exact z4 i hi
        refine lp_inv (fun k (s : Int32 × aH) => s.1 = nI k ∧ Fr bsM o.2 s.2 ∧ MN (adK T n k (N, x)).1 s.2 ∧ XM s.2 87 (adK T n k (N, x)).2) (fun C2 => Fr bsM o.2 C2 ∧ MN (adK T n (K + 1) (N, x)).1 C2 ∧ XM C2 87 (adK T n (K + 1) (N, x)).2) (K + 1) (by omega) ?_ ?_ ⟨rfl, Fr.refl _ _, mnO, XM.to gO (fun _ => rfl) mw.2.2.1⟩
        · rintro k ⟨s1, g⟩ hk ⟨rfl, F, mn, X⟩
          dsimp only at F mn X
          have mg := F.wf mO
          obtain ⟨va, vb⟩ := adK_ok (T := T) (n := n) (z := (N, x)) V v0 k (by show N_b N + k ≤ 6; omega)
          obtain ⟨g', a1, a2, a3, a4⟩ := addB_M (T := T) (n := n) mg va (by rw [adK_b]; show N_b N + k < 6; omega) mn X (j := k) (v1 := K + 1) (by omega) (by rw [F.i 93 _ rfl, F.i 93 _ rfl, F.i 93 _ rfl]; exact k6.2 k hk) hk (by omega)
          exact Or.inl ⟨(nI (k + 1), g'), a1, rfl, F.trans a2, a3, a4⟩
        · rintro ⟨s1, g⟩ ⟨rfl, F, z⟩
          refine ⟨g, ?_, F, z⟩
          unfold lb_X12_basins_187
          rw [if_neg (nI_nlt (Nat.le_refl _) (by omega))]
      have m3 := G3.wf mO
      obtain ⟨M4, f4, G4, q1, q2, q3, q4⟩ := told_M m3
      obtain ⟨Va, va⟩ := adK_ok (T := T) (n := n) (z := (N, x)) V v0 (K + 1) (by show N_b N + (K + 1) ≤ 6; omega)
      have fC : Fr tlC C C3 := (F2.mono bsC_tl).trans (F3.mono enC_tl)
      have gM : Fr tlM M M4 := (gO.mono noM_tl).trans ((G3.mono bsM_tl).trans G4)
      have cn3 : CN (adK T n (K + 1) (N, x)).1 C3 := by
        obtain ⟨z1, z2, z3, z4⟩ := cn2
        refine ⟨(F3.i 3 0 rfl).trans z1, (F3.i 3 1 rfl).trans z2, (F3.i 3 2 rfl).trans z3, fun i hi => ?_⟩
        rw [F3.i 4 i rfl, F3.i 5 i rfl, F3.i 6 i rfl]
        exact z4 i hi
      have mn4 : MN (adK T n (K + 1) (N, x)).1 M4 := by
        obtain ⟨z1, z2, z3, z4⟩ := mn3
        refine ⟨(q4 1 (by decide) (by decide)).trans z1, (q4 2 (by decide) (by decide)).trans z2, (q4 3 (by decide) (by decide)).trans z3, fun i hi => ?_⟩
        rw [q3 88 (by decide), q3 89 (by decide), q3 90 (by decide)]
        exact z4 i hi
      have X4 : XM M4 87 (adK T n (K + 1) (N, x)).2 := fun i hi => by rw [q3 87 (by decide)]; exact X3 i hi
      have m8 : hI M4 86 8 = 0 := by rw [q4 8 (by decide) (by decide), G3.i 86 8 rfl, o2.i 86 8 rfl]; exact b4
      have m46 : hI M4 86 46 = hI M 86 46 + 1 := by rw [q2, G3.i 86 46 rfl, gO.i 86 46 rfl]
      have hbb : N_b N ≤ N_b (adK T n (K + 1) (N, x)).1 := by rw [adK_b]; exact Nat.le_add_right _ _
      refine ⟨nI (K + 1), C3, M4, ?_, ?_, ⟨_, sem, _, l, WRL.tell hc r' fC gM Va hbb (VS_mono (by omega) va) cn3 (St_to F3 (fun j => ⟨rfl, rfl, rfl⟩) S2) mn4 X4 e31 m8 e34 q1 ⟨e35, e36⟩ m46⟩, fC.mono tlC_cls, gM.mono tlM_mdl⟩
      · show fn_X11_basins C 0 = _
        have e3' : fn_X11_endOfLines C2 0 (-1) (nI (K + 1)) = some (nI (K + 1), C3) := e3
        have idn : idv (nI n + 1) 4 = some (nI (K + 1)) := by rw [nI_1, idv4 (by omega), show (n + 1) / 4 = K + 1 by omega]
        rw [headC, k4]
        show (((if (-1 : Int32) = -1 then (idv (nI n + 1) 4).bind fun x16 => some x16 else some 0) : Option Int32).bind fun t5 => (lp (lb_X11_basins_41 0 (-1) t5) lpN (0, C)).bind fun o10 => (ck o10 0 10).bind fun _ => (fn_X11_endOfLines o10 0 (-1) t5).bind fun o13 => some (o13.1, o13.2)) = _
        rw [if_pos rfl, idn, Option.bind_some, Option.bind_some, e2, Option.bind_some, k_0 w2, Option.bind_some, e3', Option.bind_some]
      · show fn_X12_basins M 86 = _
        unfold fn_X12_basins
        simp only [pM, k_86 m0, Option.bind_some, b1', g13]
        rw [if_neg nn0]
        simp only [loopM, Option.bind_some, k_86 mO, k5]
        rw [if_neg one0, k3, f3, Option.bind_some, k_86 m3, Option.bind_some, f4, Option.bind_some]
    · obtain ⟨C1, c1, c2, c3⟩ := noC (some wg) k1.symm (fun q => by cases q)
      have gF : Fr noM M h' := gO.trans (k3.mono rdS_no)
      have m8 : hI h' 86 8 = 0 := by rw [k3.i 86 8 rfl, o2.i 86 8 rfl]; exact b4
      refine ⟨-1 - nI wg, C1, h', c1, ?_, ⟨N, sem, x, l, r'.no c2 gF (TxtR.none c3 m8)⟩, c2.mono txC_cls, gF.mono noM_mdl⟩
      show fn_X12_basins M 86 = _
      unfold fn_X12_basins
      simp only [pM, k_86 m0, Option.bind_some, b1', g13]
      rw [if_neg nn0]
      simp only [loopM, Option.bind_some, k_86 mO, k2]
      rw [if_pos trivial, k4, Option.bind_some]
end ADM
