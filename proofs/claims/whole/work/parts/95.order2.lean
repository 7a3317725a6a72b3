/-! order: both sides tell the same -/
section ORD3
variable {N : Net} {sem : Sem} {x : XX} {l : List Int64} {C M : aH}
theorem begin9_eq {h : aH} (w : Wf h) {n : Nat} (hn : n ≤ 6) : ∃ h', fn_X9_begin h 11 (nI n) = some h' ∧ Fr odC h h' ∧ hI h' 11 2 = nI n ∧ ∀ i, i < n → hI h' 12 i = nI i := by
  have em : mn (nI n) 6 = nI n := by
    have := mn_nI (a := n) (b := 6) (by omega) (by decide)
    rw [Nat.min_eq_left hn] at this
    exact this
  obtain ⟨h', e, F, q1, q2⟩ : ∃ h', lp (lb_X9_begin_12 11) lpN (0, sI h 11 2 (nI n)) = some h' ∧ Fr odC h h' ∧ hI h' 11 2 = nI n ∧ ∀ i, i < n → hI h' 12 i = nI i := by
    refine lp_inv (fun k (s : Int32 × aH) => s.1 = nI k ∧ Fr odC h s.2 ∧ hI s.2 11 2 = nI n ∧ ∀ i, i < k → hI s.2 12 i = nI i) _ n (by omega) ?_ ?_ ⟨rfl, (Fr.refl _ _).sI _ rfl, by rw [hI_row, if_pos rfl], fun i h => absurd h (Nat.not_lt_zero _)⟩
    · rintro k ⟨s1, g⟩ hk ⟨rfl, F, q1, q2⟩
      dsimp only at F q1 q2
      have wg := F.wf w
      have wg2 : Wf (sI g 12 k (nI k)) := wg
      refine Or.inl ⟨(nI (k + 1), sI (sI g 12 k (nI k)) 13 k (nI k)), ?_, rfl, (F.sI _ rfl).sI _ rfl, ?_, fun i hi => ?_⟩
      · unfold lb_X9_begin_12
        simp only [w_gI wg 11 8 2 rfl, q1, Option.bind_some, if_pos (nI_lt hk (show n < 2 ^ 31 by omega)), g_11_0 wg, wI_eq wg 12 6 rfl k (by omega) (by decide), g_11_1 wg2, wI_eq wg2 13 6 rfl k (by omega) (by decide), nI_1]
      · dsimp only; rw [hI_sI_r, if_neg (by decide), hI_sI_r, if_neg (by decide)]; exact q1
      · dsimp only
        rw [hI_sI_r, if_neg (by decide), hI_row]
        by_cases q : i = k
        · rw [if_pos q, q]
        · rw [if_neg q]; exact q2 i (by omega)
    · rintro ⟨s1, g⟩ ⟨rfl, F, q⟩
      dsimp only at F q
      have wg := F.wf w
      refine ⟨g, ?_, F, q⟩
      unfold lb_X9_begin_12
      simp only [w_gI wg 11 8 2 rfl, q.1, Option.bind_some, if_neg (nI_nlt (Nat.le_refl n) (show n < 2 ^ 31 by omega))]
  refine ⟨h', ?_, F, q1, q2⟩
  unfold fn_X9_begin
  simp only [em, w_pI w 11 8 2 _ rfl, Option.bind_some, e]
theorem tellsC {h : aH} (w : Wf h) (G : List Nat) {n : Nat} (hn : n ≤ 6) (hG : G.length = n) (v2 : Int32) (t : ToC h []) (R : ∀ i, i < n → hI h 13 i = nI (G.getD i 0)) : ∃ h', lp (lb_X11_order_92 0 (nI n) v2) lpN (0, h) = some h' ∧ Fr stC h h' ∧ ToC h' (G.map tl) := by
  refine lp_inv (fun k (s : Int32 × aH) => s.1 = nI k ∧ Fr stC h s.2 ∧ ∃ l', ToC s.2 l' ∧ l'.length = k ∧ l' ++ (G.drop k).map tl = G.map tl) (fun h' => Fr stC h h' ∧ ToC h' (G.map tl)) n (by omega) ?_ ?_ ⟨rfl, Fr.refl _ _, [], t, rfl, rfl⟩
  · rintro k ⟨s1, g⟩ hk ⟨rfl, F, l', t', hl', el⟩
    dsimp only at F t'
    have wg := F.wf w
    obtain ⟨g', ea, Fa, ta⟩ := toldAdd wg t' (by omega) (tl (G.getD k 0))
    have ea' : fn_X3_add g 77 (Int32.toInt64 (nI (G.getD k 0))) = some g' := ea
    refine Or.inl ⟨(nI (k + 1), g'), ?_, rfl, F.trans Fa, _, ta, by simp [hl'], ?_⟩
    · unfold lb_X11_order_92
      simp only [if_pos (nI_lt hk (show n < 2 ^ 31 by omega)), g_0_11 wg, g_0_3 wg, g_11_1 wg, Option.bind_some, aI_eq wg 13 14 6 rfl k (by omega) (by decide), F.i 13 k rfl, R k hk, k_77 wg, ea', nI_1]
    · rw [← el, List.drop_eq_getElem_cons (i := k) (l := G) (by omega), List.append_assoc]
      have : G.getD k 0 = G[k]'(by omega) := by simp [show k < G.length by omega]
      rw [this]
      rfl
  · rintro ⟨s1, g⟩ ⟨rfl, F, l', t', hl', el⟩
    dsimp only at F t'
    rw [List.drop_of_length_le (by omega), List.map_nil, List.append_nil] at el
    refine ⟨g, ?_, F, by rw [← el]; exact t'⟩
    unfold lb_X11_order_92
    rw [if_neg (nI_nlt (Nat.le_refl n) (show n < 2 ^ 31 by omega))]
theorem orderM_tells (w : Wf M) (G : List Nat) {n : Nat} (hn : n ≤ 8) (hG : G.length = n) (t : ToM M []) {v : Int32} (hb : hI M 86 43 = v) (R : ∀ i, i < n → hI M 111 i = nI (G.getD i 0)) : ∃ M', lp (lb_X12_order_34 86 (nI n)) lpN (0, M) = some (v, M') ∧ Fr stM M M' ∧ ToM M' (G.map tl) := by
  obtain ⟨⟨r, M'⟩, e, e1, F, T⟩ : ∃ r : Int32 × aH, lp (lb_X12_order_34 86 (nI n)) lpN (0, M) = some r ∧ r.1 = v ∧ Fr stM M r.2 ∧ ToM r.2 (G.map tl) := by
    refine lp_inv (fun k (s : Int32 × aH) => s.1 = nI k ∧ Fr stM M s.2 ∧ ∃ l', ToM s.2 l' ∧ l'.length = k ∧ l' ++ (G.drop k).map tl = G.map tl) _ n (by omega) ?_ ?_ ⟨rfl, Fr.refl _ _, [], t, rfl, rfl⟩
    · rintro k ⟨s1, h⟩ hk ⟨rfl, F, l', t', hl', el⟩
      dsimp only at F t'
      left
      have wf := F.wf w
      obtain ⟨h', ea, Fa, l2, ta, hl2, el2⟩ := tells_M w G hn hG t R k (by omega) h F l' t' hl' el hk
      refine ⟨(nI (k + 1), h'), ?_, rfl, Fa, l2, ta, hl2, el2⟩
      unfold lb_X12_order_34
      simp only [if_pos (nI_lt hk (show n < 2 ^ 31 by omega)), g_86_41 wf, Option.bind_some, aI_eq wf 111 14 8 rfl k (by omega) (by decide), k_86 wf, ea, nI_1]
    · rintro ⟨s1, h⟩ ⟨rfl, F, l', t', hl', el⟩
      dsimp only at F t'
      have wf := F.wf w
      rw [List.drop_of_length_le (by omega), List.map_nil, List.append_nil] at el
      refine ⟨(v, h), ?_, rfl, F, by rw [← el]; exact t'⟩
      unfold lb_X12_order_34
      simp only [w_gI wf 86 11 43 rfl, (F.i 86 43 rfl).trans hb, Option.bind_some, if_neg (nI_nlt (Nat.le_refl n) (show n < 2 ^ 31 by omega))]
  dsimp only at e1 F T
  subst e1
  exact ⟨M', e, F, T⟩
theorem oup_mem {e : List Nat → Nat} : ∀ (L : List (List Nat)) (b : Nat × List Nat), (L.foldl (oup e) b).2 ∈ L ∨ L.foldl (oup e) b = b
  | [], b => Or.inr rfl
  | p :: L, b => by
    show (L.foldl (oup e) (oup e b p)).2 ∈ p :: L ∨ L.foldl (oup e) (oup e b p) = b
    rcases oup_mem L (oup e b p) with h | h
    · exact Or.inl (List.mem_cons_of_mem _ h)
    · rw [h]
      unfold oup
      split
      · exact Or.inr rfl
      · exact Or.inl (List.mem_cons_self ..)
theorem q_order (w : WW N sem x l C M) : QR (fn_X11_order C 0) (fn_X12_order M 86) C M := by
  obtain ⟨M1, p1, F1, w1⟩ := w.thr
  have h6 := w.v.1
  have h8 := w.v.2.1
  have V := w.v
  have wc := w1.wc
  have wm := w1.wm
  obtain ⟨n, hN⟩ : ∃ n, n = min (N_s N) 6 := ⟨_, rfl⟩
  have hn : n ≤ 6 := by omega
  have hns : n ≤ N_s N := by omega
  have em : mn (nI (N_s N)) 6 = nI n := by
    have := mn_nI (a := N_s N) (b := 6) (by omega) (by decide)
    rw [hN]; exact this
  have em' : mn 6 (nI (N_s N)) = nI n := by
    have := mn_nI (a := 6) (b := N_s N) (by decide) (by omega)
    rw [Nat.min_comm] at this
    rw [hN]; exact this
  obtain ⟨C2, e2, G2, s2, R2⟩ := begin9_eq wc hn
  have cw2 := w1.1.to (G2.mono odC_sc)
  obtain ⟨pl, p0, pr⟩ := perm_len n (by omega)
  have RT : TR ((permL n).getD 0 []) C2 := by
    rw [pr]
    intro i hi
    have hi : i < n := by simpa using hi
    rw [R2 i hi]
    congr 1
    simp [hi]
  obtain ⟨C3, e3, G3, B3⟩ := orderC V cw2 hn hns s2 RT
  have p2 := w_pI wm 86 11 43 (-1) rfl
  have F2 : Fr odM M1 (sI M1 86 43 (-1)) := (Fr.refl _ _).sI _ rfl
  have mw2 := w1.2.1.to (F2.mono odM_sm)
  have BM : BR n (0, []) (sI M1 86 43 (-1)) := ⟨Nat.zero_le _, by rw [hI_row, if_pos rfl]; rfl, fun q => absurd rfl q⟩
  obtain ⟨M3, e3', F3, -, B3'⟩ := searchM V hn hns n 10 (sI M1 86 43 (-1)) [] (0, []) 0 (by simp) (by omega) mw2 (fun i hi => absurd hi (Nat.not_lt_zero _)) (fun i hi => absurd hi (Nat.not_lt_zero _)) (fun s _ => by rw [Nat.zero_testBit]; rfl) BM
  have epos : 1 ≤ ((permL n).foldl (oup (ev N x)) (0, [])).1 := oup_pos _ _ (Or.inl p0)
  have ev2 : vis n n [] = permL n := rfl
  rw [ev2] at B3'
  have blen : ((permL n).foldl (oup (ev N x)) (0, [])).2.length = n := by
    rcases oup_mem (e := ev N x) (permL n) (0, []) with h | h
    · have q := List.all_eq_true.mp (perm_ok n (by omega)) _ h
      rw [Bool.and_eq_true] at q
      exact beq_iff_eq.mp q.1
    · rw [h] at epos
      exact absurd epos (by decide)
  generalize (permL n).foldl (oup (ev N x)) (0, []) = b at *
  have w3 : WW N sem x l C3 M3 := by
    have a := w1.toC (G2.trans G3) odC_sc rfl (fun _ => rfl)
    exact a.toM (F2.trans F3) odM_sm rfl (fun _ => rfl)
  obtain ⟨C4, M4, e4, e4', G4, H4, w4⟩ := w3.begin
  obtain ⟨C5, e5, G5, t5⟩ := tellsC w4.wc b.2 hn blen (nI b.1 - 1) w4.2.2.1 (fun i hi => (G4.i 13 i rfl).trans (B3.2 (by omega) i hi))
  obtain ⟨M5, e5', H5, t5'⟩ := orderM_tells w4.wm b.2 (by omega) blen w4.2.2.2.1 ((H4.i 86 43 rfl).trans B3'.2.1) (fun i hi => (H4.i 111 i rfl).trans (B3'.2.2 (by omega) i hi))
  have mx0 : mx 0 (nI b.1 - 1) = nI b.1 - 1 := by
    have l1 := B3.1
    have : ∀ m, m < 10 → 1 ≤ m → mx 0 (nI m - 1) = nI m - 1 := by decide +kernel
    exact this b.1 (by omega) epos
  refine ⟨nI b.1 - 1, C5, M5, _, ?_, ?_, ((G2.trans G3).mono odC_sc).trans ((G4.trans G5).mono stC_sc), F1.trans (((F2.trans F3).mono odM_sm).trans ((H4.trans H5).mono stM_sm)), t5, t5'⟩
  · unfold fn_X11_order
    simp only [g_0_1 wc, w_gI wc 3 0 1 rfl, w1.cn.2.1, Option.bind_some, em, g_0_3 wc, k_11 wc, e2, e3, g_0_11 w3.wc, k_77 w3.wc, e4, e5, mx0]
  · unfold fn_X12_order
    simp only [p1, w_gI wm 86 11 2 rfl, w1.mn.2.1, Option.bind_some, em', p2, k_86 mw2.1]
    have e3'' : fn_X12_goOrder 10 (sI M1 86 43 (-1)) 86 0 (nI n) 0 = some M3 := e3'
    simp only [e3'', Option.bind_some, e4', e5']
theorem stp_order {c : Nat} (hc : c ≤ 64) : STEP c (fun h => fn_X11_order h 0) (fun h => fn_X12_order h 86) := STEP.of hc fun N sem x l C M w _ => q_order w
end ORD3
