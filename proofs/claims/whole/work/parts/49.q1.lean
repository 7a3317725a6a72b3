/-! questions: later, marked, busiest, high -/
theorem one0 : ¬ (1 : Int32) = 0 := by decide
theorem in_no {h : aH} {v a b : Int32} (e : v < a ∨ (¬ v < a ∧ ¬ v ≤ b)) : fn_X12_in h v a b = some 0 := by
  rw [in_eq]
  rcases e with e | ⟨e1, e2⟩
  · rw [if_pos e]
  · rw [if_neg e1, if_neg e2]
theorem in_yes {h : aH} {v a b : Int32} (e1 : ¬ v < a) (e2 : v ≤ b) : fn_X12_in h v a b = some 1 := by rw [in_eq, if_neg e1, if_pos e2]
theorem bas_cases {N : Net} {hC hM : aH} (wc : Wf hC) (C : CN N hC) (wm : Wf hM) (M : MN N hM) (V : NV N) (b : Int32) : (fn_X0_hasBasin hC 3 b = some 0 ∧ fn_X12_isBasin hM 86 b = some 0) ∨ ∃ k, k < N_b N ∧ b = nI k ∧ fn_X0_hasBasin hC 3 b = some 1 ∧ fn_X12_isBasin hM 86 b = some 1 := by
  have h6 := V.1
  rw [hasBasin_eq wc, isBasin_eq wm, C.1, M.1]
  rcases num_cases (N_b N) (by omega) b with ⟨c1, -⟩ | ⟨c1, c2, c3⟩ | ⟨c1, c2, c3, k, hk, rfl⟩
  · rw [if_pos c1, if_pos c1]; exact Or.inl ⟨rfl, rfl⟩
  · rw [if_neg c1, if_neg c1, if_neg c2, if_neg c3]; exact Or.inl ⟨rfl, rfl⟩
  · rw [if_neg c1, if_neg c1, if_pos c2, if_pos c3]; exact Or.inr ⟨k, hk, rfl, rfl, rfl⟩
theorem slu_cases {N : Net} {hC hM : aH} (wc : Wf hC) (C : CN N hC) (wm : Wf hM) (M : MN N hM) (V : NV N) (b : Int32) : (fn_X0_hasSluice hC 3 b = some 0 ∧ fn_X12_isSluice hM 86 b = some 0) ∨ ∃ k, k < N_s N ∧ b = nI k ∧ fn_X0_hasSluice hC 3 b = some 1 ∧ fn_X12_isSluice hM 86 b = some 1 := by
  have h8 := V.2.1
  rw [hasSluice_eq wc, isSluice_eq wm, C.2.1, M.2.1]
  rcases num_cases (N_s N) (by omega) b with ⟨c1, -⟩ | ⟨c1, c2, c3⟩ | ⟨c1, c2, c3, k, hk, rfl⟩
  · rw [if_pos c1, if_pos c1]; exact Or.inl ⟨rfl, rfl⟩
  · rw [if_neg c1, if_neg c1, if_neg c2, if_neg c3]; exact Or.inl ⟨rfl, rfl⟩
  · rw [if_neg c1, if_neg c1, if_pos c2, if_pos c3]; exact Or.inr ⟨k, hk, rfl, rfl, rfl⟩
section Q1
variable {N : Net} {sem : Sem} {x : XX} {l : List Int64} {hC hM : aH}
theorem q_later (V : NV N) (v : VS N MH x) (cw : CW N sem x hC) (mw : MW N sem x hM) (tc : ToC hC l) (tm : ToM hM l) (b n : Int32) : QR (fn_X11_later hC 0 b n) (fn_X12_later hM 86 b n) hC hM := by
  have h6 := V.1
  obtain ⟨h1, p1, F1, mw1, tm1⟩ := thr0 mw tm
  have wc := cw.1
  have w1 := mw1.1
  rcases bas_cases wc cw.2.1 w1 mw1.2.1 V b with ⟨a1, a2⟩ | ⟨c, hc, rfl, a1, a2⟩
  · refine QR.no tc F1 tm1 (-1) ?_ ?_
    · unfold fn_X11_later; simp only [g_0_1 wc, k_3 wc, Option.bind_some, a1, if_true]
    · unfold fn_X12_later; simp only [p1, k_86 w1, Option.bind_some, a2, if_true]
  rcases int_cases 99 (by decide) n with ⟨c1, -⟩ | ⟨c1, c2⟩ | ⟨c1, c2, m, hm, rfl⟩
  · refine QR.no tc F1 tm1 (-1) ?_ ?_
    · unfold fn_X11_later; simp only [g_0_1 wc, k_3 wc, Option.bind_some, a1, if_neg one0, if_pos c1]
    · unfold fn_X12_later; simp only [p1, k_86 w1, Option.bind_some, a2, if_neg one0, in_no (Or.inl c1), if_true]
  · replace c2 : ¬ n ≤ 99 := c2
    refine QR.no tc F1 tm1 (-1) ?_ ?_
    · unfold fn_X11_later; simp only [g_0_1 wc, k_3 wc, Option.bind_some, a1, if_neg one0, if_neg c1, if_neg c2]
    · unfold fn_X12_later; simp only [p1, k_86 w1, Option.bind_some, a2, if_neg one0, in_no (Or.inr ⟨c1, c2⟩), if_true]
  · replace c2 : nI m ≤ 99 := c2
    obtain ⟨C1, f1, G1, r1⟩ := RC.start cw tc V v
    obtain ⟨C2, f2, G2, r2⟩ := r1.run (n := m) (by omega)
    obtain ⟨C3, f3, G3, r3⟩ := r2.begin
    have s3 := together_eq r3.w r3.1.2.1 V (Or.inr rfl) r3.2.1.1
    obtain ⟨C4, f4, G4, r4⟩ := r3.add (by decide) (Int32.toInt64 (sumI (N_b N) (hrs N sem m (x, 0, 0, zer)).1))
    obtain ⟨C5, f5, G5, r5⟩ := r4.add (by simp) (Int32.toInt64 ((hrs N sem m (x, 0, 0, zer)).1 12))
    obtain ⟨M2, g2, H2, q2⟩ := goThen_eq mw1 tm1 V v (n := m) (by omega)
    obtain ⟨M3, g3, H3, q3⟩ := q2.begin
    have t3 := sumOf0_eq q3.w q3.1.2.1 V (Or.inr rfl) q3.2.1.1
    obtain ⟨M4, g4, H4, q4⟩ := q3.tell (by decide) (Int32.toInt64 (sumI (N_b N) (hrs N sem m (x, 0, 0, zer)).1))
    obtain ⟨M5, g5, H5, q5⟩ := q4.tell (by simp) (Int32.toInt64 ((hrs N sem m (x, 0, 0, zer)).1 12))
    have on4 : gI C4 28 6 2 = some ((hrs N sem m (x, 0, 0, zer)).1 12) := by rw [w_gI r4.w 28 6 2 rfl]; exact congrArg some r4.2.1.1.2.2.1
    have on5 : aI M4 99 14 12 = some ((hrs N sem m (x, 0, 0, zer)).1 12) := q4.lv (c := 12) (by decide)
    refine ⟨(hrs N sem m (x, 0, 0, zer)).1 c, C5, M5, _, ?_, ?_, G1.trans (G2.trans (G3.trans (G4.trans G5))), F1.trans (H2.trans (H3.trans (H4.trans H5))), r5.2.2.1, q5.2.2.1⟩
    · unfold fn_X11_later
      simp only [g_0_1 wc, k_3 wc, k_0 wc, Option.bind_some, a1, if_neg one0, if_neg c1, if_pos c2, f1, g_0_1 r1.w, g_0_9 r1.w, g_0_4 r1.w, k_3 r1.w, f2, g_0_11 r2.w, k_77 r2.w, f3, g_0_11 r3.w, g_0_9 r3.w, k_0 r3.w, s3, k_77 r3.w, f4, g_0_11 r4.w, g_0_9 r4.w, on4, k_77 r4.w, f5, g_0_9 r5.w, g_28_0 r5.w, r5.lv (show c < 6 by omega)]
    · unfold fn_X12_later
      simp only [p1, k_86 w1, Option.bind_some, a2, if_neg one0, in_yes c1 c2, g2, g3, g_86_26 q3.w, k_86 q3.w, t3, g4, g_86_26 q4.w, on5, k_86 q4.w, g5, g_86_26 q5.w, q5.lv (show c < 16 by omega)]
set_option maxHeartbeats 1000000 in
theorem q_marked (V : NV N) (v : VS N MH x) (cw : CW N sem x hC) (mw : MW N sem x hM) (tc : ToC hC l) (tm : ToM hM l) (b : Int32) : QR (fn_X11_marked hC 0 b) (fn_X12_marked hM 86 b) hC hM := by
  have h6 := V.1
  obtain ⟨h1, p1, F1, mw1, tm1⟩ := thr0 mw tm
  have wc := cw.1
  have w1 := mw1.1
  rcases bas_cases wc cw.2.1 w1 mw1.2.1 V b with ⟨a1, a2⟩ | ⟨c, hc, rfl, a1, a2⟩
  · refine QR.no tc F1 tm1 (-1) ?_ ?_
    · unfold fn_X11_marked; simp only [g_0_1 wc, k_3 wc, Option.bind_some, a1, if_true]
    · unfold fn_X12_marked; simp only [p1, k_86 w1, Option.bind_some, a2, if_true]
  obtain ⟨C1, f1, G1, r1⟩ := RC.start cw tc V v
  obtain ⟨M2, zm, g2, H2, q2, ez⟩ := RM.lay mw1 tm1 V v
  refine Exists.elim (lp_two (b1 := lb_X11_marked_25 0 (nI c)) (b2 := lb_X12_marked_35 86 (nI c))
    (fun i s t => ∃ zc zm, s.1 = t.1 ∧ s.2.1 = t.2.1 ∧ s.2.2.1 = nI i ∧ t.2.2.1 = nI i ∧ Fr sc hC s.2.2.2 ∧ Fr sm hM t.2.2.2 ∧ RC N sem x l i s.2.2.2 zc ∧ RM N sem x l i t.2.2.2 zm ∧ zc.1 = zm.1)
    (fun s t => s.1 = t.1 ∧ s.2.1 = t.2.1 ∧ ∃ zc zm, Fr sc hC s.2.2 ∧ Fr sm hM t.2.2 ∧ RC N sem x l 100 s.2.2 zc ∧ RM N sem x l 100 t.2.2 zm) 100 (by decide) ?_ ?_ (s0 := (-2, 0, 0, C1)) (t0 := (-2, 0, 0, M2)) ⟨_, _, rfl, rfl, rfl, rfl, G1, F1.trans H2, r1, q2, ez.symm⟩) ?_
  · rintro i ⟨s1, s2, s3, C⟩ ⟨t1, t2, t3, M⟩ hi ⟨zc, zm, rfl, rfl, rfl, rfl, GC, GM, rC, rM, ezz⟩
    dsimp only at GC GM rC rM
    obtain ⟨C', fp, Gp, rp⟩ := rC.pass
    obtain ⟨M', gp, Hp, qp⟩ := rM.pass (by omega)
    have ia := isAtMark_eq rC.w (Or.inr rfl) rC.2.1.1 (show c < 6 by omega)
    have ib := isMarked_eq rM.w (Or.inr rfl) rM.2.1.1 (show c < 6 by omega)
    have ci : nI i ≤ 99 := nI_le (b := 99) (by omega) (by decide)
    rw [ezz] at ia
    refine Or.inl ?_
    by_cases mk : mkd zm.1 c = true
    · rw [mk] at ia ib
      have nb : ¬ b2 true = 0 := by decide
      by_cases d : s1 = -2
      · refine ⟨(nI i, s2 + 1, nI (i + 1), C'), (nI i, s2 + 1, nI (i + 1), M'), ?_, ?_, _, _, rfl, rfl, rfl, rfl, GC.trans Gp, GM.trans Hp, rp, qp, by rw [hrZ_x, hrZ_x, ezz]⟩
        · unfold lb_X11_marked_25
          simp only [if_pos ci, g_0_9 rC.w, k_28 rC.w, Option.bind_some, ia, if_neg nb, if_pos d, g_0_1 rC.w, g_0_4 rC.w, k_3 rC.w, fp, nI_1]
        · unfold lb_X12_marked_35
          simp only [if_pos ci, g_86_26 rM.w, k_86 rM.w, Option.bind_some, ib, if_neg nb, if_pos d, gp, nI_1]
      · refine ⟨(s1, s2 + 1, nI (i + 1), C'), (s1, s2 + 1, nI (i + 1), M'), ?_, ?_, _, _, rfl, rfl, rfl, rfl, GC.trans Gp, GM.trans Hp, rp, qp, by rw [hrZ_x, hrZ_x, ezz]⟩
        · unfold lb_X11_marked_25
          simp only [if_pos ci, g_0_9 rC.w, k_28 rC.w, Option.bind_some, ia, if_neg nb, if_neg d, g_0_1 rC.w, g_0_4 rC.w, k_3 rC.w, fp, nI_1]
        · unfold lb_X12_marked_35
          simp only [if_pos ci, g_86_26 rM.w, k_86 rM.w, Option.bind_some, ib, if_neg nb, if_neg d, gp, nI_1]
    · have mk' : mkd zm.1 c = false := by simpa using mk
      rw [mk'] at ia ib
      have nb : b2 false = 0 := rfl
      refine ⟨(s1, s2, nI (i + 1), C'), (s1, s2, nI (i + 1), M'), ?_, ?_, _, _, rfl, rfl, rfl, rfl, GC.trans Gp, GM.trans Hp, rp, qp, by rw [hrZ_x, hrZ_x, ezz]⟩
      · unfold lb_X11_marked_25
        simp only [if_pos ci, g_0_9 rC.w, k_28 rC.w, Option.bind_some, ia, if_pos nb, g_0_1 rC.w, g_0_4 rC.w, k_3 rC.w, fp, nI_1]
      · unfold lb_X12_marked_35
        simp only [if_pos ci, g_86_26 rM.w, k_86 rM.w, Option.bind_some, ib, if_pos nb, gp, nI_1]
  · rintro ⟨s1, s2, s3, C⟩ ⟨t1, t2, t3, M⟩ ⟨zc, zm, rfl, rfl, rfl, rfl, GC, GM, rC, rM, ezz⟩
    refine ⟨(s1, s2, C), (s1, s2, M), ?_, ?_, rfl, rfl, zc, zm, GC, GM, rC, rM⟩
    · unfold lb_X11_marked_25
      rw [if_neg (show ¬ nI 100 ≤ 99 by decide)]
    · unfold lb_X12_marked_35
      rw [if_neg (show ¬ nI 100 ≤ 99 by decide)]
  · rintro oC ⟨oM, eC, eM, fi, ti, zc, zm, GC, GM, rC, rM⟩
    by_cases d : oC.1 = -2
    · refine ⟨-2, oC.2.2, oM.2.2, l, ?_, ?_, GC, GM, rC.2.2.1, rM.2.2.1⟩
      · unfold fn_X11_marked
        simp only [g_0_1 wc, k_3 wc, k_0 wc, Option.bind_some, a1, if_neg one0, f1, eC, if_pos d, d, if_true]
      · unfold fn_X12_marked
        simp only [p1, k_86 w1, Option.bind_some, a2, if_neg one0, g_86_0 w1, g_86_26 w1, g2, eM, ← fi, if_pos d, d, if_true]
    · obtain ⟨C3, f3, G3, r3⟩ := rC.begin
      obtain ⟨C4, f4, G4, r4⟩ := r3.add (by decide) (Int32.toInt64 oC.2.1)
      obtain ⟨M3, g3, H3, q3⟩ := rM.begin
      obtain ⟨M4, g4, H4, q4⟩ := q3.tell (by decide) (Int32.toInt64 oC.2.1)
      refine ⟨oC.1, C4, M4, _, ?_, ?_, GC.trans (G3.trans G4), GM.trans (H3.trans H4), r4.2.2.1, q4.2.2.1⟩
      · unfold fn_X11_marked
        simp only [g_0_1 wc, k_3 wc, k_0 wc, Option.bind_some, a1, if_neg one0, f1, eC, if_neg d, g_0_11 rC.w, k_77 rC.w, f3, g_0_11 r3.w, k_77 r3.w, f4]
      · unfold fn_X12_marked
        simp only [p1, k_86 w1, Option.bind_some, a2, if_neg one0, g_86_0 w1, g_86_26 w1, g2, eM, ← fi, ← ti, if_neg d, g3, k_86 q3.w, g4]
end Q1
