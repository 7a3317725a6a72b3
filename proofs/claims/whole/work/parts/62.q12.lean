/-! questions: busiest, high -/
section Q12
variable {N : Net} {sem : Sem} {x : XX} {l : List Int64} {C M : aH}
theorem q_busiest (w : WW N sem x l C M) (n : Int32) : QR (fn_X11_busiest C 0 n) (fn_X12_busiest M 86 n) C M := by
  have h8 := w.v.2.1
  have sN : N_s N < 2 ^ 31 := by omega
  obtain ⟨M1, p1, F1, w1⟩ := w.thr
  have wc := w1.wc
  have wm := w1.wm
  have no : ∀ {oM} (r : Int32), fn_X11_busiest C 0 n = some (r, C) → oM = some (r, M1) → QR (fn_X11_busiest C 0 n) oM C M := fun r e1 e2 => w1.qr r e1 e2 (Fr.refl _ _) F1
  by_cases c1 : n < 1
  · refine no (-1) ?_ ?_
    · unfold fn_X11_busiest; simp only [if_pos c1]
    · unfold fn_X12_busiest; simp only [p1, Option.bind_some, in_no (Or.inl c1), if_true]
  by_cases c2 : ¬ n ≤ 99
  · refine no (-1) ?_ ?_
    · unfold fn_X11_busiest; simp only [if_neg c1, if_neg c2]
    · unfold fn_X12_busiest; simp only [p1, Option.bind_some, in_no (Or.inr ⟨c1, c2⟩), if_true]
  have c2 := Decidable.not_not.mp c2
  have n0 : ¬ n < 0 := fun q => c1 (by
    have a := Int32.lt_iff_toInt_lt.mp q
    apply Int32.lt_iff_toInt_lt.mpr
    have : (1 : Int32).toInt = 1 := by decide
    have : (0 : Int32).toInt = 0 := by decide
    omega)
  obtain ⟨m, hm, rfl⟩ := nI_of2 (x := n) (M := 99) (n := 99) (by decide) n0 c2
  by_cases s0 : N_s N = 0
  · have z : nI (N_s N) = 0 := by rw [s0]; rfl
    refine no (-2) ?_ ?_
    · unfold fn_X11_busiest; simp only [if_neg c1, if_pos c2, g_0_1 wc, Option.bind_some, w_gI wc 3 0 1 rfl, w1.cn.2.1, if_pos z]
    · unfold fn_X12_busiest; simp only [p1, Option.bind_some, in_yes c1 c2, if_neg one0, w_gI wm 86 11 2 rfl, w1.mn.2.1, if_pos z]
  have z : ¬ nI (N_s N) = 0 := nI_ne0 (by omega) (by omega)
  obtain ⟨C1, f1, G1, r1⟩ := RC.start w1.1 w1.2.2.1 w.v w.2.2.2.2.2
  obtain ⟨C2, f2, G2, r2⟩ := r1.run (n := m) (by omega)
  obtain ⟨M2, g2, H2, q2⟩ := goThen_eq w1.2.1 w1.2.2.2.1 w.v w.2.2.2.2.2 (n := m) (by omega)
  obtain ⟨zz, ezz⟩ : ∃ zz, zz = hrs N sem m (x, 0, 0, zer) := ⟨_, rfl⟩
  rw [← ezz] at r2 q2
  have aC : ∀ i, i < N_s N → aI C2 7 14 (nI i) = some (zz.2.2.2 i) := fun i hi => by rw [aI_eq r2.w 7 14 8 rfl i (by omega) (by decide), r2.2.1.2.2.2 i (by omega)]
  have aM : ∀ i, i < N_s N → aI M2 100 14 (nI i) = some (zz.2.2.2 i) := fun i hi => by rw [aI_eq q2.w 100 14 8 rfl i (by omega) (by decide), q2.2.1.2.2.2 i (by omega)]
  obtain ⟨r, q, er, eq, b, hb, rfl, rfl⟩ : ∃ r q, lp (lb_X11_busiest_50 C2 0) lpN (0, 1) = some r ∧ lp (lb_X12_busiest_36 M2 86) lpN (0, 1) = some q ∧ (∃ b, b < N_s N ∧ r = nI b ∧ q = nI b) := by
    refine lp_two (fun i s t => s = t ∧ s.2 = nI (i + 1) ∧ ∃ b, b < N_s N ∧ s.1 = nI b) _ (N_s N - 1) (by omega) ?_ ?_ ⟨rfl, rfl, 0, by omega, rfl⟩
    · rintro i ⟨s1, s2⟩ t hi ⟨rfl, rfl, b, hb, rfl⟩
      have ci : nI (i + 1) < nI (N_s N) := nI_lt (by omega) sN
      unfold lb_X11_busiest_50 lb_X12_busiest_36
      simp only [g_0_1 r2.w, w_gI r2.w 3 0 1 rfl, r2.1.2.1.2.1, Option.bind_some, if_pos ci, g_3_7 r2.w, aC (i + 1) (by omega), aC b hb, w_gI q2.w 86 11 2 rfl, q2.1.2.1.2.1, g_86_29 q2.w, aM (i + 1) (by omega), aM b hb, nI_1]
      by_cases e : zz.2.2.2 (i + 1) ≤ zz.2.2.2 b
      · simp only [if_pos e]
        exact Or.inl ⟨_, _, rfl, rfl, rfl, rfl, b, hb, rfl⟩
      · simp only [if_neg e]
        exact Or.inl ⟨_, _, rfl, rfl, rfl, rfl, i + 1, by omega, rfl⟩
    · rintro ⟨s1, s2⟩ t ⟨rfl, rfl, b, hb, rfl⟩
      have ci : ¬ nI (N_s N - 1 + 1) < nI (N_s N) := nI_nlt (by omega) (by omega)
      refine ⟨nI b, nI b, ?_, ?_, b, hb, rfl, rfl⟩
      · unfold lb_X11_busiest_50
        simp only [g_0_1 r2.w, w_gI r2.w 3 0 1 rfl, r2.1.2.1.2.1, Option.bind_some, if_neg ci]
      · unfold lb_X12_busiest_36
        simp only [w_gI q2.w 86 11 2 rfl, q2.1.2.1.2.1, Option.bind_some, if_neg ci]
  obtain ⟨C3, f3, G3, r3⟩ := r2.begin
  obtain ⟨C4, f4, G4, r4⟩ := r3.add (by decide) (Int32.toInt64 (zz.2.2.2 b))
  obtain ⟨C5, f5, G5, r5⟩ := r4.add (by simp) (Int32.toInt64 zz.2.1)
  obtain ⟨M3, g3, H3, q3⟩ := q2.begin
  obtain ⟨M4, g4, H4, q4⟩ := q3.tell (by decide) (Int32.toInt64 (zz.2.2.2 b))
  obtain ⟨M5, g5, H5, q5⟩ := q4.tell (by simp) (Int32.toInt64 zz.2.1)
  have a3 : aI C3 7 14 (nI b) = some (zz.2.2.2 b) := by rw [aI_eq r3.w 7 14 8 rfl b (by omega) (by decide), r3.2.1.2.2.2 b (by omega)]
  have b3 : aI M3 100 14 (nI b) = some (zz.2.2.2 b) := by rw [aI_eq q3.w 100 14 8 rfl b (by omega) (by decide), q3.2.1.2.2.2 b (by omega)]
  have a4 : gI C4 3 0 8 = some zz.2.1 := by rw [w_gI r4.w 3 0 8 rfl, r4.2.1.2.1]
  have b4 : gI M4 86 11 27 = some zz.2.1 := by rw [w_gI q4.w 86 11 27 rfl, q4.2.1.2.1]
  refine ⟨nI b, C5, M5, _, ?_, ?_, G1.trans (G2.trans (G3.trans (G4.trans G5))), F1.trans (H2.trans (H3.trans (H4.trans H5))), r5.2.2.1, q5.2.2.1⟩
  · unfold fn_X11_busiest
    simp only [if_neg c1, if_pos c2, g_0_1 wc, Option.bind_some, w_gI wc 3 0 1 rfl, w1.cn.2.1, if_neg z, k_0 wc, f1, g_0_1 r1.w, g_0_9 r1.w, g_0_4 r1.w, k_3 r1.w, f2, er, g_0_11 r2.w, k_77 r2.w, f3, g_0_11 r3.w, g_0_1 r3.w, g_3_7 r3.w, a3, k_77 r3.w, f4, g_0_11 r4.w, g_0_1 r4.w, a4, k_77 r4.w, f5]
  · unfold fn_X12_busiest
    simp only [p1, Option.bind_some, in_yes c1 c2, if_neg one0, w_gI wm 86 11 2 rfl, w1.mn.2.1, if_neg z, k_86 wm, g2, eq, g3, g_86_29 q3.w, b3, k_86 q3.w, g4, b4, k_86 q4.w, g5]
/-- the highest so far, and what is told of it -/
def hiP (l0 : List Int64) (i j : Nat) (most wh when : Int32) (lC : List Int64) : Prop := (i = 0 ∧ j = 0 ∧ most = -1 ∧ lC = l0) ∨ lC = [Int32.toInt64 wh, Int32.toInt64 when]
theorem q_high (w : WW N sem x l C M) (n : Int32) : QR (fn_X11_high C 0 n) (fn_X12_high M 86 n) C M := by
  have h6 := w.v.1
  have bN : N_b N < 2 ^ 31 := by omega
  obtain ⟨M1, p1, F1, w1⟩ := w.thr
  have wc := w1.wc
  have wm := w1.wm
  have no : ∀ {oM} (r : Int32), fn_X11_high C 0 n = some (r, C) → oM = some (r, M1) → QR (fn_X11_high C 0 n) oM C M := fun r e1 e2 => w1.qr r e1 e2 (Fr.refl _ _) F1
  rcases int_cases 99 (by decide) n with ⟨c1, -⟩ | ⟨c1, c2⟩ | ⟨c1, c2, m, hm, rfl⟩
  · refine no (-1) ?_ ?_
    · unfold fn_X11_high; simp only [if_pos c1]
    · unfold fn_X12_high; simp only [p1, Option.bind_some, in_no (Or.inl c1), if_true]
  · replace c2 : ¬ n ≤ 99 := c2
    refine no (-1) ?_ ?_
    · unfold fn_X11_high; simp only [if_neg c1, if_neg c2]
    · unfold fn_X12_high; simp only [p1, Option.bind_some, in_no (Or.inr ⟨c1, c2⟩), if_true]
  replace c2 : nI m ≤ 99 := c2
  by_cases b0 : N_b N = 0
  · have z : nI (N_b N) = 0 := by rw [b0]; rfl
    refine no (-2) ?_ ?_
    · unfold fn_X11_high; simp only [if_neg c1, if_pos c2, g_0_1 wc, Option.bind_some, w_gI wc 3 0 0 rfl, w1.cn.1, if_pos z]
    · unfold fn_X12_high; simp only [p1, Option.bind_some, in_yes c1 c2, if_neg one0, w_gI wm 86 11 1 rfl, w1.mn.1, if_pos z]
  have z : ¬ nI (N_b N) = 0 := nI_ne0 (by omega) (by omega)
  obtain ⟨C2, e2, G2, w2, S2, -⟩ := w1.start
  obtain ⟨M2, g2, H2, w3, X2⟩ := w2.lay
  -- class and reference, each with its own list of what is told: the reference tells at the end
  obtain ⟨r, q, er, eq, r1, Gr, Hq, lC, tC, wr, hl⟩ : ∃ r q, lp (lb_X11_high_33 0 (nI m)) lpN (-1, 0, C2) = some r ∧ lp (lb_X12_high_49 86 (nI m)) lpN (-1, 0, 0, 0, M2) = some q ∧ (r.1 = q.1 ∧ Fr sc C r.2 ∧ Fr sm M q.2.2.2 ∧ ∃ lC, ToC r.2 lC ∧ (CW N sem x r.2 ∧ MW N sem x q.2.2.2 ∧ ToM q.2.2.2 l) ∧ lC = [Int32.toInt64 q.2.1, Int32.toInt64 q.2.2.1]) := by
    refine lp_two (fun i s t => s.1 = t.1 ∧ s.2.1 = nI i ∧ t.2.2.2.1 = nI i ∧ Fr sc C s.2.2 ∧ Fr sm M t.2.2.2.2 ∧ ∃ lC, (CW N sem x s.2.2 ∧ MW N sem x t.2.2.2.2 ∧ ToC s.2.2 lC ∧ ToM t.2.2.2.2 l) ∧ St s.2.2 28 (hXs N sem i x) ∧ XM t.2.2.2.2 99 (hXs N sem i x) ∧ hiP l i 0 t.1 t.2.1 t.2.2.1 lC) _ (m + 1) (by omega) ?_ ?_ ⟨rfl, rfl, rfl, G2.mono sh_sc, F1.trans (H2.mono mh_sm), l, ⟨w3.1, w3.2.1, w3.2.2.1, w3.2.2.2.1⟩, S2, X2, Or.inl ⟨rfl, rfl, rfl, rfl⟩⟩
    · rintro i ⟨s1, s2, Ci⟩ ⟨t1, t2, t3, t4, Mi⟩ hi ⟨rfl, rfl, rfl, GC, GM, lC, ⟨cw, mw, tc, tm⟩, Si, Xi, hp⟩
      dsimp only at GC GM cw mw tc tm Si Xi hp
      have vs := hXs_VS w.v sem w.2.2.2.2.2 i
      obtain ⟨r, q, er, eq, r1, Gr, lC', tc', cw', Sr, hp'⟩ : ∃ r q, lp (lb_X11_high_41 0 (nI m) (nI i)) lpN (s1, 0, Ci) = some r ∧ lp (lb_X12_high_58 Mi 86 (nI m) (nI i)) lpN (s1, t2, t3, 0) = some q ∧ (r.1 = q.1 ∧ Fr sc C r.2 ∧ ∃ lC, ToC r.2 lC ∧ CW N sem x r.2 ∧ St r.2 28 (hXs N sem i x) ∧ hiP l i (N_b N) q.1 q.2.1 q.2.2 lC) := by
        refine lp_two (fun j s t => s.1 = t.1 ∧ s.2.1 = nI j ∧ t.2.2.2 = nI j ∧ Fr sc C s.2.2 ∧ ∃ lC, ToC s.2.2 lC ∧ CW N sem x s.2.2 ∧ St s.2.2 28 (hXs N sem i x) ∧ hiP l i j t.1 t.2.1 t.2.2.1 lC) _ (N_b N) (by omega) ?_ ?_ ⟨rfl, rfl, rfl, GC, lC, tc, cw, Si, hp⟩
        · rintro j ⟨s1, s2, Cj⟩ ⟨t1, t2, t3, t4⟩ hj ⟨rfl, rfl, rfl, GC, lC, tc, cw, Sj, hp⟩
          dsimp only at GC tc cw Sj hp
          have cj : nI j < nI (N_b N) := nI_lt hj bN
          have aC : aI Cj 29 14 (nI j) = some (hXs N sem i x j) := by rw [aI_eq cw.1 29 14 6 rfl j (by omega) (by decide)]; exact congrArg some (Sj.1 j (by omega))
          have aM : aI Mi 99 14 (nI j) = some (hXs N sem i x j) := by rw [aI_eq mw.1 99 14 16 rfl j (by omega) (by decide)]; exact congrArg some (Xi j (by omega))
          by_cases e : hXs N sem i x j ≤ s1
          · refine Or.inl ⟨(s1, nI (j + 1), Cj), (s1, t2, t3, nI (j + 1)), ?_, ?_, rfl, rfl, rfl, GC, lC, tc, cw, Sj, ?_⟩
            · unfold lb_X11_high_41
              simp only [g_0_1 cw.1, w_gI cw.1 3 0 0 rfl, cw.2.1.1, Option.bind_some, if_pos cj, g_0_9 cw.1, g_28_0 cw.1, aC, if_pos e, nI_1]
            · unfold lb_X12_high_58
              simp only [w_gI mw.1 86 11 1 rfl, mw.2.1.1, Option.bind_some, if_pos cj, g_86_26 mw.1, aM, if_pos e, nI_1]
            · rcases hp with ⟨-, -, hm1, -⟩ | h
              · obtain ⟨v, hv, ev, -⟩ := vs.1 j (by omega)
                rw [ev, hm1] at e
                have := Int32.le_iff_toInt_le.mp e
                rw [nI_toInt (by omega)] at this
                have : ((-1 : Int32)).toInt = -1 := by decide
                omega
              · exact Or.inr h
          · obtain ⟨f3, G3, T3⟩ := toldBegin cw.1
            have cw3 := cw.to (G3.mono stC_sc)
            obtain ⟨C4, f4, G4, T4⟩ := toldAdd cw3.1 T3 (by decide) (Int32.toInt64 (nI j))
            have cw4 := cw3.to (G4.mono stC_sc)
            obtain ⟨C5, f5, G5, T5⟩ := toldAdd cw4.1 T4 (by simp) (Int32.toInt64 (nI i))
            have cw5 := cw4.to (G5.mono stC_sc)
            have F35 := G3.trans (G4.trans G5)
            have S5 : St C5 28 (hXs N sem i x) := by
              unfold St
              rw [F35.row 28 fun _ => rfl, F35.row 29 fun _ => rfl, F35.row 30 fun _ => rfl]
              exact Sj
            refine Or.inl ⟨(hXs N sem i x j, nI (j + 1), C5), (hXs N sem i x j, nI j, nI i, nI (j + 1)), ?_, ?_, rfl, rfl, rfl, GC.trans (F35.mono stC_sc), _, T5, cw5, S5, Or.inr rfl⟩
            · unfold lb_X11_high_41
              simp only [g_0_1 cw.1, w_gI cw.1 3 0 0 rfl, cw.2.1.1, Option.bind_some, if_pos cj, g_0_9 cw.1, g_28_0 cw.1, aC, if_neg e, g_0_11 cw.1, k_77 cw.1, f3, g_0_11 cw3.1, k_77 cw3.1, f4, g_0_11 cw4.1, k_77 cw4.1, f5, nI_1]
            · unfold lb_X12_high_58
              simp only [w_gI mw.1 86 11 1 rfl, mw.2.1.1, Option.bind_some, if_pos cj, g_86_26 mw.1, aM, if_neg e, nI_1]
        · rintro ⟨s1, s2, Cj⟩ ⟨t1, t2, t3, t4⟩ ⟨rfl, rfl, rfl, GC, lC, tc, cw, Sj, hp⟩
          dsimp only at GC tc cw Sj hp
          have cj : ¬ nI (N_b N) < nI (N_b N) := nI_nlt (Nat.le_refl _) bN
          refine ⟨(s1, Cj), (s1, t2, t3), ?_, ?_, rfl, GC, lC, tc, cw, Sj, hp⟩
          · unfold lb_X11_high_41
            simp only [g_0_1 cw.1, w_gI cw.1 3 0 0 rfl, cw.2.1.1, Option.bind_some, if_neg cj]
          · unfold lb_X12_high_58
            simp only [w_gI mw.1 86 11 1 rfl, mw.2.1.1, Option.bind_some, if_neg cj]
      have hp2 : lC' = [Int32.toInt64 q.2.1, Int32.toInt64 q.2.2] := by
        rcases hp' with ⟨-, h0, -⟩ | h
        · exact absurd h0 b0
        · exact h
      obtain ⟨C4, e4, F4, T4⟩ := pass_eq (z := (hXs N sem i x, hI r.2 3 8, hI r.2 3 9, hI r.2 7)) (Or.inr rfl) cw'.1 cw'.2.1 w.v cw'.2.2.2 vs ⟨Sr, rfl, rfl, fun _ _ => rfl⟩
      have t4 := T4.1
      rw [hrZ_x] at t4
      obtain ⟨M4, e5, F5, T5⟩ := goHour_eq (z := (hXs N sem i x, hI Mi 86 27, hI Mi 86 28, hI Mi 100)) (Or.inr rfl) mw.1 mw.2.1 w.v mw.2.2.2 vs (by unfold MH; omega) ⟨Xi, rfl, rfl, fun _ _ => rfl⟩
      have t5 := T5.1
      rw [hrZ_x] at t5
      have ci : nI i ≤ nI m := nI_le (by omega) (by omega)
      refine Or.inl ⟨(r.1, nI (i + 1), C4), (q.1, q.2.1, q.2.2, nI (i + 1), M4), ?_, ?_, r1, rfl, rfl, Gr.trans (F4.mono sh_sc), GM.trans (F5.mono mh_sm), lC', ⟨cw'.to (F4.mono sh_sc), mw.to (F5.mono mh_sm), tc'.to F4 rfl (fun _ => rfl), tm.to F5 rfl (fun _ => rfl)⟩, t4, t5, Or.inr hp2⟩
      · unfold lb_X11_high_33
        simp only [if_pos ci, er, Option.bind_some, g_0_1 cw'.1, g_0_9 cw'.1, g_0_4 cw'.1, k_3 cw'.1, e4, nI_1]
      · unfold lb_X12_high_49
        simp only [if_pos ci, eq, Option.bind_some, g_86_26 mw.1, k_86 mw.1, e5, nI_1]
    · rintro ⟨s1, s2, Ci⟩ ⟨t1, t2, t3, t4, Mi⟩ ⟨rfl, rfl, rfl, GC, GM, lC, ⟨cw, mw, tc, tm⟩, Si, Xi, hp⟩
      dsimp only at GC GM cw mw tc tm Si Xi hp
      have ci : ¬ nI (m + 1) ≤ nI m := nI_ge (by omega) (by omega)
      refine ⟨(s1, Ci), (s1, t2, t3, Mi), ?_, ?_, rfl, GC, GM, lC, tc, ⟨cw, mw, tm⟩, ?_⟩
      · unfold lb_X11_high_33; rw [if_neg ci]
      · unfold lb_X12_high_49; rw [if_neg ci]
      · rcases hp with ⟨h0, -⟩ | h
        · omega
        · exact h
  obtain ⟨cw, mw, tm⟩ := wr
  obtain ⟨g3, H3, T3⟩ := tellBegin mw.1
  have mw3 := mw.to (H3.mono stM_sm)
  obtain ⟨M4, g4, H4, T4⟩ := tellM mw3.1 T3 (by decide) (Int32.toInt64 q.2.1)
  have mw4 := mw3.to (H4.mono stM_sm)
  obtain ⟨M5, g5, H5, T5⟩ := tellM mw4.1 T4 (by simp) (Int32.toInt64 q.2.2.1)
  refine ⟨r.1, r.2, M5, lC, ?_, ?_, Gr, Hq.trans ((H3.mono stM_sm).trans ((H4.mono stM_sm).trans (H5.mono stM_sm))), tC, by rw [hl]; exact T5⟩
  · unfold fn_X11_high
    simp only [if_neg c1, if_pos c2, g_0_1 wc, Option.bind_some, w_gI wc 3 0 0 rfl, w1.cn.1, if_neg z, k_0 wc, e2, er]
  · unfold fn_X12_high
    simp only [p1, Option.bind_some, in_yes c1 c2, if_neg one0, w_gI wm 86 11 1 rfl, w1.mn.1, if_neg z, g_86_0 wm, g_86_26 wm, g2, eq, g3, k_86 mw3.1, g4, k_86 mw4.1, g5, r1]
end Q12
