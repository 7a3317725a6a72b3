/-! questions on what is stuck: needs, fits -/
def wO : Option Nat → Int32
  | none => 0
  | some s => bitI s
def aO : Option Nat → Int32
  | none => -1
  | some s => nI s
def stO (x : XX) (o : Option Nat) : XX := va_up x 13 (x 13 ||| wO o)
theorem nI_m1 {s : Nat} (hs : s < 2 ^ 31) : ¬ nI s = -1 := by
  intro h
  have := congrArg Int32.toInt h
  rw [nI_toInt hs] at this
  have : ((-1 : Int32)).toInt = -1 := by decide
  omega
section Q6
variable {N : Net} {sem : Sem} {x : XX} {l : List Int64} {C M : aH}
theorem stO_ok (V : NV N) {B : Nat} (v : VS N B x) {o : Option Nat} (ho : ∀ s, o = some s → s < N_s N) : VS N B (stO x o) := by
  have h8 := V.2.1
  refine VS_13 v ?_
  rw [word_iff _ h8]
  have h0 := (word_iff (x 13) h8).mp v.2.2.2.1
  intro i h1 h2
  rw [b_or, h0 i h1 h2]
  cases o with
  | none => exact b_0 i
  | some s =>
    have hs := ho s rfl
    show (false || bt (bitI s) i) = false
    rw [b_bitI (by omega) i h2]
    simp; omega
/-- the trials begun with one sluice more stuck, or none -/
theorem WW.stuck (w : WW N sem x l C M) {o : Option Nat} (ho : ∀ s, o = some s → s < N_s N) : ∃ C1 C2 M1, fn_X11_startTrial C 0 = some C1 ∧ Wf C1 ∧ gI C1 28 6 3 = some (x 13) ∧ pI C1 28 6 3 (x 13 ||| wO o) = some C2 ∧ fn_X12_beginStuck M 86 (aO o) = some M1 ∧ Fr (sh 28) C C2 ∧ Fr (mh 99) M M1 ∧ BB N sem x l 0 C2 M1 (stO x o) := by
  have h8 := w.v.2.1
  obtain ⟨C1, e1, F1, w1, S1, -⟩ := w.start
  obtain ⟨M1, e2, F2, w2, X2⟩ := w1.lay
  have G : Fr (sh 28) C1 (sI C1 28 3 (x 13 ||| wO o)) := (Fr.refl _ _).sI _ rfl
  have S2 : St (sI C1 28 3 (x 13 ||| wO o)) 28 (stO x o) := SR_stuck S1 _
  have ok := stO_ok w.v w.2.2.2.2.2 ho
  have gi : gI C1 28 6 3 = some (x 13) := by rw [w_gI w1.wc 28 6 3 rfl]; exact congrArg some S1.2.2.2.1
  have pi := w_pI w1.wc 28 6 3 (x 13 ||| wO o) rfl
  cases o with
  | none =>
    have eX : stO x none = x := up_self (or0 (x 13)).symm
    refine ⟨C1, _, M1, e1, w1.wc, gi, pi, ?_, F1.trans G, F2, (w2.toC G sh_sc rfl (fun _ => rfl)), S2, by rw [eX]; exact X2, ok⟩
    unfold fn_X12_beginStuck
    simp only [g_86_0 w.wm, g_86_26 w.wm, Option.bind_some, e2, aO, if_true]
  | some s =>
    have hs := ho s rfl
    have a13 : aI M1 99 14 13 = some (x 13) := by
      have : aI M1 99 14 13 = _ := aI_eq w2.wm 99 14 16 rfl 13 (by decide) (by decide)
      rw [this, X2 13 (by decide)]
    have w13 : wI M1 99 13 (x 13 ||| bitI s) = some (sI M1 99 13 (x 13 ||| bitI s)) := wI_eq w2.wm 99 16 rfl 13 (by decide) (by decide) _
    have H : Fr (mh 99) M1 (sI M1 99 13 (x 13 ||| bitI s)) := (Fr.refl _ _).sI _ rfl
    refine ⟨C1, _, _, e1, w1.wc, gi, pi, ?_, F1.trans G, F2.trans H, (w2.toC G sh_sc rfl (fun _ => rfl)).toM H mh_sm rfl (fun _ => rfl), S2, XM_up X2 _ _, ok⟩
    unfold fn_X12_beginStuck
    simp only [g_86_0 w.wm, g_86_26 w.wm, Option.bind_some, e2, aO, if_neg (nI_m1 (show s < 2 ^ 31 by omega)), g_86_26 w2.wm, a13]
    show ((wI M1 99 13 (x 13 ||| bitI s)).bind _) = _
    rw [w13]
    rfl
theorem level_eq (w : WW N sem x l C M) {o : Option Nat} (ho : ∀ s, o = some s → s < N_s N) {c n : Nat} (hc : c < N_b N) (hn : n < 2000) : ∃ C1 M1, fn_X11_levelWithStuck C 0 (wO o) (nI c) (nI n) = some (hXs N sem n (stO x o) c, C1) ∧ fn_X12_levelBy M 86 (aO o) (nI c) (nI n) = some (hXs N sem n (stO x o) c, M1) ∧ Fr (sh 28) C C1 ∧ Fr (mh 99) M M1 ∧ WW N sem x l C1 M1 := by
  have h6 := w.v.1
  obtain ⟨C1, C2, M1, e1, wf1, gi, pi, eM, F, H, b⟩ := w.stuck ho
  obtain ⟨C3, M3, f3, g3, G3, H3, b3⟩ := b.run (by decide) hn
  obtain ⟨lc, lm⟩ := b3.lv (show c < 6 by omega)
  refine ⟨C3, M3, ?_, ?_, F.trans G3, H.trans H3, b3.ww⟩
  · unfold fn_X11_levelWithStuck
    simp only [k_0 w.wc, Option.bind_some, e1, g_0_9 wf1, gi, pi, g_0_1 b.wc, g_0_9 b.wc, g_0_4 b.wc, k_3 b.wc, f3, g_0_9 b3.wc, g_28_0 b3.wc, lc]
  · unfold fn_X12_levelBy
    simp only [k_86 w.wm, Option.bind_some, eM, g_86_26 b.wm, k_86 b.wm, g3, g_86_26 b3.wm, lm]
theorem WW.stuckBit (w : WW N sem x l C M) : gI C 22 6 3 = some (x 13) ∧ aI M 87 14 13 = some (x 13) := by
  refine ⟨?_, ?_⟩
  · rw [w_gI w.wc 22 6 3 rfl]; exact congrArg some w.1.2.2.1.2.2.2.1
  · have : aI M 87 14 13 = _ := aI_eq w.wm 87 14 16 rfl 13 (by decide) (by decide)
    rw [this]; exact congrArg some (w.2.1.2.2.1 13 (by decide))
theorem q_needs (w : WW N sem x l C M) (a n : Int32) : QR (fn_X11_needs C 0 a n) (fn_X12_needs M 86 a n) C M := by
  have h6 := w.v.1
  have h8 := w.v.2.1
  have sN : N_s N < 2 ^ 31 := by omega
  obtain ⟨M1, p1, F1, w1⟩ := w.thr
  have wc := w1.wc
  have wm := w1.wm
  have no : ∀ {oM}, fn_X11_needs C 0 a n = some (-1, C) → oM = some (-1, M1) → QR (fn_X11_needs C 0 a n) oM C M := fun e1 e2 => w1.qr (-1) e1 e2 (Fr.refl _ _) F1
  rcases w1.bas a with ⟨a1, a2⟩ | ⟨i, hi, rfl, a1, a2⟩
  · refine no ?_ ?_
    · unfold fn_X11_needs; simp only [g_0_1 wc, k_3 wc, Option.bind_some, a1, if_true]
    · unfold fn_X12_needs; simp only [p1, k_86 wm, Option.bind_some, a2, if_true]
  rcases int_cases 40 (by decide) n with ⟨d1, -⟩ | ⟨d1, d2⟩ | ⟨d1, d2, m, hm, rfl⟩
  · refine no ?_ ?_
    · unfold fn_X11_needs; simp only [g_0_1 wc, k_3 wc, Option.bind_some, a1, if_neg one0, if_pos d1]
    · unfold fn_X12_needs; simp only [p1, k_86 wm, Option.bind_some, a2, if_neg one0, soon_no (Or.inl d1), if_true]
  · replace d2 : ¬ n ≤ 40 := d2
    refine no ?_ ?_
    · unfold fn_X11_needs; simp only [g_0_1 wc, k_3 wc, Option.bind_some, a1, if_neg one0, if_neg d1, if_neg d2]
    · unfold fn_X12_needs; simp only [p1, k_86 wm, Option.bind_some, a2, if_neg one0, soon_no (Or.inr ⟨d1, d2⟩), if_true]
  replace d2 : nI m ≤ 40 := d2
  obtain ⟨C2, M2, f2, g2, G2, H2, w2⟩ := level_eq w1 (o := none) (fun s h => by cases h) hi (n := m) (by omega)
  obtain ⟨own, eown⟩ : ∃ own, own = hXs N sem m (stO x none) i := ⟨_, rfl⟩
  rw [← eown] at f2 g2
  obtain ⟨r, q, er, eq, r1, Gr, Hq, wr⟩ : ∃ r q, lp (lb_X11_needs_37 0 (nI i) (nI m) own) lpN (0, 0, C2) = some r ∧ lp (lb_X12_needs_36 86 (nI i) (nI m) own) lpN (0, 0, M2) = some q ∧ (r.1 = q.1 ∧ Fr sc C r.2 ∧ Fr sm M q.2 ∧ WW N sem x l r.2 q.2) := by
    refine lp_two (fun k s t => s.1 = t.1 ∧ s.2.1 = nI k ∧ t.2.1 = nI k ∧ Fr sc C s.2.2 ∧ Fr sm M t.2.2 ∧ WW N sem x l s.2.2 t.2.2) _ (N_s N) (by omega) ?_ ?_ ⟨rfl, rfl, rfl, G2.mono sh_sc, F1.trans (H2.mono mh_sm), w2⟩
    · rintro k ⟨s1, s2, Ck⟩ ⟨t1, t2, Mk⟩ hk ⟨rfl, rfl, rfl, GC, GM, wk⟩
      dsimp only at GC GM wk
      obtain ⟨bc, bm⟩ := wk.stuckBit
      have ckk : nI k < nI (N_s N) := nI_lt hk sN
      by_cases st : isBit (x 13) k = true
      · have st' : ¬ ((x 13 >>> (nI k &&& 31)) &&& 1) = 0 := by unfold isBit at st; simpa using st
        refine Or.inl ⟨(s1, nI (k + 1), Ck), (s1, nI (k + 1), Mk), ?_, ?_, rfl, rfl, rfl, GC, GM, wk⟩
        · unfold lb_X11_needs_37
          simp only [g_0_1 wk.wc, w_gI wk.wc 3 0 1 rfl, wk.cn.2.1, Option.bind_some, if_pos ckk, g_0_7 wk.wc, bc, if_neg st', nI_1]
        · unfold lb_X12_needs_36
          simp only [w_gI wk.wm 86 11 2 rfl, wk.mn.2.1, Option.bind_some, if_pos ckk, g_86_0 wk.wm, bm, has_eq Mk (x 13) (show k < 31 by omega), st, if_neg (show ¬ b2 true = 0 by decide), or0, nI_1]
      · have st' : ((x 13 >>> (nI k &&& 31)) &&& 1) = 0 := by unfold isBit at st; simpa using st
        have sf : isBit (x 13) k = false := by simpa using st
        obtain ⟨C3, M3, f3, g3, G3, H3, w3⟩ := level_eq wk (o := some k) (fun s h => by cases h; exact hk) hi (n := m) (by omega)
        have G4 := GC.trans (G3.mono sh_sc)
        have H4 := GM.trans (H3.mono mh_sm)
        have f3' : fn_X11_levelWithStuck Ck 0 (1 <<< (nI k &&& 31)) (nI i) (nI m) = some (hXs N sem m (stO x (some k)) i, C3) := f3
        have g3' : fn_X12_levelBy Mk 86 (nI k) (nI i) (nI m) = some (hXs N sem m (stO x (some k)) i, M3) := g3
        by_cases c : hXs N sem m (stO x (some k)) i = own
        · refine Or.inl ⟨(s1, nI (k + 1), C3), (s1, nI (k + 1), M3), ?_, ?_, rfl, rfl, rfl, G4, H4, w3⟩
          · unfold lb_X11_needs_37
            simp only [g_0_1 wk.wc, w_gI wk.wc 3 0 1 rfl, wk.cn.2.1, Option.bind_some, if_pos ckk, g_0_7 wk.wc, bc, if_pos st', k_0 wk.wc, f3', if_pos c, nI_1]
          · unfold lb_X12_needs_36
            simp only [w_gI wk.wm 86 11 2 rfl, wk.mn.2.1, Option.bind_some, if_pos ckk, g_86_0 wk.wm, bm, has_eq Mk (x 13) (show k < 31 by omega), sf, if_pos (show b2 false = 0 from rfl), k_86 wk.wm, g3', if_pos c, or0, nI_1]
        · refine Or.inl ⟨(s1 ||| bitI k, nI (k + 1), C3), (s1 ||| bitI k, nI (k + 1), M3), ?_, ?_, rfl, rfl, rfl, G4, H4, w3⟩
          · unfold lb_X11_needs_37
            simp only [g_0_1 wk.wc, w_gI wk.wc 3 0 1 rfl, wk.cn.2.1, Option.bind_some, if_pos ckk, g_0_7 wk.wc, bc, if_pos st', k_0 wk.wc, f3', if_neg c, nI_1]
            rfl
          · unfold lb_X12_needs_36
            simp only [w_gI wk.wm 86 11 2 rfl, wk.mn.2.1, Option.bind_some, if_pos ckk, g_86_0 wk.wm, bm, has_eq Mk (x 13) (show k < 31 by omega), sf, if_pos (show b2 false = 0 from rfl), k_86 wk.wm, g3', if_neg c, nI_1]
            rfl
    · rintro ⟨s1, s2, Ck⟩ ⟨t1, t2, Mk⟩ ⟨rfl, rfl, rfl, GC, GM, wk⟩
      dsimp only at GC GM wk
      refine ⟨(s1, Ck), (s1, Mk), ?_, ?_, rfl, GC, GM, wk⟩
      · unfold lb_X11_needs_37
        simp only [g_0_1 wk.wc, w_gI wk.wc 3 0 1 rfl, wk.cn.2.1, Option.bind_some, if_neg (nI_nlt (Nat.le_refl (N_s N)) sN)]
      · unfold lb_X12_needs_36
        simp only [w_gI wk.wm 86 11 2 rfl, wk.mn.2.1, Option.bind_some, if_neg (nI_nlt (Nat.le_refl (N_s N)) sN)]
  obtain ⟨C3, M3, f3, g3, G3, H3, w3⟩ := wr.begin
  obtain ⟨C4, M4, f4, g4, G4, H4, w4⟩ := w3.add (by decide) (Int32.toInt64 (bcI r.1))
  have f2' : fn_X11_levelWithStuck C 0 0 (nI i) (nI m) = some (own, C2) := f2
  have g2' : fn_X12_levelBy M1 86 (-1) (nI i) (nI m) = some (own, M2) := g2
  refine w4.qr r.1 ?_ ?_ (Gr.trans ((G3.mono stC_sc).trans (G4.mono stC_sc))) (Hq.trans ((H3.mono stM_sm).trans (H4.mono stM_sm)))
  · unfold fn_X11_needs
    simp only [g_0_1 wc, k_3 wc, k_0 wc, Option.bind_some, a1, if_neg one0, if_neg d1, if_pos d2, f2', er, g_0_11 wr.wc, k_77 wr.wc, f3, g_0_11 w3.wc, bc_eq, k_77 w3.wc, f4]
  · unfold fn_X12_needs
    simp only [p1, k_86 wm, Option.bind_some, a2, if_neg one0, soon_yes d1 d2, g2', eq, ← r1, g3, bc_eq, k_86 w3.wm, g4]
/-- what was seen -/
def SN (N : Net) (n : Nat) (sb so : Nat → Nat) (sv : XX) (C M : aH) : Prop := n ≤ 10 ∧ hI C 79 3 = nI n ∧ hI M 86 37 = nI n ∧ ∀ i, i < n → hI C 80 i = nI (sb i) ∧ hI C 81 i = nI (so i) ∧ hI C 82 i = sv i ∧ hI M 105 i = nI (sb i) ∧ hI M 106 i = nI (so i) ∧ hI M 107 i = sv i ∧ sb i < N_b N ∧ so i ≤ 20
theorem SN.to {n : Nat} {sb so : Nat → Nat} {sv : XX} {C1 M1 : aH} (f : Fr sc C C1) (g : Fr sm M M1) (s : SN N n sb so sv C M) : SN N n sb so sv C1 M1 := by
  obtain ⟨a, b, c, d⟩ := s
  refine ⟨a, (f.i 79 3 rfl).trans b, (g.i 86 37 rfl).trans c, fun i hi => ?_⟩
  rw [f.i 80 i rfl, f.i 81 i rfl, f.i 82 i rfl, g.i 105 i rfl, g.i 106 i rfl, g.i 107 i rfl]
  exact d i hi
def agP (n : Nat) (sb so : Nat → Nat) (sv y : XX) (d : Nat) : Prop := ∀ i, i < n → so i = d → y (sb i) = sv i
theorem agrees_eq {n : Nat} {sb so : Nat → Nat} {sv y : XX} (w : Wf C) (s : SN N n sb so sv C M) (V : NV N) (S : St C 28 y) {d : Nat} (hd : d ≤ 20) : (agP n sb so sv y d ∧ fn_X6_agrees C 79 28 (nI d) = some 1) ∨ (¬ agP n sb so sv y d ∧ fn_X6_agrees C 79 28 (nI d) = some 0) := by
  have h6 := V.1
  obtain ⟨h10, e1, e2, hs⟩ := s
  have key : ∃ r, lp (lb_X6_agrees_2 C 79 28 (nI d)) lpN 0 = some r ∧ ((agP n sb so sv y d ∧ r = 1) ∨ (¬ agP n sb so sv y d ∧ r = 0)) := by
    refine lp_inv (fun k s => s = nI k ∧ ∀ i, i < k → so i = d → y (sb i) = sv i) _ n (by omega) ?_ ?_ ⟨rfl, fun i hi => absurd hi (by omega)⟩
    · rintro k s hk ⟨rfl, hp⟩
      obtain ⟨a1, a2, a3, -, -, -, a4, a5⟩ := hs k hk
      have c1 : nI k < nI n := nI_lt hk (by omega)
      have b1 : aI C 81 14 (nI k) = some (nI (so k)) := by rw [aI_eq w 81 14 10 rfl k (by omega) (by decide), a2]
      have b2' : aI C 80 14 (nI k) = some (nI (sb k)) := by rw [aI_eq w 80 14 10 rfl k (by omega) (by decide), a1]
      have b3 : aI C 82 14 (nI k) = some (sv k) := by rw [aI_eq w 82 14 10 rfl k (by omega) (by decide), a3]
      have b4 : aI C 29 14 (nI (sb k)) = some (y (sb k)) := by rw [aI_eq w 29 14 6 rfl (sb k) (by omega) (by decide)]; exact congrArg some (S.1 (sb k) (by omega))
      have io : nI (so k) = nI d ↔ so k = d := nI_eq (by omega) (by omega)
      unfold lb_X6_agrees_2
      simp only [w_gI w 79 5 3 rfl, e1, Option.bind_some, if_pos c1, g_79_1 w, b1, g_28_0 w, g_79_0 w, b2', b4, g_79_2 w, b3, nI_1]
      by_cases c : so k = d
      · rw [if_pos (io.mpr c)]
        by_cases c2 : y (sb k) = sv k
        · rw [if_pos c2]
          refine Or.inl ⟨_, rfl, rfl, fun i hi hid => ?_⟩
          by_cases e : i = k
          · subst e; exact c2
          · exact hp i (by omega) hid
        · rw [if_neg c2]
          exact Or.inr ⟨_, rfl, Or.inr ⟨fun q => c2 (q k hk c), rfl⟩⟩
      · rw [if_neg (fun q => c (io.mp q))]
        refine Or.inl ⟨_, rfl, rfl, fun i hi hid => ?_⟩
        by_cases e : i = k
        · subst e; exact absurd hid c
        · exact hp i (by omega) hid
    · rintro s ⟨rfl, hp⟩
      refine ⟨1, ?_, Or.inl ⟨hp, rfl⟩⟩
      unfold lb_X6_agrees_2
      simp only [w_gI w 79 5 3 rfl, e1, Option.bind_some, if_neg (nI_nlt (Nat.le_refl n) (show n < 2 ^ 31 by omega))]
  obtain ⟨r, er, h⟩ := key
  unfold fn_X6_agrees
  rcases h with ⟨h1, rfl⟩ | ⟨h1, rfl⟩
  · exact Or.inl ⟨h1, by rw [er]; rfl⟩
  · exact Or.inr ⟨h1, by rw [er]; rfl⟩
theorem lastHour_eq {n : Nat} {sb so : Nat → Nat} {sv : XX} (w : Wf C) (s : SN N n sb so sv C M) : ∃ L : Nat, L ≤ 21 ∧ fn_X6_lastHour C 79 = some (nI L - 1) ∧ ∀ i, i < n → so i < L := by
  obtain ⟨h10, e1, e2, hs⟩ := s
  obtain ⟨r, er, L, hL, rL, hl⟩ : ∃ r, lp (lb_X6_lastHour_4 C 79) lpN (-1, 0) = some r ∧ (∃ L : Nat, L ≤ 21 ∧ r = nI L - 1 ∧ ∀ i, i < n → so i < L) := by
    refine lp_inv (fun k s => s.2 = nI k ∧ ∃ L : Nat, L ≤ 21 ∧ s.1 = nI L - 1 ∧ ∀ i, i < k → so i < L) _ n (by omega) ?_ ?_ ⟨rfl, 0, by decide, by decide, fun i hi => absurd hi (by omega)⟩
    · rintro k ⟨s1, s2⟩ hk ⟨rfl, L, hL, rfl, hl⟩
      obtain ⟨a1, a2, a3, -, -, -, a4, a5⟩ := hs k hk
      have c1 : nI k < nI n := nI_lt hk (by omega)
      have b1 : aI C 81 14 (nI k) = some (nI (so k)) := by rw [aI_eq w 81 14 10 rfl k (by omega) (by decide), a2]
      have em : mx (nI L - 1) (nI (so k)) = nI (max L (so k + 1)) - 1 := by
        have hm : ∀ L, L < 22 → ∀ q, q < 21 → mx (nI L - 1) (nI q) = nI (max L (q + 1)) - 1 := by decide +kernel
        exact hm L (by omega) (so k) (by omega)
      refine Or.inl ⟨(nI (max L (so k + 1)) - 1, nI (k + 1)), ?_, rfl, max L (so k + 1), by omega, rfl, fun i hi => ?_⟩
      · unfold lb_X6_lastHour_4
        simp only [w_gI w 79 5 3 rfl, e1, Option.bind_some, if_pos c1, g_79_1 w, b1, em, nI_1]
      · by_cases e : i = k
        · subst e; omega
        · have := hl i (by omega); omega
    · rintro ⟨s1, s2⟩ ⟨rfl, h⟩
      refine ⟨s1, ?_, h⟩
      unfold lb_X6_lastHour_4
      simp only [w_gI w 79 5 3 rfl, e1, Option.bind_some, if_neg (nI_nlt (Nat.le_refl n) (show n < 2 ^ 31 by omega))]
  refine ⟨L, hL, ?_, hl⟩
  unfold fn_X6_lastHour
  rw [er, rL]
  rfl
/-- all that was seen, if the trial begins at y -/
def sawP (N : Net) (sem : Sem) (n : Nat) (sb so : Nat → Nat) (sv y : XX) : Prop := ∀ i, i < n → hXs N sem (so i) y (sb i) = sv i
theorem isAsSeen_eq {n : Nat} {sb so : Nat → Nat} {sv : XX} (w : WW N sem x l C M) (s : SN N n sb so sv C M) {o : Option Nat} (ho : ∀ s, o = some s → s < N_s N) : ∃ C1 b, fn_X11_isAsSeen C 0 (wO o) = some (b2 b, C1) ∧ Fr sc C C1 ∧ WW N sem x l C1 M ∧ (b = true ↔ sawP N sem n sb so sv (stO x o)) := by
  have h6 := w.v.1
  obtain ⟨C1, C2, M1, e1, wf1, gi, pi, eM, F, H, b⟩ := w.stuck ho
  have s2 : SN N n sb so sv C2 M1 := s.to (F.mono sh_sc) (H.mono mh_sm)
  obtain ⟨L, hL, eL, hl⟩ := lastHour_eq b.wc s2
  obtain ⟨r, er, bb, eb, Gr, wr, hb⟩ : ∃ r, lp (lb_X11_isAsSeen_27 0 (nI L - 1)) lpN (0, C2) = some r ∧ (∃ b, r.1 = b2 b ∧ Fr (sh 28) C r.2 ∧ WW N sem x l r.2 M ∧ (b = true ↔ sawP N sem n sb so sv (stO x o))) := by
    refine lp_inv (fun d q => q.1 = nI d ∧ Fr (sh 28) C q.2 ∧ WW N sem x l q.2 M ∧ SN N n sb so sv q.2 M ∧ St q.2 28 (hXs N sem d (stO x o)) ∧ ∀ i, i < n → so i < d → hXs N sem (so i) (stO x o) (sb i) = sv i) _ L (by omega) ?_ ?_ ⟨rfl, F, w.toC F sh_sc rfl (fun _ => rfl), s.to (F.mono sh_sc) (Fr.refl _ _), b.2.1, fun i _ h => absurd h (by omega)⟩
    · rintro d ⟨q1, Cd⟩ hd ⟨rfl, Fd, wd, sd, Sd, hp⟩
      dsimp only at Fd wd sd Sd
      have cd : nI d ≤ nI L - 1 := by
        obtain ⟨L', rfl⟩ : ∃ L', L = L' + 1 := ⟨L - 1, by omega⟩
        rw [nI_pred]
        exact nI_le (by omega) (by omega)
      have vs := hXs_VS w.v sem (stO_ok w.v w.2.2.2.2.2 ho) d
      rcases agrees_eq wd.wc sd w.v Sd (show d ≤ 20 by omega) with ⟨ag, ea⟩ | ⟨ag, ea⟩
      · obtain ⟨C4, e4, F4, T4⟩ := pass_eq (z := (hXs N sem d (stO x o), hI Cd 3 8, hI Cd 3 9, hI Cd 7)) (Or.inr rfl) wd.wc wd.cn wd.v wd.1.2.2.2 vs ⟨Sd, rfl, rfl, fun _ _ => rfl⟩
        have t4 := T4.1
        rw [hrZ_x] at t4
        refine Or.inl ⟨(nI (d + 1), C4), ?_, rfl, Fd.trans F4, wd.toC F4 sh_sc rfl (fun _ => rfl), sd.to (F4.mono sh_sc) (Fr.refl _ _), t4, fun i hi hid => ?_⟩
        · unfold lb_X11_isAsSeen_27
          simp only [if_pos cd, g_0_12 wd.wc, g_0_9 wd.wc, k_79 wd.wc, Option.bind_some, ea, if_neg one0, g_0_1 wd.wc, g_0_4 wd.wc, k_3 wd.wc, e4, nI_1]
        · by_cases e : so i = d
          · rw [e]; exact ag i hi e
          · exact hp i hi (by omega)
      · refine Or.inr ⟨(0, Cd), ?_, false, rfl, Fd, wd, ?_⟩
        · unfold lb_X11_isAsSeen_27
          simp only [if_pos cd, g_0_12 wd.wc, g_0_9 wd.wc, k_79 wd.wc, Option.bind_some, ea, if_true]
        · refine ⟨fun q => (by cases q), fun q => absurd (fun i hi hid => ?_) ag⟩
          have := q i hi
          rw [hid] at this
          exact this
    · rintro ⟨q1, Cd⟩ ⟨rfl, Fd, wd, sd, Sd, hp⟩
      have cd : ¬ nI L ≤ nI L - 1 := by
        have : ∀ L, L < 22 → ¬ nI L ≤ nI L - 1 := by decide +kernel
        exact this L (by omega)
      refine ⟨(1, Cd), ?_, true, rfl, Fd, wd, fun _ => fun i hi => hp i hi (hl i hi), fun _ => rfl⟩
      unfold lb_X11_isAsSeen_27
      rw [if_neg cd]
  refine ⟨r.2, bb, ?_, Gr.mono sh_sc, wr, hb⟩
  unfold fn_X11_isAsSeen
  simp only [k_0 w.wc, Option.bind_some, e1, g_0_9 wf1, gi, pi, g_0_12 b.wc, k_79 b.wc, eL, er, ← eb]
theorem isSeen_eq {n : Nat} {sb so : Nat → Nat} {sv : XX} (w : WW N sem x l C M) (s : SN N n sb so sv C M) {o : Option Nat} (ho : ∀ s, o = some s → s < N_s N) : ∃ M1 b, fn_X12_isSeen M 86 (aO o) = some (b2 b, M1) ∧ Fr (mh 99) M M1 ∧ WW N sem x l C M1 ∧ (b = true ↔ sawP N sem n sb so sv (stO x o)) := by
  have h6 := w.v.1
  obtain ⟨C1, C2, M1, e1, wf1, gi, pi, eM, F, H, b⟩ := w.stuck ho
  have h10 := s.1
  -- an hour's comparing
  have inner : ∀ (d : Nat) (Md : aH) (is : Bool), d ≤ 20 → WW N sem x l C Md → SN N n sb so sv C Md → XM Md 99 (hXs N sem d (stO x o)) → ∃ is' : Bool, lp (lb_X12_isSeen_18 Md 86 (nI d)) lpN (b2 is, 0) = some (b2 is') ∧ (is' = true ↔ is = true ∧ agP n sb so sv (hXs N sem d (stO x o)) d) := by
    intro d Md is hd wd sd Xd
    obtain ⟨-, e1, e2, hs⟩ := sd
    obtain ⟨r, er, is', eis, hh⟩ : ∃ r, lp (lb_X12_isSeen_18 Md 86 (nI d)) lpN (b2 is, 0) = some r ∧ (∃ is', r = b2 is' ∧ (is' = true ↔ is = true ∧ agP n sb so sv (hXs N sem d (stO x o)) d)) := by
      refine lp_inv (fun k s => s.2 = nI k ∧ ∃ is', s.1 = b2 is' ∧ (is' = true ↔ is = true ∧ ∀ i, i < k → so i = d → hXs N sem d (stO x o) (sb i) = sv i)) _ n (by omega) ?_ ?_ ⟨rfl, is, rfl, ⟨fun h => ⟨h, fun i hi => absurd hi (by omega)⟩, fun h => h.1⟩⟩
      · rintro k ⟨s1, s2⟩ hk ⟨rfl, is', rfl, hi⟩
        obtain ⟨-, -, -, a1, a2, a3, a4, a5⟩ := hs k hk
        have c1 : nI k < nI n := nI_lt hk (by omega)
        have b1 : aI Md 106 14 (nI k) = some (nI (so k)) := by rw [aI_eq wd.wm 106 14 10 rfl k (by omega) (by decide), a2]
        have b2' : aI Md 105 14 (nI k) = some (nI (sb k)) := by rw [aI_eq wd.wm 105 14 10 rfl k (by omega) (by decide), a1]
        have b3 : aI Md 107 14 (nI k) = some (sv k) := by rw [aI_eq wd.wm 107 14 10 rfl k (by omega) (by decide), a3]
        have b4 : aI Md 99 14 (nI (sb k)) = some (hXs N sem d (stO x o) (sb k)) := by rw [aI_eq wd.wm 99 14 16 rfl (sb k) (by omega) (by decide)]; exact congrArg some (Xd (sb k) (by omega))
        have io : nI (so k) = nI d ↔ so k = d := nI_eq (by omega) (by omega)
        unfold lb_X12_isSeen_18
        simp only [w_gI wd.wm 86 11 37 rfl, e2, Option.bind_some, if_pos c1, g_86_35 wd.wm, b1, g_86_26 wd.wm, g_86_34 wd.wm, b2', b4, g_86_36 wd.wm, b3, nI_1]
        cases is' with
        | false =>
          rw [if_pos (show b2 false = 0 from rfl)]
          refine Or.inl ⟨_, rfl, rfl, false, rfl, ⟨fun h => (by cases h), fun h => ?_⟩⟩
          exact hi.mpr ⟨h.1, fun i hik => h.2 i (by omega)⟩
        | true =>
          rw [if_neg (show ¬ b2 true = 0 by decide)]
          have ht := hi.mp rfl
          by_cases c : so k = d
          · rw [if_pos (io.mpr c)]
            by_cases c2 : hXs N sem d (stO x o) (sb k) = sv k
            · rw [if_pos c2]
              refine Or.inl ⟨_, rfl, rfl, true, rfl, ⟨fun _ => ⟨ht.1, fun i hi' hid => ?_⟩, fun _ => rfl⟩⟩
              by_cases e : i = k
              · subst e; exact c2
              · exact ht.2 i (by omega) hid
            · rw [if_neg c2]
              refine Or.inl ⟨_, rfl, rfl, false, rfl, ⟨fun h => (by cases h), fun h => absurd (h.2 k (by omega) c) c2⟩⟩
          · rw [if_neg (fun q => c (io.mp q))]
            refine Or.inl ⟨_, rfl, rfl, true, rfl, ⟨fun _ => ⟨ht.1, fun i hi' hid => ?_⟩, fun _ => rfl⟩⟩
            by_cases e : i = k
            · subst e; exact absurd hid c
            · exact ht.2 i (by omega) hid
      · rintro ⟨s1, s2⟩ ⟨rfl, is', rfl, hi⟩
        refine ⟨b2 is', ?_, is', rfl, hi⟩
        unfold lb_X12_isSeen_18
        simp only [w_gI wd.wm 86 11 37 rfl, e2, Option.bind_some, if_neg (nI_nlt (Nat.le_refl n) (show n < 2 ^ 31 by omega))]
    exact ⟨is', by rw [er, eis], hh⟩
  obtain ⟨r, er, bb, eb, Hr, wr, hb⟩ : ∃ r, lp (lb_X12_isSeen_9 86) lpN (1, 0, M1) = some r ∧ (∃ b, r.1 = b2 b ∧ Fr (mh 99) M r.2 ∧ WW N sem x l C r.2 ∧ (b = true ↔ sawP N sem n sb so sv (stO x o))) := by
    refine lp_inv (fun d q => q.2.1 = nI d ∧ Fr (mh 99) M q.2.2 ∧ WW N sem x l C q.2.2 ∧ SN N n sb so sv C q.2.2 ∧ XM q.2.2 99 (hXs N sem d (stO x o)) ∧ ∃ is, q.1 = b2 is ∧ (is = true ↔ ∀ i, i < n → so i < d → hXs N sem (so i) (stO x o) (sb i) = sv i)) _ 21 (by decide) ?_ ?_ ⟨rfl, H, w.toM H mh_sm rfl (fun _ => rfl), s.to (Fr.refl _ _) (H.mono mh_sm), b.2.2.1, true, rfl, ⟨fun _ i _ h => absurd h (by omega), fun _ => rfl⟩⟩
    · rintro d ⟨q1, q2, Md⟩ hd ⟨rfl, Hd, wd, sd, Xd, is, rfl, hi⟩
      dsimp only at Hd wd sd Xd
      have cd : nI d ≤ 20 := nI_le (b := 20) (by omega) (by decide)
      have vs := hXs_VS w.v sem (stO_ok w.v w.2.2.2.2.2 ho) d
      obtain ⟨is', e2, h2⟩ := inner d Md is (by omega) wd sd Xd
      obtain ⟨M4, e4, F4, T4⟩ := goHour_eq (z := (hXs N sem d (stO x o), hI Md 86 27, hI Md 86 28, hI Md 100)) (Or.inr rfl) wd.wm wd.mn wd.v wd.2.1.2.2.2 vs (by unfold MH; omega) ⟨Xd, rfl, rfl, fun _ _ => rfl⟩
      have t4 := T4.1
      rw [hrZ_x] at t4
      refine Or.inl ⟨(b2 is', nI (d + 1), M4), ?_, rfl, Hd.trans F4, wd.toM F4 mh_sm rfl (fun _ => rfl), sd.to (Fr.refl _ _) (F4.mono mh_sm), t4, is', rfl, ?_⟩
      · unfold lb_X12_isSeen_9
        simp only [if_pos cd, e2, Option.bind_some, g_86_26 wd.wm, k_86 wd.wm, e4, nI_1]
      · rw [h2, hi]
        constructor
        · rintro ⟨h1, h3⟩ i hi' hid
          by_cases e : so i = d
          · rw [e]; exact h3 i hi' e
          · exact h1 i hi' (by omega)
        · intro h
          refine ⟨fun i hi' hid => h i hi' (by omega), fun i hi' hid => ?_⟩
          have := h i hi' (by omega)
          rw [hid] at this
          exact this
    · rintro ⟨q1, q2, Md⟩ ⟨rfl, Hd, wd, sd, Xd, is, rfl, hi⟩
      refine ⟨(b2 is, Md), ?_, is, rfl, Hd, wd, ?_⟩
      · unfold lb_X12_isSeen_9
        simp only [if_neg (show ¬ nI 21 ≤ 20 by decide), bz_b2, Option.bind_some]
      · rw [hi]
        constructor
        · intro h i hi'
          exact h i hi' (by have := (sd.2.2.2 i hi').2.2.2.2.2.2.2; omega)
        · intro h i hi' _
          exact h i hi'
  refine ⟨r.2, bb, ?_, Hr, wr, hb⟩
  unfold fn_X12_isSeen
  simp only [k_86 w.wm, Option.bind_some, eM, er, ← eb]
end Q6
