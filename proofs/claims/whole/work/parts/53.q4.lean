/-! questions: words, hears, drought, needs -/
theorem or0 (w : Int32) : w ||| 0 = w := by
  apply b_ext
  intro i hi
  rw [b_or, b_0, Bool.or_false]
def bcI (p : Int32) : Int32 := (fn_J6_bitCount_0f7a4 ([], fun _ _ => 0, fun _ _ => 0, fun _ _ => none) p).getD 0
theorem bc_eq (h : aH) (p : Int32) : fn_J6_bitCount_0f7a4 h p = some (bcI p) := rfl
theorem bc_pos : ∀ v, v < 1024 → 0 < v → 0 < bcI (nI v) := by decide +kernel
theorem stp_mark {N : Net} (V : NV N) (sem : Sem) {s : Nat} (hs : s < N_s N) (z : ZZ) {i : Nat} (hi : i < 6) : (stp N sem s z).1 (6 + i) = z.1 (6 + i) := by
  obtain ⟨f1, f2, f3, f4⟩ := V.2.2.2 s hs
  have h6 := V.1
  unfold stp
  split
  · rfl
  · split
    · show va_up (va_up (va_up z.1 12 _) (N_f N s) _) (N_t N s) _ (6 + i) = _
      rw [up_ne _ _ (by omega), up_ne _ _ (by omega), up_ne _ _ (by omega)]
    · show va_up z.1 12 _ (6 + i) = _
      rw [up_ne _ _ (by omega)]
theorem swp_mark {N : Net} (V : NV N) (sem : Sem) (z : ZZ) {i : Nat} (hi : i < 6) : ∀ s, s ≤ N_s N → (swp N sem s z).1 (6 + i) = z.1 (6 + i)
  | 0, _ => rfl
  | s + 1, h => (stp_mark V sem (by omega) _ hi).trans (swp_mark V sem z hi s (by omega))
theorem lkp_mark {N : Net} (V : NV N) {b : Nat} (hb : b < N_b N) (z : ZZ) {i : Nat} (hi : i < 6) : (lkp N b z).1 (6 + i) = z.1 (6 + i) := by
  have h6 := V.1
  unfold lkp
  split
  · split
    · rfl
    · show va_up (va_up z.1 b _) 15 _ (6 + i) = _
      rw [up_ne _ _ (by omega), up_ne _ _ (by omega)]
  · rfl
theorem lks_mark {N : Net} (V : NV N) (z : ZZ) {i : Nat} (hi : i < 6) : ∀ b, b ≤ N_b N → (lks N b z).1 (6 + i) = z.1 (6 + i)
  | 0, _ => rfl
  | b + 1, h => (lkp_mark V (by omega) _ hi).trans (lks_mark V z hi b (by omega))
theorem hX_mark {N : Net} (V : NV N) (sem : Sem) (y : XX) {i : Nat} (hi : i < 6) : hX N sem y (6 + i) = y (6 + i) := by
  unfold hX hrZ
  show va_up _ 14 _ (6 + i) = _
  rw [up_ne _ _ (by omega), lks_mark V _ hi (N_b N) (Nat.le_refl _), swp_mark V sem _ hi (N_s N) (Nat.le_refl _)]
theorem hXs_mark {N : Net} (V : NV N) (sem : Sem) (y : XX) {i : Nat} (hi : i < 6) : ∀ n, hXs N sem n y (6 + i) = y (6 + i)
  | 0 => rfl
  | n + 1 => (hX_mark V sem _ hi).trans (hXs_mark V sem y hi n)
section Q4
variable {N : Net} {sem : Sem} {x : XX} {l : List Int64} {C M : aH}
def lvX (N : Net) (sem : Sem) (x : XX) (a v n : Nat) : XX := hXs N sem n (va_up x a (nI v))
theorem lvX_ok (w : WW N sem x l C M) {a v n : Nat} (ha : a < N_b N) (hv : v ≤ 9) : VS N (MH + (0 + n)) (lvX N sem x a v n) := by
  rw [Nat.zero_add]
  exact hXs_VS w.v sem (VS_lv w.2.2.2.2.2 ha w.v.1 hv) n
theorem withC (w : WW N sem x l C M) {a v n : Nat} (ha : a < N_b N) (hv : v ≤ 9) (hn : n < 2000) : ∃ C1, fn_X11_runWithLevel C 0 (nI a) (nI v) (nI n) = some C1 ∧ Fr (sh 28) C C1 ∧ WW N sem x l C1 M ∧ St C1 28 (lvX N sem x a v n) := by
  have h6 := w.v.1
  obtain ⟨C1, e1, F1, w1, S1, -⟩ := w.start
  obtain ⟨c1, G1⟩ := setC_eq w1.wc (c := a) (by omega) (nI v)
  have w2 := w1.toC G1 sh_sc rfl (fun _ => rfl)
  obtain ⟨C3, e3, F3, T3⟩ := run_eq (z := (va_up x a (nI v), hI (sI C1 29 a (nI v)) 3 8, hI (sI C1 29 a (nI v)) 3 9, hI (sI C1 29 a (nI v)) 7)) (Or.inr rfl) w2.wc w2.cn w2.v w2.1.2.2.2 (VS_lv w.2.2.2.2.2 ha h6 hv) ⟨St_set S1 (by omega) _, rfl, rfl, fun _ _ => rfl⟩ hn
  have t3 := T3.1
  rw [hrs_x] at t3
  refine ⟨C3, ?_, F1.trans (G1.trans F3), w2.toC F3 sh_sc rfl (fun _ => rfl), t3⟩
  unfold fn_X11_runWithLevel
  simp only [k_0 w.wc, Option.bind_some, e1, g_0_9 w1.wc, g_28_0 w1.wc, c1, g_0_1 w2.wc, g_0_9 w2.wc, g_0_4 w2.wc, k_3 w2.wc, e3]
theorem withM (w : WW N sem x l C M) {a v b n : Nat} (ha : a < N_b N) (hv : v ≤ 9) (hb : b < N_b N) (hn : n < 2000) : ∃ M1, fn_X12_comesOf M 86 (nI a) (nI v) (nI b) (nI n) = some (lvX N sem x a v n b, M1) ∧ Fr (mh 99) M M1 ∧ WW N sem x l C M1 := by
  have h6 := w.v.1
  obtain ⟨M1, e1, F1, w1, X1⟩ := w.lay
  obtain ⟨c1, G1⟩ := setM_eq w1.wm (c := a) (by omega) (nI v)
  have w2 := w1.toM G1 mh_sm rfl (fun _ => rfl)
  obtain ⟨M3, e3, F3, T3⟩ := goHours_eq (z := (va_up x a (nI v), hI (sI M1 99 a (nI v)) 86 27, hI (sI M1 99 a (nI v)) 86 28, hI (sI M1 99 a (nI v)) 100)) (Or.inr rfl) w2.wm w2.mn w2.v w2.2.1.2.2.2 (VS_lv w.2.2.2.2.2 ha h6 hv) ⟨XM_up X1 _ _, rfl, rfl, fun _ _ => rfl⟩ hn (by unfold MH; omega)
  have t3 := T3.1
  rw [hrs_x] at t3
  have w3 := w2.toM F3 mh_sm rfl (fun _ => rfl)
  have a3 : aI M3 99 14 (nI b) = some (lvX N sem x a v n b) := by rw [aI_eq w3.wm 99 14 16 rfl b (by omega) (by decide)]; exact congrArg some (t3 b (by omega))
  refine ⟨M3, ?_, F1.trans (G1.trans F3), w3⟩
  unfold fn_X12_comesOf
  simp only [g_86_0 w.wm, g_86_26 w.wm, Option.bind_some, e1, g_86_26 w1.wm, c1, g_86_26 w2.wm, k_86 w2.wm, e3, g_86_26 w3.wm, a3]
/-- which levels come -/
def orB (N : Net) (sem : Sem) (x : XX) (a n b : Nat) : Nat → Int32
  | 0 => 0
  | k + 1 => orB N sem x a n b k ||| (1 <<< (lvX N sem x a k n b &&& 31))
theorem kinds_eq (w : WW N sem x l C M) {a b n : Nat} (ha : a < N_b N) (hb : b < N_b N) (hn : n < 2000) : ∃ M1, fn_X12_kinds M 86 (nI a) (nI b) (nI n) = some (bcI (orB N sem x a n b 10), M1) ∧ Fr (mh 99) M M1 ∧ WW N sem x l C M1 := by
  obtain ⟨r, er, e1, G, w1⟩ : ∃ r, lp (lb_X12_kinds_6 86 (nI a) (nI b) (nI n)) lpN (0, 0, M) = some r ∧ (r.1 = orB N sem x a n b 10 ∧ Fr (mh 99) M r.2 ∧ WW N sem x l C r.2) := by
    refine lp_inv (fun k s => s.1 = orB N sem x a n b k ∧ s.2.1 = nI k ∧ Fr (mh 99) M s.2.2 ∧ WW N sem x l C s.2.2) _ 10 (by decide) ?_ ?_ ⟨rfl, rfl, Fr.refl _ _, w⟩
    · rintro k ⟨s1, s2, Mk⟩ hk ⟨rfl, rfl, F, wk⟩
      dsimp only at F wk
      obtain ⟨M2, e2, F2, w2⟩ := withM wk ha (show k ≤ 9 by omega) hb hn
      have ck9 : nI k ≤ 9 := nI_le (b := 9) (by omega) (by decide)
      refine Or.inl ⟨(orB N sem x a n b (k + 1), nI (k + 1), M2), ?_, rfl, rfl, F.trans F2, w2⟩
      unfold lb_X12_kinds_6
      simp only [if_pos ck9, k_86 wk.wm, Option.bind_some, e2, nI_1]
      rfl
    · rintro ⟨s1, s2, Mk⟩ ⟨rfl, rfl, F, wk⟩
      refine ⟨(orB N sem x a n b 10, Mk), ?_, rfl, F, wk⟩
      unfold lb_X12_kinds_6
      rw [if_neg (show ¬ nI 10 ≤ 9 by decide)]
  refine ⟨r.2, ?_, G, w1⟩
  unfold fn_X12_kinds
  simp only [er, Option.bind_some, bc_eq, e1]
theorem q_words (w : WW N sem x l C M) (a b n : Int32) : QR (fn_X11_words C 0 a b n) (fn_X12_words M 86 a b n) C M := by
  have h6 := w.v.1
  obtain ⟨M1, p1, F1, w1⟩ := w.thr
  have wc := w1.wc
  have wm := w1.wm
  have no : ∀ {oM}, fn_X11_words C 0 a b n = some (-1, C) → oM = some (-1, M1) → QR (fn_X11_words C 0 a b n) oM C M := fun e1 e2 => w1.qr (-1) e1 e2 (Fr.refl _ _) F1
  rcases w1.bas a with ⟨a1, a2⟩ | ⟨i, hi, rfl, a1, a2⟩
  · refine no ?_ ?_
    · unfold fn_X11_words; simp only [g_0_1 wc, k_3 wc, Option.bind_some, a1, if_true]
    · unfold fn_X12_words fn_X12_areTwo; simp only [p1, k_86 wm, Option.bind_some, a2, if_true]
  rcases w1.bas b with ⟨b1, b2⟩ | ⟨j, hj, rfl, b1, b2⟩
  · refine no ?_ ?_
    · unfold fn_X11_words; simp only [g_0_1 wc, k_3 wc, Option.bind_some, a1, b1, if_neg one0, if_true]
    · unfold fn_X12_words fn_X12_areTwo; simp only [p1, k_86 wm, Option.bind_some, a2, b2, if_neg one0, if_true]
  by_cases hij : i = j
  · subst hij
    refine no ?_ ?_
    · unfold fn_X11_words; simp only [g_0_1 wc, k_3 wc, Option.bind_some, a1, if_neg one0, if_true]
    · unfold fn_X12_words fn_X12_areTwo; simp only [p1, k_86 wm, Option.bind_some, a2, if_neg one0, if_true]
  have nij : ¬ nI i = nI j := nI_ne (by omega) (by omega) hij
  rcases int_cases 40 (by decide) n with ⟨d1, -⟩ | ⟨d1, d2⟩ | ⟨d1, d2, m, hm, rfl⟩
  · refine no ?_ ?_
    · unfold fn_X11_words; simp only [g_0_1 wc, k_3 wc, Option.bind_some, a1, b1, if_neg one0, if_neg nij, if_pos d1]
    · unfold fn_X12_words fn_X12_areTwo; simp only [p1, k_86 wm, Option.bind_some, a2, b2, if_neg one0, if_neg nij, soon_no (Or.inl d1), if_true]
  · replace d2 : ¬ n ≤ 40 := d2
    refine no ?_ ?_
    · unfold fn_X11_words; simp only [g_0_1 wc, k_3 wc, Option.bind_some, a1, b1, if_neg one0, if_neg nij, if_neg d1, if_neg d2]
    · unfold fn_X12_words fn_X12_areTwo; simp only [p1, k_86 wm, Option.bind_some, a2, b2, if_neg one0, if_neg nij, soon_no (Or.inr ⟨d1, d2⟩), if_true]
  replace d2 : nI m ≤ 40 := d2
  obtain ⟨C2, M2, e2, e2', G2, H2, w2⟩ := w1.begin
  obtain ⟨r, q, er, eq, r1, Gr, Hq, l', wr⟩ : ∃ r q, lp (lb_X11_words_52 0 (nI i) (nI j) (nI m)) lpN (0, 0, C2) = some r ∧ lp (lb_X12_words_31 86 (nI i) (nI j) (nI m)) lpN (0, M2) = some q ∧ (r.1 = orB N sem x i m j 10 ∧ Fr sc C r.2 ∧ Fr sm M q ∧ ∃ l', WW N sem x l' r.2 q) := by
    refine lp_two (fun k s t => s.1 = orB N sem x i m j k ∧ s.2.1 = nI k ∧ t.1 = nI k ∧ Fr sc C s.2.2 ∧ Fr sm M t.2 ∧ ∃ l', l'.length = k ∧ WW N sem x l' s.2.2 t.2) _ 10 (by decide) ?_ ?_ ⟨rfl, rfl, rfl, G2.mono stC_sc, F1.trans (H2.mono stM_sm), [], rfl, w2⟩
    · rintro k ⟨s1, s2, Ck⟩ ⟨t1, Mk⟩ hk ⟨rfl, rfl, rfl, GC, GM, l', hl, wk⟩
      dsimp only at GC GM wk
      obtain ⟨C3, f3, G3, w3, S3⟩ := withC wk hi (show k ≤ 9 by omega) (n := m) (by omega)
      obtain ⟨M3, g3, H3, w4⟩ := withM w3 hi (show k ≤ 9 by omega) hj (n := m) (by omega)
      obtain ⟨C5, M5, f5, g5, G5, H5, w5⟩ := w4.add (by omega) (Int32.toInt64 (lvX N sem x i k m j))
      have a3 : aI C3 29 14 (nI j) = some (lvX N sem x i k m j) := by rw [aI_eq w3.wc 29 14 6 rfl j (by omega) (by decide)]; exact congrArg some (S3.1 j (by omega))
      have ck9 : nI k ≤ 9 := nI_le (b := 9) (by omega) (by decide)
      refine Or.inl ⟨(orB N sem x i m j (k + 1), nI (k + 1), C5), (nI (k + 1), M5), ?_, ?_, rfl, rfl, rfl, GC.trans ((G3.mono sh_sc).trans (G5.mono stC_sc)), GM.trans ((H3.mono mh_sm).trans (H5.mono stM_sm)), _, by simp [hl], w5⟩
      · unfold lb_X11_words_52
        simp only [if_pos ck9, k_0 wk.wc, Option.bind_some, f3, g_0_9 w3.wc, g_28_0 w3.wc, a3, g_0_11 w3.wc, k_77 w3.wc, f5, nI_1]
        rfl
      · unfold lb_X12_words_31
        simp only [if_pos ck9, k_86 wk.wm, Option.bind_some, g3, k_86 w4.wm, g5, nI_1]
    · rintro ⟨s1, s2, Ck⟩ ⟨t1, Mk⟩ ⟨rfl, rfl, rfl, GC, GM, l', hl, wk⟩
      refine ⟨(orB N sem x i m j 10, Ck), Mk, ?_, ?_, rfl, GC, GM, l', wk⟩
      · unfold lb_X11_words_52; rw [if_neg (show ¬ nI 10 ≤ 9 by decide)]
      · unfold lb_X12_words_31; rw [if_neg (show ¬ nI 10 ≤ 9 by decide)]
  obtain ⟨M6, g6, H6, w6⟩ := kinds_eq wr hi hj (n := m) (by omega)
  refine w6.qr (bcI (orB N sem x i m j 10)) ?_ ?_ Gr (Hq.trans (H6.mono mh_sm))
  · unfold fn_X11_words
    simp only [g_0_1 wc, k_3 wc, Option.bind_some, a1, b1, if_neg one0, if_neg nij, if_neg d1, if_pos d2, g_0_11 wc, k_77 wc, e2, er, bc_eq, r1]
  · unfold fn_X12_words fn_X12_areTwo
    simp only [p1, k_86 wm, Option.bind_some, a2, b2, if_neg one0, if_neg nij, soon_yes d1 d2, e2', eq, k_86 wr.wm, g6]
theorem q_drought (w : WW N sem x l C M) (a b n : Int32) : QR (fn_X11_drought C 0 a b n) (fn_X12_drought M 86 a b n) C M := by
  have h6 := w.v.1
  obtain ⟨M1, p1, F1, w1⟩ := w.thr
  have wc := w1.wc
  have wm := w1.wm
  have no : ∀ {oM}, fn_X11_drought C 0 a b n = some (-1, C) → oM = some (-1, M1) → QR (fn_X11_drought C 0 a b n) oM C M := fun e1 e2 => w1.qr (-1) e1 e2 (Fr.refl _ _) F1
  rcases w1.bas a with ⟨a1, a2⟩ | ⟨i, hi, rfl, a1, a2⟩
  · refine no ?_ ?_
    · unfold fn_X11_drought; simp only [g_0_1 wc, k_3 wc, Option.bind_some, a1, if_true]
    · unfold fn_X12_drought; simp only [p1, k_86 wm, Option.bind_some, a2, if_true]
  rcases w1.bas b with ⟨bb1, bb2⟩ | ⟨j, hj, rfl, bb1, bb2⟩
  · refine no ?_ ?_
    · unfold fn_X11_drought; simp only [g_0_1 wc, k_3 wc, Option.bind_some, a1, bb1, if_neg one0, if_true]
    · unfold fn_X12_drought; simp only [p1, k_86 wm, Option.bind_some, a2, bb2, if_neg one0, if_true]
  rcases int_cases 40 (by decide) n with ⟨d1, -⟩ | ⟨d1, d2⟩ | ⟨d1, d2, m, hm, rfl⟩
  · refine no ?_ ?_
    · unfold fn_X11_drought; simp only [g_0_1 wc, k_3 wc, Option.bind_some, a1, bb1, if_neg one0, if_pos d1]
    · unfold fn_X12_drought; simp only [p1, k_86 wm, Option.bind_some, a2, bb2, if_neg one0, soon_no (Or.inl d1), if_true]
  · replace d2 : ¬ n ≤ 40 := d2
    refine no ?_ ?_
    · unfold fn_X11_drought; simp only [g_0_1 wc, k_3 wc, Option.bind_some, a1, bb1, if_neg one0, if_neg d1, if_neg d2]
    · unfold fn_X12_drought; simp only [p1, k_86 wm, Option.bind_some, a2, bb2, if_neg one0, soon_no (Or.inr ⟨d1, d2⟩), if_true]
  replace d2 : nI m ≤ 40 := d2
  obtain ⟨r, q, er, eq, r1, r2, Gr, Hq, wr⟩ : ∃ r q, lp (lb_X11_drought_44 0 (nI i) (nI j) (nI m)) lpN (-2, 0, 0, C) = some r ∧ lp (lb_X12_drought_40 86 (nI i) (nI j) (nI m)) lpN (-2, 0, 0, M1) = some q ∧ (r.1 = q.1 ∧ r.2.1 = q.2.1 ∧ Fr sc C r.2.2 ∧ Fr sm M q.2.2 ∧ WW N sem x l r.2.2 q.2.2) := by
    refine lp_two (fun k s t => s.1 = t.1 ∧ s.2.1 = t.2.1 ∧ s.2.2.1 = nI k ∧ t.2.2.1 = nI k ∧ Fr sc C s.2.2.2 ∧ Fr sm M t.2.2.2 ∧ WW N sem x l s.2.2.2 t.2.2.2) _ 10 (by decide) ?_ ?_ ⟨rfl, rfl, rfl, rfl, Fr.refl _ _, F1, w1⟩
    · rintro k ⟨s1, s2, s3, Ck⟩ ⟨t1, t2, t3, Mk⟩ hk ⟨rfl, rfl, rfl, rfl, GC, GM, wk⟩
      dsimp only at GC GM wk
      obtain ⟨C3, f3, G3, w3, S3⟩ := withC wk hi (show k ≤ 9 by omega) (n := m) (by omega)
      obtain ⟨M3, g3, H3, w4⟩ := withM w3 hi (show k ≤ 9 by omega) hj (n := m) (by omega)
      have mkC := isAtMark_eq w3.wc (Or.inr rfl) S3 (show j < 6 by omega)
      have mk0 : lvX N sem x i k m (6 + j) = x (6 + j) := by
        unfold lvX
        rw [hXs_mark w.v sem _ (by omega), up_ne _ _ (by omega)]
      have a3 : aI M3 87 14 (6 + nI j) = some (x (6 + j)) := by
        show aI M3 87 14 (nI 6 + nI j) = _
        rw [nI_add, aI_eq w4.wm 87 14 16 rfl (6 + j) (by omega) (by decide)]; exact congrArg some (w4.2.1.2.2.1 (6 + j) (by omega))
      have ck9 : nI k ≤ 9 := nI_le (b := 9) (by omega) (by decide)
      have G4 := GC.trans (G3.mono sh_sc)
      have H4 := GM.trans (H3.mono mh_sm)
      by_cases c : lvX N sem x i k m j < x (6 + j)
      · have mf : mkd (lvX N sem x i k m) j = false := by unfold mkd; rw [mk0]; simp [c]
        rw [mf] at mkC
        refine Or.inl ⟨(s1, s2, nI (k + 1), C3), (s1, s2, nI (k + 1), M3), ?_, ?_, rfl, rfl, rfl, rfl, G4, H4, w4⟩
        · unfold lb_X11_drought_44
          simp only [if_pos ck9, k_0 wk.wc, Option.bind_some, f3, g_0_9 w3.wc, k_28 w3.wc, mkC, if_pos (show b2 false = 0 from rfl), nI_1]
        · unfold lb_X12_drought_40
          simp only [if_pos ck9, k_86 wk.wm, Option.bind_some, g3, g_86_0 w4.wm, a3, if_pos c, nI_1]
      · have mf : mkd (lvX N sem x i k m) j = true := by unfold mkd; rw [mk0]; simp [c]
        rw [mf] at mkC
        have nb : ¬ b2 true = 0 := by decide
        by_cases d : s1 = -2
        · refine Or.inl ⟨(nI k, s2 + 1, nI (k + 1), C3), (nI k, s2 + 1, nI (k + 1), M3), ?_, ?_, rfl, rfl, rfl, rfl, G4, H4, w4⟩
          · unfold lb_X11_drought_44
            simp only [if_pos ck9, k_0 wk.wc, Option.bind_some, f3, g_0_9 w3.wc, k_28 w3.wc, mkC, if_neg nb, if_pos d, nI_1]
          · unfold lb_X12_drought_40
            simp only [if_pos ck9, k_86 wk.wm, Option.bind_some, g3, g_86_0 w4.wm, a3, if_neg c, if_pos d, nI_1]
        · refine Or.inl ⟨(s1, s2 + 1, nI (k + 1), C3), (s1, s2 + 1, nI (k + 1), M3), ?_, ?_, rfl, rfl, rfl, rfl, G4, H4, w4⟩
          · unfold lb_X11_drought_44
            simp only [if_pos ck9, k_0 wk.wc, Option.bind_some, f3, g_0_9 w3.wc, k_28 w3.wc, mkC, if_neg nb, if_neg d, nI_1]
          · unfold lb_X12_drought_40
            simp only [if_pos ck9, k_86 wk.wm, Option.bind_some, g3, g_86_0 w4.wm, a3, if_neg c, if_neg d, nI_1]
    · rintro ⟨s1, s2, s3, Ck⟩ ⟨t1, t2, t3, Mk⟩ ⟨rfl, rfl, rfl, rfl, GC, GM, wk⟩
      refine ⟨(s1, s2, Ck), (s1, s2, Mk), ?_, ?_, rfl, rfl, GC, GM, wk⟩
      · unfold lb_X11_drought_44; rw [if_neg (show ¬ nI 10 ≤ 9 by decide)]
      · unfold lb_X12_drought_40; rw [if_neg (show ¬ nI 10 ≤ 9 by decide)]
  by_cases d : r.1 = -2
  · refine wr.qr (-2) ?_ ?_ Gr Hq
    · unfold fn_X11_drought
      simp only [g_0_1 wc, k_3 wc, Option.bind_some, a1, bb1, if_neg one0, if_neg d1, if_pos d2, er, if_pos d, d, if_true]
    · unfold fn_X12_drought
      simp only [p1, k_86 wm, Option.bind_some, a2, bb2, if_neg one0, soon_yes d1 d2, eq, ← r1, if_pos d, d, if_true]
  · obtain ⟨C3, M3, f3, g3, G3, H3, w3⟩ := wr.begin
    obtain ⟨C4, M4, f4, g4, G4, H4, w4⟩ := w3.add (by decide) (Int32.toInt64 r.2.1)
    refine w4.qr r.1 ?_ ?_ (Gr.trans ((G3.mono stC_sc).trans (G4.mono stC_sc))) (Hq.trans ((H3.mono stM_sm).trans (H4.mono stM_sm)))
    · unfold fn_X11_drought
      simp only [g_0_1 wc, k_3 wc, Option.bind_some, a1, bb1, if_neg one0, if_neg d1, if_pos d2, er, if_neg d, g_0_11 wr.wc, k_77 wr.wc, f3, g_0_11 w3.wc, k_77 w3.wc, f4]
    · unfold fn_X12_drought
      simp only [p1, k_86 wm, Option.bind_some, a2, bb2, if_neg one0, soon_yes d1 d2, eq, ← r1, ← r2, if_neg d, g3, k_86 w3.wm, g4]
end Q4
