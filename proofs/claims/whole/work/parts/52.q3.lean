/-! questions: quarters, learns -/
section Q3
variable {N : Net} {sem : Sem} {x : XX} {l : List Int64} {C M : aH}
/-- how many were found, and what is told of the first -/
def fnd (f : Int32) (l : List Int64) : Prop := (f = 0 ∧ l = []) ∨ (∃ n : Nat, 0 < n ∧ n < 1000 ∧ f = nI n ∧ l.length = 3)
theorem tellFirst_eq (w : WW N sem x l C M) {f : Int32} (hf : fnd f l) (a b c : Int32) :
    ∃ C1 l', fn_X11_tellFirstQuarter C 0 f a b c = some C1 ∧ Fr stC C C1 ∧ ((f = 0 ∧ l' = ([a.toInt64, b.toInt64, c.toInt64] : List Int64)) ∨ (¬ f = 0 ∧ l' = l)) ∧ l'.length = 3 ∧
      ∃ M1, (if f = 0 then (fn_X12_tell M 86 (Int32.toInt64 a)).bind fun h45 => (ck h45 86 11).bind fun _ => (fn_X12_tell h45 86 (Int32.toInt64 b)).bind fun h47 => (ck h47 86 11).bind fun _ => (fn_X12_tell h47 86 (Int32.toInt64 c)) else some M) = some M1 ∧ Fr stM M M1 ∧ WW N sem x l' C1 M1 := by
  rcases hf with ⟨rfl, rfl⟩ | ⟨n, h1, h2, rfl, hl⟩
  · obtain ⟨C1, M1, e1, g1, F1, H1, w1⟩ := w.add (by decide) (Int32.toInt64 a)
    obtain ⟨C2, M2, e2, g2, F2, H2, w2⟩ := w1.add (by simp) (Int32.toInt64 b)
    obtain ⟨C3, M3, e3, g3, F3, H3, w3⟩ := w2.add (by simp) (Int32.toInt64 c)
    refine ⟨C3, _, ?_, F1.trans (F2.trans F3), Or.inl ⟨rfl, rfl⟩, rfl, M3, ?_, H1.trans (H2.trans H3), w3⟩
    · unfold fn_X11_tellFirstQuarter
      simp only [if_true, g_0_11 w.wc, k_77 w.wc, Option.bind_some, e1, g_0_11 w1.wc, k_77 w1.wc, e2, g_0_11 w2.wc, k_77 w2.wc, e3]
    · simp only [if_true, g1, Option.bind_some, k_86 w1.wm, g2, k_86 w2.wm, g3]
  · have n0 : ¬ nI n = 0 := nI_ne0 h1 (by omega)
    refine ⟨C, l, ?_, Fr.refl _ _, Or.inr ⟨n0, rfl⟩, hl, M, by rw [if_neg n0], Fr.refl _ _, w⟩
    unfold fn_X11_tellFirstQuarter
    rw [if_neg n0]
def fndk (K : Nat) (f : Int32) (l : List Int64) : Prop := (f = 0 ∧ l = []) ∨ (∃ n : Nat, 0 < n ∧ n ≤ K ∧ f = nI n ∧ l.length = 3)
set_option maxHeartbeats 1000000 in
theorem q_quarters (w : WW N sem x l C M) (t n : Int32) : QR (fn_X11_quarters C 0 t n) (fn_X12_quarters M 86 t n) C M := by
  have h6 := w.v.1
  obtain ⟨M1, p1, F1, w1⟩ := w.thr
  have wc := w1.wc
  have wm := w1.wm
  have no : ∀ {oM}, fn_X11_quarters C 0 t n = some (-1, C) → oM = some (-1, M1) → QR (fn_X11_quarters C 0 t n) oM C M := fun e1 e2 => w1.qr (-1) e1 e2 (Fr.refl _ _) F1
  rcases int_cases 15 (by decide) t with ⟨c1, -⟩ | ⟨c1, c2⟩ | ⟨c1, c2, tn, ht, -⟩
  · refine no ?_ ?_
    · unfold fn_X11_quarters; simp only [if_pos c1]
    · unfold fn_X12_quarters; simp only [p1, Option.bind_some, in_no (Or.inl c1), if_true]
  · replace c2 : ¬ t ≤ 15 := c2
    refine no ?_ ?_
    · unfold fn_X11_quarters; simp only [if_neg c1, if_neg c2]
    · unfold fn_X12_quarters; simp only [p1, Option.bind_some, in_no (Or.inr ⟨c1, c2⟩), if_true]
  replace c2 : t ≤ 15 := c2
  rcases int_cases 40 (by decide) n with ⟨d1, -⟩ | ⟨d1, d2⟩ | ⟨d1, d2, m, hm, rfl⟩
  · refine no ?_ ?_
    · unfold fn_X11_quarters; simp only [if_neg c1, if_pos c2, if_pos d1]
    · unfold fn_X12_quarters; simp only [p1, Option.bind_some, in_yes c1 c2, if_neg one0, soon_no (Or.inl d1), if_true]
  · replace d2 : ¬ n ≤ 40 := d2
    refine no ?_ ?_
    · unfold fn_X11_quarters; simp only [if_neg c1, if_pos c2, if_neg d1, if_neg d2]
    · unfold fn_X12_quarters; simp only [p1, Option.bind_some, in_yes c1 c2, if_neg one0, soon_no (Or.inr ⟨d1, d2⟩), if_true]
  replace d2 : nI m ≤ 40 := d2
  obtain ⟨C2, M2, e2, e2', G2, H2, w2⟩ := w1.begin
  have bN : N_b N < 2 ^ 31 := by omega
  -- the innermost: the third basin
  have inner : ∀ (a b : Nat) (f : Int32) (K : Nat) (Ci Mi : aH) (li : List Int64), K ≤ 900 → Fr sc C Ci → Fr sm M Mi → WW N sem x li Ci Mi → fndk K f li → (∀ c, c < N_b N → hI Ci 84 c = hI Mi 103 c) →
      ∃ r q, lp (lb_X11_quarters_76 0 t (nI m) (nI a) (nI b)) lpN (f, 0, Ci) = some r ∧ lp (lb_X12_quarters_170 86 t (nI m) (nI a) (nI b)) lpN (f, 0, Mi) = some q ∧ (r.1 = q.1 ∧ Fr sc C r.2 ∧ Fr sm M q.2 ∧ ∃ l', WW N sem x l' r.2 q.2 ∧ fndk (K + N_b N) r.1 l') := by
    intro a b f K Ci Mi li hK GC GM wi hf hmk
    refine lp_two (fun c s t => s.1 = t.1 ∧ s.2.1 = nI c ∧ t.2.1 = nI c ∧ Fr sc C s.2.2 ∧ Fr sm M t.2.2 ∧ (∀ c, c < N_b N → hI s.2.2 84 c = hI t.2.2 103 c) ∧ ∃ l', WW N sem x l' s.2.2 t.2.2 ∧ fndk (K + c) s.1 l') _ (N_b N) (by omega) ?_ ?_ ⟨rfl, rfl, rfl, GC, GM, hmk, li, wi, hf⟩
    · rintro c ⟨s1, s2, Cc⟩ ⟨t1, t2, Mc⟩ hc ⟨rfl, rfl, rfl, GC, GM, hmk, l', wl, hfk⟩
      dsimp only at GC GM hmk wl hfk
      have cc : nI c < nI (N_b N) := nI_lt hc bN
      by_cases eq : hI Mc 103 c = t
      · have hf' : fnd s1 l' := by
          rcases hfk with h | ⟨n, g1, g2, g3, g4⟩
          · exact Or.inl h
          · exact Or.inr ⟨n, g1, by omega, g3, g4⟩
        obtain ⟨C3, l3, e3, G3, alt, hl3, M3, g3, H3, w3⟩ := tellFirst_eq wl hf' (nI a) (nI b) (nI c)
        refine Or.inl ⟨(s1 + 1, nI (c + 1), C3), (s1 + 1, nI (c + 1), M3), ?_, ?_, rfl, rfl, rfl, GC.trans (G3.mono stC_sc), GM.trans (H3.mono stM_sm), fun d hd => ?_, l3, w3, ?_⟩
        · unfold lb_X11_quarters_76
          simp only [g_0_1 wl.wc, w_gI wl.wc 3 0 0 rfl, wl.cn.1, Option.bind_some, if_pos cc, g_0_14 wl.wc, aI_eq wl.wc 84 14 6 rfl c (by omega) (by decide), hmk c hc, if_pos eq, k_0 wl.wc, e3, nI_1]
        · unfold lb_X12_quarters_170
          simp only [w_gI wl.wm 86 11 1 rfl, wl.mn.1, Option.bind_some, if_pos cc, g_86_32 wl.wm, aI_eq wl.wm 103 14 6 rfl c (by omega) (by decide), if_pos eq, k_86 wl.wm, nI_1]
          by_cases z : s1 = 0
          · rw [if_pos z] at g3
            rw [if_pos z]
            have := congrArg (fun o => Option.bind o (fun h49 => some (Sum.inl (β := Int32 × aH) (s1 + 1, nI (c + 1), h49)))) g3
            simpa only [Option.bind_assoc, Option.bind_some] using this
          · rw [if_neg z] at g3
            rw [if_neg z]
            cases g3
            rfl
        · show hI C3 84 d = hI M3 103 d
          rw [G3.i 84 d rfl, H3.i 103 d rfl]; exact hmk d hd
        · rcases hfk with ⟨z, -⟩ | ⟨n, n1, n2, n3, n4⟩
          · refine Or.inr ⟨1, by decide, by omega, ?_, hl3⟩
            show s1 + 1 = nI 1
            rw [z]; rfl
          · refine Or.inr ⟨n + 1, by omega, by omega, ?_, hl3⟩
            show s1 + 1 = nI (n + 1)
            rw [n3, nI_1]
      · refine Or.inl ⟨(s1, nI (c + 1), Cc), (s1, nI (c + 1), Mc), ?_, ?_, rfl, rfl, rfl, GC, GM, hmk, l', wl, ?_⟩
        · unfold lb_X11_quarters_76
          simp only [g_0_1 wl.wc, w_gI wl.wc 3 0 0 rfl, wl.cn.1, Option.bind_some, if_pos cc, g_0_14 wl.wc, aI_eq wl.wc 84 14 6 rfl c (by omega) (by decide), hmk c hc, if_neg eq, nI_1]
        · unfold lb_X12_quarters_170
          simp only [w_gI wl.wm 86 11 1 rfl, wl.mn.1, Option.bind_some, if_pos cc, g_86_32 wl.wm, aI_eq wl.wm 103 14 6 rfl c (by omega) (by decide), if_neg eq, nI_1]
        · rcases hfk with h | ⟨n, n1, n2, n3, n4⟩
          · exact Or.inl h
          · exact Or.inr ⟨n, n1, by omega, n3, n4⟩
    · rintro ⟨s1, s2, Cc⟩ ⟨t1, t2, Mc⟩ ⟨rfl, rfl, rfl, GC, GM, hmk, l', wl, hfk⟩
      dsimp only at GC GM hmk wl hfk
      refine ⟨(s1, Cc), (s1, Mc), ?_, ?_, rfl, GC, GM, l', wl, hfk⟩
      · unfold lb_X11_quarters_76
        simp only [g_0_1 wl.wc, w_gI wl.wc 3 0 0 rfl, wl.cn.1, Option.bind_some, if_neg (nI_nlt (Nat.le_refl (N_b N)) bN)]
      · unfold lb_X12_quarters_170
        simp only [w_gI wl.wm 86 11 1 rfl, wl.mn.1, Option.bind_some, if_neg (nI_nlt (Nat.le_refl (N_b N)) bN)]
  -- the second basin
  have mid : ∀ (a : Nat) (f : Int32) (K : Nat) (Ci Mi : aH) (li : List Int64), a < N_b N → K ≤ 300 → Fr sc C Ci → Fr sm M Mi → WW N sem x li Ci Mi → fndk K f li →
      ∃ r q, lp (lb_X11_quarters_52 0 t (nI m) (nI a)) lpN (f, nI (a + 1), Ci) = some r ∧ lp (lb_X12_quarters_49 86 t (nI m) (nI a)) lpN (f, nI (a + 1), Mi) = some q ∧ (r.1 = q.1 ∧ Fr sc C r.2 ∧ Fr sm M q.2 ∧ ∃ l', WW N sem x l' r.2 q.2 ∧ fndk (K + 36) r.1 l') := by
    intro a f K Ci Mi li ha hK GC GM wi hf
    refine lp_two (fun d s t => s.1 = t.1 ∧ s.2.1 = nI (a + 1 + d) ∧ t.2.1 = nI (a + 1 + d) ∧ Fr sc C s.2.2 ∧ Fr sm M t.2.2 ∧ ∃ l', WW N sem x l' s.2.2 t.2.2 ∧ fndk (K + 6 * d) s.1 l') _ (N_b N - (a + 1)) (by omega) ?_ ?_ ⟨rfl, rfl, rfl, GC, GM, li, wi, hf⟩
    · rintro d ⟨s1, s2, Cc⟩ ⟨t1, t2, Mc⟩ hd ⟨rfl, rfl, rfl, GC, GM, l', wl, hfk⟩
      dsimp only at GC GM wl hfk
      have cc : nI (a + 1 + d) < nI (N_b N) := nI_lt (by omega) bN
      obtain ⟨C3, M3, M4, f3, g3, g4, G3, H3, w3, mk3⟩ := masks_eq wl ha (show a + 1 + d < N_b N by omega) (m := m) (by omega) s1 s1 t
      obtain ⟨r, q, er, eq, rq, Gr, Hq, lr, wr, fr⟩ := inner a (a + 1 + d) s1 (K + 6 * d) C3 M4 l' (by omega) (GC.trans G3) (GM.trans H3) w3 hfk mk3
      refine Or.inl ⟨(r.1, nI (a + 1 + d + 1), r.2), (q.1, nI (a + 1 + d + 1), q.2), ?_, ?_, rq, rfl, rfl, Gr, Hq, lr, wr, ?_⟩
      · unfold lb_X11_quarters_52
        simp only [g_0_1 wl.wc, w_gI wl.wc 3 0 0 rfl, wl.cn.1, Option.bind_some, if_pos cc, k_0 wl.wc, f3, er, nI_1]
      · unfold lb_X12_quarters_49
        simp only [w_gI wl.wm 86 11 1 rfl, wl.mn.1, Option.bind_some, if_pos cc, g3, g4, eq, nI_1]
      · rcases fr with h | ⟨n, n1, n2, n3, n4⟩
        · exact Or.inl h
        · exact Or.inr ⟨n, n1, by omega, n3, n4⟩
    · rintro ⟨s1, s2, Cc⟩ ⟨t1, t2, Mc⟩ ⟨rfl, rfl, rfl, GC, GM, l', wl, hfk⟩
      dsimp only at GC GM wl hfk
      have cc : ¬ nI (a + 1 + (N_b N - (a + 1))) < nI (N_b N) := nI_nlt (by omega) (by omega)
      refine ⟨(s1, Cc), (s1, Mc), ?_, ?_, rfl, GC, GM, l', wl, ?_⟩
      · unfold lb_X11_quarters_52
        simp only [g_0_1 wl.wc, w_gI wl.wc 3 0 0 rfl, wl.cn.1, Option.bind_some, if_neg cc]
      · unfold lb_X12_quarters_49
        simp only [w_gI wl.wm 86 11 1 rfl, wl.mn.1, Option.bind_some, if_neg cc]
      · rcases hfk with h | ⟨n, n1, n2, n3, n4⟩
        · exact Or.inl h
        · exact Or.inr ⟨n, n1, by omega, n3, n4⟩
  obtain ⟨r, q, er, eq, rq, Gr, Hq, lr, wr, fr⟩ : ∃ r q, lp (lb_X11_quarters_34 0 t (nI m)) lpN (0, 0, C2) = some r ∧ lp (lb_X12_quarters_34 86 t (nI m)) lpN (0, 0, M2) = some q ∧ (r.1 = q.1 ∧ Fr sc C r.2 ∧ Fr sm M q.2 ∧ ∃ l', WW N sem x l' r.2 q.2 ∧ fndk 300 r.1 l') := by
    refine lp_two (fun a s t => s.1 = t.1 ∧ s.2.1 = nI a ∧ t.2.1 = nI a ∧ Fr sc C s.2.2 ∧ Fr sm M t.2.2 ∧ ∃ l', WW N sem x l' s.2.2 t.2.2 ∧ fndk (36 * a) s.1 l') _ (N_b N) (by omega) ?_ ?_ ⟨rfl, rfl, rfl, G2.mono stC_sc, F1.trans (H2.mono stM_sm), [], w2, Or.inl ⟨rfl, rfl⟩⟩
    · rintro a ⟨s1, s2, Cc⟩ ⟨t1, t2, Mc⟩ ha ⟨rfl, rfl, rfl, GC, GM, l', wl, hfk⟩
      dsimp only at GC GM wl hfk
      have cc : nI a < nI (N_b N) := nI_lt ha bN
      obtain ⟨r, q, er, eq, rq, Gr, Hq, lr, wr, fr⟩ := mid a s1 (36 * a) Cc Mc l' ha (by omega) GC GM wl hfk
      refine Or.inl ⟨(r.1, nI (a + 1), r.2), (q.1, nI (a + 1), q.2), ?_, ?_, rq, rfl, rfl, Gr, Hq, lr, wr, fr⟩
      · unfold lb_X11_quarters_34
        simp only [g_0_1 wl.wc, w_gI wl.wc 3 0 0 rfl, wl.cn.1, Option.bind_some, if_pos cc, nI_1, er]
      · unfold lb_X12_quarters_34
        simp only [w_gI wl.wm 86 11 1 rfl, wl.mn.1, Option.bind_some, if_pos cc, nI_1, eq]
    · rintro ⟨s1, s2, Cc⟩ ⟨t1, t2, Mc⟩ ⟨rfl, rfl, rfl, GC, GM, l', wl, hfk⟩
      dsimp only at GC GM wl hfk
      have cc : ¬ nI (N_b N) < nI (N_b N) := nI_nlt (Nat.le_refl _) bN
      refine ⟨(s1, Cc), (s1, Mc), ?_, ?_, rfl, GC, GM, l', wl, ?_⟩
      · unfold lb_X11_quarters_34
        simp only [g_0_1 wl.wc, w_gI wl.wc 3 0 0 rfl, wl.cn.1, Option.bind_some, if_neg cc]
      · unfold lb_X12_quarters_34
        simp only [w_gI wl.wm 86 11 1 rfl, wl.mn.1, Option.bind_some, if_neg cc]
      · rcases hfk with h | ⟨n, n1, n2, n3, n4⟩
        · exact Or.inl h
        · exact Or.inr ⟨n, n1, by omega, n3, n4⟩
  refine wr.qr r.1 ?_ ?_ Gr Hq
  · unfold fn_X11_quarters
    simp only [if_neg c1, if_pos c2, if_neg d1, if_pos d2, g_0_11 wc, k_77 wc, Option.bind_some, e2, er]
  · unfold fn_X12_quarters
    simp only [p1, Option.bind_some, in_yes c1 c2, if_neg one0, soon_yes d1 d2, e2', eq, rq]
end Q3
