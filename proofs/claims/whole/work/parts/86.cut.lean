/-! the least cut -/
theorem cu_sh : ∀ n, n < 9 → (1 : Int32) <<< (nI n &&& 31) = nI (2 ^ n) := by decide +kernel
theorem cu_all : ∀ n, n < 9 → ∀ st, st < 2 ^ n → (nI (2 ^ n) - 1) &&& (nI st ^^^ (-1)) = nI (2 ^ n - (st + 1)) := by decide +kernel
theorem cu_bc : ∀ q, q < 256 → bcI (nI q) = nI (cntB 8 q.testBit) := by decide +kernel
theorem cu_m1 : ∀ q, q < 256 → ¬ nI q = -1 := by decide +kernel
theorem cu_sub {n st q : Nat} (hs : st < 2 ^ n) (hq : q < 2 ^ n) (h : q &&& st = 0) : q ||| (2 ^ n - (st + 1)) = 2 ^ n - (st + 1) := by
  apply Nat.eq_of_testBit_eq
  intro i
  rw [Nat.testBit_or, Nat.testBit_two_pow_sub_succ hs]
  cases e : q.testBit i
  · rfl
  · have hi : i < n := by
      apply Nat.lt_of_not_le
      intro hh
      rw [tb_big hq hh] at e
      cases e
    have e2 : st.testBit i = false := by
      have := congrArg (fun v => v.testBit i) h
      simp only [Nat.testBit_and, e, Bool.true_and, Nat.zero_testBit] at this
      exact this
    simp [hi, e2]
theorem cu_self {n st : Nat} (hs : st < 2 ^ n) : (2 ^ n - (st + 1)) &&& st = 0 := by
  apply Nat.eq_of_testBit_eq
  intro i
  rw [Nat.testBit_and, Nat.testBit_two_pow_sub_succ hs, Nat.zero_testBit]
  cases st.testBit i <;> simp
theorem cu_cover {n st : Nat} (hs : st < 2 ^ n) {i : Nat} (hi : i < n) : (st ||| (2 ^ n - (st + 1))).testBit i = true := by
  rw [Nat.testBit_or, Nat.testBit_two_pow_sub_succ hs]
  cases st.testBit i <;> simp [hi]
section CUT
variable {N : Net} {sem : Sem} {x : XX} {l : List Int64} {C M : aH}
theorem rcR_none (u : Int32) (v : Nat) : ∀ n, (∀ s, s < n → isBit u s = true) → rcR N u n v = v
  | 0, _ => rfl
  | n + 1, h => by
    show rcS N u n (rcR N u n v) = v
    rw [rcR_none u v n (fun s hs => h s (by omega))]
    unfold rcS
    rw [if_pos (h n (by omega))]
theorem itr_fix {α : Type} (g : α → α) (a : α) (h : g a = a) : ∀ n, itr g n a = a
  | 0 => rfl
  | n + 1 => by
    show g (itr g n a) = a
    rw [itr_fix g a h n, h]
def cuts (N : Net) (x : XX) (a b q : Nat) : Bool := !(rcd N (x 13 ||| nI q) a).testBit b
theorem cut_loops (w : WW N sem x l C M) {a b st : Nat} (ha : a < N_b N) (hb : b < N_b N) (hab : a ≠ b) (hs : st < 2 ^ N_s N) (est : x 13 = nI st) :
    ∃ m, m < 256 ∧ fn_X10_leastCut C 9 (nI a) (nI b) (x 13) = some (nI m) ∧ lp (lb_X12_cut_21 M 86 (nI a) (nI b)) lpN (-1, 0) = some (nI m) := by
  have h8 := w.v.2.1
  have h6 := w.v.1
  have wc := w.wc
  have wm := w.wm
  have p8 : 2 ^ N_s N ≤ 256 := Nat.pow_le_pow_right (n := 2) (by decide) h8
  have p0 : 0 < 2 ^ N_s N := Nat.two_pow_pos _
  generalize hO : 2 ^ N_s N - (st + 1) = O
  have lO : O < 2 ^ N_s N := by omega
  have Ost : O &&& st = 0 := by rw [← hO]; exact cu_self hs
  have Ocut : cuts N x a b O = true := by
    unfold cuts
    have e1 : ∀ s, s < N_s N → isBit (x 13 ||| nI O) s = true := fun s hh => by
      rw [est, fa_or, isBit_nI _ (by omega), ← hO]
      exact cu_cover hs hh
    have e2 : rcd N (x 13 ||| nI O) a = 2 ^ a := itr_fix _ _ (rcR_none _ _ _ e1) _
    rw [e2, Nat.testBit_two_pow_of_ne hab]
    rfl
  have sub : ∀ q, q < 2 ^ N_s N → q &&& st = 0 → q ||| O = O := fun q hq e => by rw [← hO]; exact cu_sub hs hq e
  have bcl : ∀ q r, q < 256 → r < 256 → (bcI (nI q) < bcI (nI r) ↔ cntB 8 q.testBit < cntB 8 r.testBit) := by
    intro q r hq hr
    rw [cu_bc q hq, cu_bc r hr]
    have l1 := cntB_le q.testBit 8
    have l2 := cntB_le r.testBit 8
    constructor
    · intro e
      apply Nat.lt_of_not_le
      intro hh
      exact nI_nlt hh (by omega) e
    · intro e
      exact nI_lt e (by omega)
  have and0 : ∀ q, q < 2 ^ N_s N → ((nI q &&& nI st) = 0 ↔ q &&& st = 0) := by
    intro q hq
    rw [nx_and, ← nI_0]
    have : q &&& st ≤ q := Nat.and_le_left
    exact nI_eq (by omega) (by omega)
  obtain ⟨rC, rM, e1, e2, m, hm, f1, f2⟩ : ∃ rC rM, lp (lb_X10_leastCut_20 C 9 (nI a) (nI b) (x 13)) lpN (nI O, 0) = some rC ∧ lp (lb_X12_cut_21 M 86 (nI a) (nI b)) lpN (-1, 0) = some rM ∧ ∃ m, m < 256 ∧ rC = nI m ∧ rM = nI m := by
    refine lp_two (fun q (s t : Int32 × Int32) => s.2 = nI q ∧ t.2 = nI q ∧ ((t.1 = -1 ∧ s.1 = nI O ∧ q ≤ O) ∨ ∃ m, m < 2 ^ N_s N ∧ t.1 = nI m ∧ s.1 = nI m)) (fun r q => ∃ m, m < 256 ∧ r = nI m ∧ q = nI m) (2 ^ N_s N) (by omega) ?_ ?_ ⟨rfl, rfl, Or.inl ⟨rfl, rfl, Nat.zero_le _⟩⟩
    · rintro q ⟨s1, s2⟩ ⟨t1, t2⟩ hq ⟨rfl, rfl, I⟩
      left
      dsimp only at I
      have cq : nI q < nI (2 ^ N_s N) := nI_lt hq (by omega)
      have rC := reachedC wc w.cn w.v (x 13 ||| nI q) ha
      have rM := reachOfM w.2.1 w.v (nI q) ha
      have hasC : (nI (rcd N (x 13 ||| nI q) a) >>> (nI b &&& 31)) &&& 1 = 0 ↔ cuts N x a b q = true := by
        have := isBit_nI (rcd N (x 13 ||| nI q) a) (show b < 31 by omega)
        unfold cuts
        rw [← this]
        unfold isBit
        simp
      have hasM : fn_X12_has M (nI (rcd N (x 13 ||| nI q) a)) (nI b) = some (b2 (!cuts N x a b q)) := by
        rw [has_eq _ _ (show b < 31 by omega), isBit_nI _ (show b < 31 by omega)]
        unfold cuts
        rw [Bool.not_not]
      have eC : ∀ s1, lb_X10_leastCut_20 C 9 (nI a) (nI b) (x 13) (s1, nI q) = some (.inl ((if bcI (nI q) < bcI s1 ∧ q &&& st = 0 ∧ cuts N x a b q = true then nI q else s1), nI (q + 1))) := by
        intro s1
        unfold lb_X10_leastCut_20
        simp only [g_9_0 wc, w_gI wc 3 0 1 rfl, w.cn.2.1, Option.bind_some, cu_sh _ (show N_s N < 9 by omega), if_pos cq, bc_eq, nI_1]
        by_cases c1 : bcI (nI q) < bcI s1
        · rw [if_pos c1, Option.bind_some, if_neg one0]
          by_cases c2 : q &&& st = 0
          · rw [if_pos (by rw [est]; exact (and0 q hq).mpr c2)]
            simp only [k_9 wc, Option.bind_some, rC]
            by_cases c3 : cuts N x a b q = true
            · rw [if_pos (hasC.mpr c3), Option.bind_some, if_neg one0, if_pos ⟨c1, c2, c3⟩]
            · rw [if_neg (fun q => c3 (hasC.mp q)), Option.bind_some, if_pos rfl, if_neg (fun q => c3 q.2.2)]
          · rw [if_neg (by rw [est]; exact fun q' => c2 ((and0 q hq).mp q')), if_neg (fun q => c2 q.2.1)]
        · rw [if_neg c1, Option.bind_some, if_pos rfl, if_neg (fun q => c1 q.1)]
      have eM : ∀ t1, lb_X12_cut_21 M 86 (nI a) (nI b) (t1, nI q) = some (.inl ((if (t1 = -1 ∨ bcI (nI q) < bcI t1) ∧ q &&& st = 0 ∧ cuts N x a b q = true then nI q else t1), nI (q + 1))) := by
        intro t1
        unfold lb_X12_cut_21
        have a13 : aI M 87 14 13 = some (nI st) := by
          rw [show (13 : Int32) = nI 13 from rfl, aI_eq wm 87 14 16 rfl 13 (by decide) (by decide), w.2.1.2.2.1 13 (by decide), est]
        simp only [w_gI wm 86 11 2 rfl, w.mn.2.1, Option.bind_some, cu_sh _ (show N_s N < 9 by omega), if_pos cq, bc_eq, nI_1, g_86_0 wm, a13, k_86 wm, rM, hasM]
        by_cases c2 : q &&& st = 0
        · rw [if_pos ((and0 q hq).mpr c2)]
          by_cases c1 : t1 = -1
          · rw [if_pos c1]
            cases c3 : cuts N x a b q
            · rw [if_neg (show ¬ b2 (!false) = 0 by decide), if_neg (fun q => absurd q.2.2 (by decide))]
            · rw [if_pos (show b2 (!true) = 0 by decide), if_pos ⟨Or.inl c1, c2, rfl⟩]
          · rw [if_neg c1]
            by_cases c4 : bcI (nI q) < bcI t1
            · rw [if_pos c4]
              cases c3 : cuts N x a b q
              · rw [if_neg (show ¬ b2 (!false) = 0 by decide), if_neg (fun q => absurd q.2.2 (by decide))]
              · rw [if_pos (show b2 (!true) = 0 by decide), if_pos ⟨Or.inr c4, c2, rfl⟩]
            · rw [if_neg c4, if_neg (fun q => q.1.elim c1 c4)]
        · rw [if_neg (fun q' => c2 ((and0 q hq).mp q')), if_neg (fun q => c2 q.2.1)]
      refine ⟨_, _, eC s1, eM t1, rfl, rfl, ?_⟩
      dsimp only
      rcases I with ⟨rfl, rfl, hqO⟩ | ⟨m, hm, rfl, rfl⟩
      · by_cases c2 : q &&& st = 0 ∧ cuts N x a b q = true
        · right
          rw [if_pos (c := (_ ∨ _) ∧ _) ⟨Or.inl rfl, c2⟩]
          refine ⟨q, hq, rfl, ?_⟩
          by_cases c1 : bcI (nI q) < bcI (nI O)
          · rw [if_pos ⟨c1, c2⟩]
          · rw [if_neg (fun q => c1 q.1)]
            have s := sub q hq c2.1
            have q8 : q < 2 ^ 8 := by omega
            have O8 : O < 2 ^ 8 := by omega
            rcases bits_lt q8 O8 s with e | e
            · rw [e]
            · exact absurd ((bcl q O (by omega) (by omega)).mpr e) c1
        · left
          rw [if_neg (c := (_ ∨ _) ∧ _) (fun q => c2 q.2), if_neg (fun q => c2 q.2)]
          refine ⟨rfl, rfl, ?_⟩
          have : q ≠ O := by
            rintro rfl
            exact c2 ⟨Ost, Ocut⟩
          omega
      · right
        have n1 : ¬ nI m = -1 := cu_m1 m (by omega)
        by_cases c2 : bcI (nI q) < bcI (nI m) ∧ q &&& st = 0 ∧ cuts N x a b q = true
        · rw [if_pos c2, if_pos (c := (_ ∨ _) ∧ _) ⟨Or.inr c2.1, c2.2⟩]
          exact ⟨q, hq, rfl, rfl⟩
        · rw [if_neg c2, if_neg (c := (_ ∨ _) ∧ _) (fun q => c2 ⟨q.1.resolve_left n1, q.2⟩)]
          exact ⟨m, hm, rfl, rfl⟩
    · rintro ⟨s1, s2⟩ ⟨t1, t2⟩ ⟨rfl, rfl, I⟩
      dsimp only at I
      have cq : ¬ nI (2 ^ N_s N) < nI (2 ^ N_s N) := nI_nlt (Nat.le_refl _) (by omega)
      rcases I with ⟨-, -, hqO⟩ | ⟨m, hm, rfl, rfl⟩
      · omega
      · refine ⟨nI m, nI m, ?_, ?_, m, by omega, rfl, rfl⟩
        · unfold lb_X10_leastCut_20
          simp only [g_9_0 wc, w_gI wc 3 0 1 rfl, w.cn.2.1, Option.bind_some, cu_sh _ (show N_s N < 9 by omega), if_neg cq]
        · unfold lb_X12_cut_21
          simp only [w_gI wm 86 11 2 rfl, w.mn.2.1, Option.bind_some, cu_sh _ (show N_s N < 9 by omega), if_neg cq]
  subst f1 f2
  refine ⟨m, hm, ?_, e2⟩
  unfold fn_X10_leastCut
  have e0 : (nI (2 ^ N_s N) - 1) &&& (x 13 ^^^ (-1)) = nI O := by rw [est, cu_all _ (by omega) st hs, hO]
  simp only [g_9_0 wc, w_gI wc 3 0 1 rfl, w.cn.2.1, Option.bind_some, cu_sh _ (show N_s N < 9 by omega), e0, e1]
theorem q_cut (w : WW N sem x l C M) (a b : Int32) : QR (fn_X11_cut C 0 a b) (fn_X12_cut M 86 a b) C M := by
  obtain ⟨M1, p1, F1, w1⟩ := w.thr
  have h6 := w.v.1
  have wc := w1.wc
  have wm := w1.wm
  rcases w1.bas a with ⟨a1, a2⟩ | ⟨i, hi, rfl, a1, a2⟩
  · refine w1.qr (-1) ?_ ?_ (Fr.refl _ _) F1
    · unfold fn_X11_cut; simp only [g_0_1 wc, k_3 wc, Option.bind_some, a1, if_true]
    · unfold fn_X12_cut fn_X12_areTwo; simp only [p1, k_86 wm, Option.bind_some, a2, if_true]
  rcases w1.bas b with ⟨b1, b2⟩ | ⟨j, hj, rfl, b1, b2⟩
  · refine w1.qr (-1) ?_ ?_ (Fr.refl _ _) F1
    · unfold fn_X11_cut; simp only [g_0_1 wc, k_3 wc, Option.bind_some, a1, if_neg one0, b1, if_true]
    · unfold fn_X12_cut fn_X12_areTwo; simp only [p1, k_86 wm, Option.bind_some, a2, if_neg one0, b2, if_true]
  by_cases hij : i = j
  · subst hij
    refine w1.qr (-1) ?_ ?_ (Fr.refl _ _) F1
    · unfold fn_X11_cut; simp only [g_0_1 wc, k_3 wc, Option.bind_some, a1, if_neg one0, if_true]
    · unfold fn_X12_cut fn_X12_areTwo; simp only [p1, k_86 wm, Option.bind_some, a2, if_neg one0, if_true]
  have nij : ¬ nI i = nI j := nI_ne (by omega) (by omega) hij
  obtain ⟨st, hs, est⟩ := w1.2.2.2.2.2.2.2.2.1
  obtain ⟨m, hm, f1, f2⟩ := cut_loops w1 hi hj hij hs est
  obtain ⟨C2, M2, e2, e2', G2, H2, w2⟩ := w1.begin
  obtain ⟨C3, M3, e3, e3', G3, H3, w3⟩ := w2.add (by decide) (Int32.toInt64 (nI m))
  refine w3.qr (bcI (nI m)) ?_ ?_ ((G2.trans G3).mono stC_sc) (F1.trans ((H2.trans H3).mono stM_sm))
  · unfold fn_X11_cut
    simp only [g_0_1 wc, k_3 wc, Option.bind_some, a1, b1, if_neg one0, if_neg nij, g_0_2 wc, g_0_7 wc, stuckC w1, k_9 wc, f1, g_0_11 wc, k_77 wc, e2, g_0_11 w2.wc, k_77 w2.wc, e3, bc_eq]
  · unfold fn_X12_cut fn_X12_areTwo
    simp only [p1, k_86 wm, Option.bind_some, a2, b2, if_neg one0, if_neg nij, f2, e2', k_86 w2.wm, e3', bc_eq]
theorem stp_cut {c : Nat} (hc : c ≤ 64) (a b : Int32) : STEP c (fun h => fn_X11_cut h 0 a b) (fun h => fn_X12_cut h 86 a b) := STEP.of hc fun N sem x l C M w _ => q_cut w a b
end CUT
