theorem h_choices (h : aH) (a b : Int32) : fn_X1_choices h a b = fn_X1_choices h00 a b := by
  unfold fn_X1_choices
  have : lb_X1_choices_12 h a b = lb_X1_choices_12 h00 a b := by funext s; unfold lb_X1_choices_12; rfl
  rw [this]
theorem h_power (h : aH) (a : Int64) (b : Int32) : fn_X1_power h a b = fn_X1_power h00 a b := by
  unfold fn_X1_power
  have : lb_X1_power_5 h a b = lb_X1_power_5 h00 a b := by funext s; unfold lb_X1_power_5; rfl
  rw [this]
theorem h_shared (h : aH) (a b : Int64) : fn_X1_greatestShared h a b = fn_X1_greatestShared h00 a b := by
  unfold fn_X1_greatestShared
  have : lb_X1_greatestShared_9 h = lb_X1_greatestShared_9 h00 := by funext s; unfold lb_X1_greatestShared_9; rfl
  rw [this]
theorem h_powerM (h : aH) (a : Int64) (b : Int32) : fn_X12_power h a b = fn_X12_power h00 a b := by
  unfold fn_X12_power
  have : lb_X12_power_5 h a b = lb_X12_power_5 h00 a b := by funext s; unfold lb_X12_power_5; rfl
  rw [this]
theorem h_common (h : aH) : ∀ (n : Nat) (a b : Int64), fn_X12_common n h a b = fn_X12_common n h00 a b
  | 0, _, _ => rfl
  | n + 1, a, b => by
    show fnF_X12_common (fn_X12_common n) h a b = fnF_X12_common (fn_X12_common n) h00 a b
    unfold fnF_X12_common
    simp only [h_common h n]
theorem h_spoils (h : aH) (a b c : Int32) : lb_X12_spoils_52 h 86 a b c = lb_X12_spoils_52 h00 86 a b c := by funext s; unfold lb_X12_spoils_52; rfl
theorem h_best (h : aH) (a b c : Int32) : fn_X1_isBestAgainst h a b c = fn_X1_isBestAgainst h00 a b c := by
  have g : ∀ p q r, fn_X1_gain h p q r = fn_X1_gain h00 p q r := fun p q r => by unfold fn_X1_gain; rfl
  have : ∀ y, lb_X1_isBestAgainst_10 h a c y = lb_X1_isBestAgainst_10 h00 a c y := fun y => by funext s; unfold lb_X1_isBestAgainst_10; simp only [g]
  unfold fn_X1_isBestAgainst
  simp only [g, this]
theorem h_bestM (h : aH) (a b c : Int32) : fn_X12_isBest h a b c = fn_X12_isBest h00 a b c := by
  have g : ∀ p q r, fn_X12_gets h p q r = fn_X12_gets h00 p q r := fun p q r => by unfold fn_X12_gets; rfl
  have : lb_X12_isBest_2 h a b c = lb_X12_isBest_2 h00 a b c := by funext s; unfold lb_X12_isBest_2; simp only [g]
  unfold fn_X12_isBest
  rw [this]
section Games
variable {N : Net} {sem : Sem} {x : XX} {l : List Int64} {C M : aH}
theorem rng1 {n : Int32} {k : Nat} (hk : k < 2 ^ 31) (c1 : ¬ n < 1) (c2 : n ≤ nI k) : ∃ m : Nat, m < k ∧ n = nI (m + 1) := by
  have n0 : ¬ n < 0 := fun q => c1 (by
    have a := Int32.lt_iff_toInt_lt.mp q
    apply Int32.lt_iff_toInt_lt.mpr
    have : (1 : Int32).toInt = 1 := by decide
    have : (0 : Int32).toInt = 0 := by decide
    omega)
  obtain ⟨m, hm, rfl⟩ := nI_of2 (x := n) (M := nI k) (n := k) (nI_toInt hk) n0 c2
  have : m ≠ 0 := fun q => c1 (by rw [q]; decide)
  exact ⟨m - 1, by omega, by rw [Nat.sub_add_cancel (by omega)]⟩
theorem q_spoils (w : WW N sem x l C M) (a b c : Int32) : QR (fn_X11_spoils C 0 a b c) (fn_X12_spoils M 86 a b c) C M := by
  obtain ⟨M1, p1, F1, w1⟩ := w.thr
  have wc := w1.wc
  have wm := w1.wm
  have no : ∀ {oM} (r : Int32), fn_X11_spoils C 0 a b c = some (r, C) → oM = some (r, M1) → QR (fn_X11_spoils C 0 a b c) oM C M := fun r e1 e2 => w1.qr r e1 e2 (Fr.refl _ _) F1
  by_cases a1 : a < 1
  · refine no (-1) ?_ ?_
    · unfold fn_X11_spoils; rw [if_pos a1]
    · unfold fn_X12_spoils; rw [p1, Option.bind_some, in_no (Or.inl a1), Option.bind_some, if_pos rfl]
  by_cases a2 : ¬ a ≤ 12
  · refine no (-1) ?_ ?_
    · unfold fn_X11_spoils; rw [if_neg a1, if_neg a2]
    · unfold fn_X12_spoils; rw [p1, Option.bind_some, in_no (Or.inr ⟨a1, a2⟩), Option.bind_some, if_pos rfl]
  have a2 := Decidable.not_not.mp a2
  by_cases b1 : b < 1
  · refine no (-1) ?_ ?_
    · unfold fn_X11_spoils; rw [if_neg a1, if_pos a2, if_pos b1]
    · unfold fn_X12_spoils; rw [p1, Option.bind_some, in_yes a1 a2, Option.bind_some, if_neg one0, in_no (Or.inl b1), Option.bind_some, if_pos rfl]
  by_cases b2' : ¬ b ≤ 12
  · refine no (-1) ?_ ?_
    · unfold fn_X11_spoils; rw [if_neg a1, if_pos a2, if_neg b1, if_neg b2']
    · unfold fn_X12_spoils; rw [p1, Option.bind_some, in_yes a1 a2, Option.bind_some, if_neg one0, in_no (Or.inr ⟨b1, b2'⟩), Option.bind_some, if_pos rfl]
  have b2' := Decidable.not_not.mp b2'
  rcases int_cases 10 (by decide) c with ⟨c1, -⟩ | ⟨c1, c2⟩ | ⟨c1, c2, p, hp, rfl⟩
  · refine no (-1) ?_ ?_
    · unfold fn_X11_spoils; rw [if_neg a1, if_pos a2, if_neg b1, if_pos b2', if_pos c1]
    · unfold fn_X12_spoils; rw [p1, Option.bind_some, in_yes a1 a2, Option.bind_some, if_neg one0, in_yes b1 b2', Option.bind_some, if_neg one0, in_no (Or.inl c1), Option.bind_some, if_pos rfl]
  · replace c2 : ¬ c ≤ 10 := c2
    refine no (-1) ?_ ?_
    · unfold fn_X11_spoils; rw [if_neg a1, if_pos a2, if_neg b1, if_pos b2', if_neg c1, if_neg c2]
    · unfold fn_X12_spoils; rw [p1, Option.bind_some, in_yes a1 a2, Option.bind_some, if_neg one0, in_yes b1 b2', Option.bind_some, if_neg one0, in_no (Or.inr ⟨c1, c2⟩), Option.bind_some, if_pos rfl]
  replace c2 : nI p ≤ 10 := c2
  obtain ⟨n, hn, rfl⟩ := rng1 (k := 12) (by decide) a1 a2
  obtain ⟨k, hk, rfl⟩ := rng1 (k := 12) (by decide) b1 b2'
  obtain ⟨s1, s2⟩ := sp_all n hn k hk p (by omega)
  obtain ⟨q, eq⟩ := Option.isSome_iff_exists.mp s1
  rw [eq] at s2
  have s2 := s2.symm
  unfold spC at eq
  unfold spM at s2
  obtain ⟨y1, e1, eq⟩ := ob eq
  obtain ⟨y2, e2, eq⟩ := ob eq
  obtain ⟨y3, e3, eq⟩ := ob eq
  obtain ⟨y5, e5, eq⟩ := ob eq
  obtain ⟨y6, e6, eq⟩ := ob eq
  obtain ⟨t11, e11, eq⟩ := ob eq
  obtain ⟨t15, e15, eq⟩ := ob eq
  cases eq
  obtain ⟨m5, g5, s2⟩ := ob s2
  obtain ⟨m9, g9, s2⟩ := ob s2
  obtain ⟨m17, g17, s2⟩ := ob s2
  obtain ⟨m18, g18, s2⟩ := ob s2
  obtain ⟨m19, g19, s2⟩ := ob s2
  obtain ⟨m21, g21, s2⟩ := ob s2
  obtain ⟨m24, g24, s2⟩ := ob s2
  have s3 := Option.some.inj s2
  have q1 : m21 = t11 := congrArg Prod.fst s3
  have q2 : m24 = t15 := congrArg Prod.snd s3
  subst q1
  subst q2
  obtain ⟨C2, M2, f2, g2, G2, H2, w2⟩ := w1.begin
  obtain ⟨C3, M3, f3, g3, G3, H3, w3⟩ := w2.add (by decide) m21
  obtain ⟨C4, M4, f4, g4, G4, H4, w4⟩ := w3.add (by simp) m24
  have e11' : ((if (lg_cmp y6 0) ≤ 0 then some ((y1 * y2) * y3) else (ldv ((y1 * y2) * y3) y6).bind fun y20 => some y20) : Option Int64) = some m21 := by
    rw [← e11]
    split
    · rfl
    · cases ldv (y1 * y2 * y3) y6 <;> rfl
  have e15' : ((if (lg_cmp y6 0) ≤ 0 then some y5 else (ldv y5 y6).bind fun y18 => some y18) : Option Int64) = some m24 := by
    rw [← e15]
    split
    · rfl
    · cases ldv y5 y6 <;> rfl
  refine w4.qr 0 ?_ ?_ ((G2.mono stC_sc).trans ((G3.mono stC_sc).trans (G4.mono stC_sc))) (F1.trans ((H2.mono stM_sm).trans ((H3.mono stM_sm).trans (H4.mono stM_sm))))
  · unfold fn_X11_spoils
    rw [if_neg a1, if_pos a2, if_neg b1, if_pos b2', if_neg c1, if_pos c2, h_choices, e1, Option.bind_some, h_power, e2, Option.bind_some, h_power, e3, Option.bind_some, Option.bind_some, h_power, e5, Option.bind_some, h_shared, e6, Option.bind_some, g_0_11 wc, Option.bind_some, k_77 wc, Option.bind_some, f2, Option.bind_some, g_0_11 w2.wc, Option.bind_some, e11', Option.bind_some, k_77 w2.wc, Option.bind_some, f3, Option.bind_some, g_0_11 w3.wc, Option.bind_some, e15', Option.bind_some, k_77 w3.wc, Option.bind_some, f4, Option.bind_some]
  · unfold fn_X12_spoils
    rw [p1, Option.bind_some, in_yes a1 a2, Option.bind_some, if_neg one0, in_yes b1 b2', Option.bind_some, if_neg one0, in_yes c1 c2, Option.bind_some, if_neg one0, g5, Option.bind_some, h_spoils, g9, Option.bind_some, h_powerM, h_powerM M1 (Int32.toInt64 (10 - nI p)), g17, Option.bind_some, h_powerM, g18, Option.bind_some, h_common, g19, Option.bind_some, g2, Option.bind_some, g21, Option.bind_some, k_86 w2.wm, Option.bind_some, g3, Option.bind_some, g24, Option.bind_some, k_86 w3.wm, Option.bind_some, g4, Option.bind_some]
theorem q_rests (w : WW N sem x l C M) (v : Int32) : QR (fn_X11_rests C 0 v) (fn_X12_rests M 86 v) C M := by
  obtain ⟨M1, p1, F1, w1⟩ := w.thr
  have wc := w1.wc
  have wm := w1.wm
  have no : ∀ {oM} (r : Int32), fn_X11_rests C 0 v = some (r, C) → oM = some (r, M1) → QR (fn_X11_rests C 0 v) oM C M := fun r e1 e2 => w1.qr r e1 e2 (Fr.refl _ _) F1
  rcases int_cases 20 (by decide) v with ⟨c1, -⟩ | ⟨c1, c2⟩ | ⟨c1, c2, n, hn, rfl⟩
  · refine no (-1) ?_ ?_
    · unfold fn_X11_rests; rw [if_pos c1]
    · unfold fn_X12_rests; rw [p1, Option.bind_some, in_no (Or.inl c1), Option.bind_some, if_pos rfl]
  · replace c2 : ¬ v ≤ 20 := c2
    refine no (-1) ?_ ?_
    · unfold fn_X11_rests; rw [if_neg c1, if_neg c2]
    · unfold fn_X12_rests; rw [p1, Option.bind_some, in_no (Or.inr ⟨c1, c2⟩), Option.bind_some, if_pos rfl]
  replace c2 : nI n ≤ 20 := c2
  obtain ⟨C2, M2, f2, g2, G2, H2, w2⟩ := w1.begin
  have step : ∀ (a b : Nat) (f : Int32) (K : Nat) (Ci Mi : aH) (li : List Int64), a < 10 → b < 10 → K < 900 → WW N sem x li Ci Mi → (f = 0 ∧ li = [] ∨ (∃ n : Nat, 0 < n ∧ n ≤ K ∧ f = nI n)) →
      ∃ f' C' M' l', lb_X11_rests_32 0 (nI n) (nI a) (f, nI b, Ci) = some (.inl (f', nI (b + 1), C')) ∧ lb_X12_rests_35 86 (nI n) (nI a) (f, nI b, Mi) = some (.inl (f', nI (b + 1), M')) ∧ Fr sc Ci C' ∧ Fr sm Mi M' ∧ WW N sem x l' C' M' ∧ (f' = 0 ∧ l' = [] ∨ (∃ n : Nat, 0 < n ∧ n ≤ K + 1 ∧ f' = nI n)) := by
    intro a b f K Ci Mi li ha hb hK wi hf
    have cb : nI b ≤ 9 := nI_le (b := 9) (by omega) (by decide)
    have up : (f = 0 ∧ li = [] ∨ (∃ n : Nat, 0 < n ∧ n ≤ K + 1 ∧ f = nI n)) := by
      rcases hf with h | ⟨n, h1, h2, h3⟩
      · exact Or.inl h
      · exact Or.inr ⟨n, h1, by omega, h3⟩
    unfold lb_X11_rests_32 lb_X12_rests_35
    simp only [if_pos cb, h_best, h_bestM, nI_1]
    rcases rest_all n (by omega) a ha b hb with ⟨q1, q2⟩ | ⟨q1, q2⟩
    · simp only [q1, q2, Option.bind_some, if_true]
      exact ⟨f, Ci, Mi, li, rfl, rfl, Fr.refl _ _, Fr.refl _ _, wi, up⟩
    · simp only [q1, q2, Option.bind_some, if_neg one0]
      rcases rest_all n (by omega) b hb a ha with ⟨r1, r2⟩ | ⟨r1, r2⟩
      · simp only [r1, r2, Option.bind_some, if_true]
        exact ⟨f, Ci, Mi, li, rfl, rfl, Fr.refl _ _, Fr.refl _ _, wi, up⟩
      · simp only [r1, r2, Option.bind_some, if_neg one0]
        rcases hf with ⟨rfl, rfl⟩ | ⟨n, h1, h2, rfl⟩
        · obtain ⟨C3, M3, f3, g3, G3, H3, w3⟩ := wi.add (by decide) (Int32.toInt64 (nI a))
          obtain ⟨C4, M4, f4, g4, G4, H4, w4⟩ := w3.add (by simp) (Int32.toInt64 (nI b))
          simp only [if_true, g_0_11 wi.wc, k_77 wi.wc, Option.bind_some, f3, g_0_11 w3.wc, k_77 w3.wc, f4, k_86 wi.wm, g3, k_86 w3.wm, g4]
          exact ⟨_, C4, M4, _, rfl, rfl, (G3.mono stC_sc).trans (G4.mono stC_sc), (H3.mono stM_sm).trans (H4.mono stM_sm), w4, Or.inr ⟨1, by decide, by omega, rfl⟩⟩
        · simp only [if_neg (nI_ne0 h1 (show n < 2 ^ 31 by omega)), Option.bind_some, nI_1]
          exact ⟨_, Ci, Mi, li, rfl, rfl, Fr.refl _ _, Fr.refl _ _, wi, Or.inr ⟨n + 1, by omega, by omega, rfl⟩⟩
  have row : ∀ (a : Nat) (f : Int32) (K : Nat) (Ci Mi : aH) (li : List Int64), a < 10 → K ≤ 100 → Fr sc C Ci → Fr sm M Mi → WW N sem x li Ci Mi → (f = 0 ∧ li = [] ∨ (∃ n : Nat, 0 < n ∧ n ≤ K ∧ f = nI n)) →
      ∃ r q, lp (lb_X11_rests_32 0 (nI n) (nI a)) lpN (f, 0, Ci) = some r ∧ lp (lb_X12_rests_35 86 (nI n) (nI a)) lpN (f, 0, Mi) = some q ∧ (r.1 = q.1 ∧ Fr sc C r.2 ∧ Fr sm M q.2 ∧ ∃ l', WW N sem x l' r.2 q.2 ∧ (r.1 = 0 ∧ l' = [] ∨ (∃ n : Nat, 0 < n ∧ n ≤ K + 10 ∧ r.1 = nI n))) := by
    intro a f K Ci Mi li ha hK GC GM wi hf
    refine lp_two (fun b s t => s.1 = t.1 ∧ s.2.1 = nI b ∧ t.2.1 = nI b ∧ Fr sc C s.2.2 ∧ Fr sm M t.2.2 ∧ ∃ l', WW N sem x l' s.2.2 t.2.2 ∧ (s.1 = 0 ∧ l' = [] ∨ (∃ n : Nat, 0 < n ∧ n ≤ K + b ∧ s.1 = nI n))) _ 10 (by decide) ?_ ?_ ⟨rfl, rfl, rfl, GC, GM, li, wi, hf⟩
    · rintro b ⟨s1, s2, Cb⟩ ⟨t1, t2, Mb⟩ hb ⟨rfl, rfl, rfl, GC, GM, l', wl, hf⟩
      obtain ⟨f', C', M', l2, e1, e2, G', H', w', hf'⟩ := step a b s1 (K + b) Cb Mb l' ha hb (by omega) wl hf
      exact Or.inl ⟨_, _, e1, e2, rfl, rfl, rfl, GC.trans G', GM.trans H', l2, w', hf'⟩
    · rintro ⟨s1, s2, Cb⟩ ⟨t1, t2, Mb⟩ ⟨rfl, rfl, rfl, GC, GM, l', wl, hf⟩
      refine ⟨(s1, Cb), (s1, Mb), ?_, ?_, rfl, GC, GM, l', wl, hf⟩
      · unfold lb_X11_rests_32; rw [if_neg (show ¬ nI 10 ≤ 9 by decide)]
      · unfold lb_X12_rests_35; rw [if_neg (show ¬ nI 10 ≤ 9 by decide)]
  obtain ⟨r, q, er, eq, rq, Gr, Hq, l', wr⟩ : ∃ r q, lp (lb_X11_rests_23 0 (nI n)) lpN (0, 0, C2) = some r ∧ lp (lb_X12_rests_26 86 (nI n)) lpN (0, 0, M2) = some q ∧ (r.1 = q.1 ∧ Fr sc C r.2 ∧ Fr sm M q.2 ∧ ∃ l', WW N sem x l' r.2 q.2) := by
    refine lp_two (fun a s t => s.1 = t.1 ∧ s.2.1 = nI a ∧ t.2.1 = nI a ∧ Fr sc C s.2.2 ∧ Fr sm M t.2.2 ∧ ∃ l', WW N sem x l' s.2.2 t.2.2 ∧ (s.1 = 0 ∧ l' = [] ∨ (∃ n : Nat, 0 < n ∧ n ≤ 10 * a ∧ s.1 = nI n))) _ 10 (by decide) ?_ ?_ ⟨rfl, rfl, rfl, G2.mono stC_sc, F1.trans (H2.mono stM_sm), [], w2, Or.inl ⟨rfl, rfl⟩⟩
    · rintro a ⟨s1, s2, Cb⟩ ⟨t1, t2, Mb⟩ ha ⟨rfl, rfl, rfl, GC, GM, l', wl, hf⟩
      obtain ⟨r, q, er, eq, rq, Gr, Hq, l2, w2, hf'⟩ := row a s1 (10 * a) Cb Mb l' ha (by omega) GC GM wl hf
      have ca : nI a ≤ 9 := nI_le (b := 9) (by omega) (by decide)
      refine Or.inl ⟨(r.1, nI (a + 1), r.2), (q.1, nI (a + 1), q.2), ?_, ?_, rq, rfl, rfl, Gr, Hq, l2, w2, hf'⟩
      · unfold lb_X11_rests_23
        simp only [if_pos ca, er, Option.bind_some, nI_1]
      · unfold lb_X12_rests_26
        simp only [if_pos ca, eq, Option.bind_some, nI_1]
    · rintro ⟨s1, s2, Cb⟩ ⟨t1, t2, Mb⟩ ⟨rfl, rfl, rfl, GC, GM, l', wl, hf⟩
      refine ⟨(s1, Cb), (s1, Mb), ?_, ?_, rfl, GC, GM, l', wl⟩
      · unfold lb_X11_rests_23; rw [if_neg (show ¬ nI 10 ≤ 9 by decide)]
      · unfold lb_X12_rests_26; rw [if_neg (show ¬ nI 10 ≤ 9 by decide)]
  refine wr.qr r.1 ?_ ?_ Gr Hq
  · unfold fn_X11_rests
    simp only [if_neg c1, if_pos c2, g_0_11 wc, k_77 wc, Option.bind_some, f2, er]
  · unfold fn_X12_rests
    simp only [p1, Option.bind_some, in_yes c1 c2, if_neg one0, g2, eq, rq]
end Games
