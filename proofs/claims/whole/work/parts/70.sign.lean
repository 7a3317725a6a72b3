/-! signs and counts -/
theorem WRL.thr {N : Net} {sem : Sem} {x : XX} {l : List Int64} {c : Nat} {C M : aH} (r : WRL N sem x l c C M) : WRL N sem x l (c + 1) C (sI M 86 11 0) ∧ Fr mdl M (sI M 86 11 0) := by
  have fM : Fr txM M (sI M 86 11 0) := (Fr.refl _ M).sI _ rfl
  obtain ⟨n, hn, e1, e2, ht⟩ := r.2.2.2.2.2.2.1
  exact ⟨r.text (Fr.refl _ C) fM ⟨n, hn, e1, (by rw [hI_sI]; simp [e2]), fun i hi => ht i hi⟩, fM.mono txM_mdl⟩
theorem ch_nar : ∀ c, c < 256 → vp_nar .char (i2c (nI c)) = nI c := by decide +kernel
theorem byte_nar (x : Int32) : vp_nar .byte x = x.toInt8.toInt32 := rfl
theorem char_at (v : Int32) {j : Nat} (hj : j < 4) : ∃ c : Nat, c < 256 ∧ vp_nar .char (i2c ((ius v (nI (8 * j))) &&& 255)) = nI c ∧ (vp_nar .byte (Int8.toInt32 (Int32.toInt8 (v >>> ((nI (8 * j)) &&& 31))))) &&& 255 = nI c ∧ (c < 128 → vp_nar .byte (Int8.toInt32 (Int32.toInt8 (v >>> ((nI (8 * j)) &&& 31)))) = nI c) := by
  obtain ⟨u, eu⟩ : ∃ u, u = ius v (nI (8 * j)) := ⟨_, rfl⟩
  obtain ⟨t, et⟩ : ∃ t, t = v >>> ((nI (8 * j)) &&& 31) := ⟨_, rfl⟩
  have low : t &&& 255 = u &&& 255 := by
    apply b_ext
    intro i hi
    rw [b_and, b_and, b_255]
    by_cases h8 : i < 8
    · have q1 : bt u i = bt v (8 * j + i) := by rw [eu]; exact b_ushr (8 * j) (by omega) v i
      have q2 : bt t i = bt v (8 * j + i) := by rw [et, b_sshr (8 * j) (by omega) v hi, if_pos (by omega)]
      rw [q1, q2]
    · simp [h8]
  obtain ⟨n, hn, en⟩ := wb_of32 u
  have e8 : u &&& 255 = nI (n % 256) := by
    rw [en]
    exact fa_mask n 8
  have hc : n % 256 < 256 := Nat.mod_lt _ (by decide)
  rw [← eu, ← et, byte_nar]
  refine ⟨n % 256, hc, ?_, ?_, fun h => ?_⟩
  · rw [e8]; exact ch_nar _ hc
  · rw [Int8.toInt8_toInt32, bp_b, low, e8]
  · rw [Int8.toInt8_toInt32, ← fa_byte_low t, low, e8]
    exact fa_byte_small h
theorem wB_eq {h : aH} (w : Wf h) (a n : Nat) (e : SH[a]? = some (12, n)) (k : Nat) (hk : k < n) (hn : n < 2 ^ 31) (x : Int32) : wB h a (nI k) x = some (sI h a k (vp_nar .byte x)) := by
  unfold wB
  rw [w_ca w a 12 n e, if_pos (by unfold inb; exact decide_eq_true (vp_in_nI hk hn)), Option.map_some, nI_clamp (by omega)]
theorem wC_eq {h : aH} (w : Wf h) (a n : Nat) (e : SH[a]? = some (13, n)) (k : Nat) (hk : k < n) (hn : n < 2 ^ 31) (x : Int32) : wC h a (nI k) x = some (sI h a k (vp_nar .char x)) := by
  unfold wC
  rw [w_ca w a 13 n e, if_pos (by unfold inb; exact decide_eq_true (vp_in_nI hk hn)), Option.map_some, nI_clamp (by omega)]
def TxtN (n : Nat) (C M : aH) : Prop := n ≤ 80 ∧ hI C 1 1 = nI n ∧ hI M 86 8 = nI n ∧ ∀ i, i < n → ∃ c : Nat, c < 256 ∧ hI C 2 i = nI c ∧ hI M 91 i &&& 255 = nI c ∧ (c < 128 → hI M 91 i = nI c)
theorem sign_one {C M : aH} (w : Wf C) (m : Wf M) (v : Int32) {n j : Nat} (hj : j < 4) (hn : n < 80) (t : TxtN n C M) (s1 s2 : Int32) (e1 : s1 = nI (8 * j)) (e2 : (8 * s2) &&& 31 = nI (8 * j) &&& 31) (p1 : ¬ s1 < 0) (p2 : ¬ s2 < 0) : ∃ C' M', lb_X8_append_14 1 v (s1, C) = some (.inl (s1 + (-8), C')) ∧ lb_X12_sign_20 86 v (s2, M) = some (.inl (s2 + (-1), M')) ∧ Fr txC C C' ∧ Fr txM M M' ∧ TxtN (n + 1) C' M' := by
  obtain ⟨-, t1, t2, t3⟩ := t
  obtain ⟨c, hc, c1, c2, c3⟩ := char_at v hj
  obtain ⟨u, eu⟩ : ∃ u, u = vp_nar .byte (Int8.toInt32 (Int32.toInt8 (v >>> ((nI (8 * j)) &&& 31)))) := ⟨_, rfl⟩
  rw [← eu] at c2 c3
  have wA : Wf (sI C 2 n (nI c)) := w
  have mA : Wf (sI M 86 8 (nI (n + 1))) := m
  refine ⟨sI (sI C 2 n (nI c)) 1 1 (nI (n + 1)), sI (sI M 86 8 (nI (n + 1))) 91 n u, ?_, ?_, ((Fr.refl _ C).sI _ rfl).sI _ rfl, ((Fr.refl _ M).sI _ rfl).sI _ rfl, by omega, by rw [hI_sI]; simp, ?_, fun i hi => ?_⟩
  · unfold lb_X8_append_14
    dsimp only
    rw [if_neg p1, g_1_0 w, Option.bind_some, w_gI w 1 7 1 rfl, Option.bind_some, t1, e1, wC_eq w 2 80 rfl n hn (by decide), c1, Option.bind_some, w_gI wA 1 7 1 rfl, Option.bind_some, hI_sI, if_neg (by simp), t1, w_pI wA 1 7 1 _ rfl, Option.bind_some, nI_1, Option.bind_some]
  · unfold lb_X12_sign_20
    dsimp only
    rw [if_neg p2, g_86_7 m, Option.bind_some, w_gI m 86 11 8 rfl, Option.bind_some, t2, nI_1, w_pI m 86 11 8 _ rfl, Option.bind_some, e2, wB_eq mA 91 80 rfl n hn (by decide), ← eu, Option.bind_some, Option.bind_some]
  · rw [hI_sI_r, if_neg (by decide), hI_sI]; simp
  · by_cases hin : i = n
    · subst hin
      refine ⟨c, hc, ?_, ?_, fun h => ?_⟩
      · simp [hI_sI]
      · simp [hI_sI, c2]
      · simp [hI_sI, c3 h]
    · have := t3 i (by omega)
      simp [hI_sI, hin]
      exact this
theorem stp_sign (c : Nat) (v : Int32) : STEP c (fun C => fn_X11_sign C 0 v) (fun M => fn_X12_sign M 86 v) := by
  intro C M ⟨N, sem, x, l, r⟩
  have r' : WRL N sem x l c C M := r
  obtain ⟨V, v0, cw, mw, tc, tm, ⟨n, hn, e1, e2, ht⟩, pa, ke, se⟩ := r
  have w := cw.1
  have m := mw.1
  have m2 : Wf (sI M 86 11 0) := m
  have fM : Fr txM M (sI M 86 11 0) := (Fr.refl _ M).sI _ rfl
  have e3 : hI (sI M 86 11 0) 86 8 = nI n := by rw [hI_sI]; simp [e2]
  have e4 : nI n + 4 = nI (n + 4) := nI_add n 4
  by_cases h76 : n ≤ 76
  · have T0 : TxtN n C (sI M 86 11 0) := ⟨hn, e1, e3, fun i hi => ht i hi⟩
    obtain ⟨C1, M1, a1, a2, f1, g1, T1⟩ := sign_one w m2 v (j := 3) (by decide) (by omega) T0 24 3 rfl (by decide) (by decide) (by decide)
    have w1 := f1.wf w
    have m3 := g1.wf m2
    obtain ⟨C2, M3, b1, b2', f2, g2, T2⟩ := sign_one w1 m3 v (j := 2) (by decide) (by omega) T1 16 2 rfl (by decide) (by decide) (by decide)
    have w2 := f2.wf w1
    have m4 := g2.wf m3
    obtain ⟨C3, M4, c1, c2, f3, g3, T3⟩ := sign_one w2 m4 v (j := 1) (by decide) (by omega) T2 8 1 rfl (by decide) (by decide) (by decide)
    have w3 := f3.wf w2
    have m5 := g3.wf m4
    obtain ⟨C4, M5, d1, d2, f4, g4, T4⟩ := sign_one w3 m5 v (j := 0) (by decide) (by omega) T3 0 0 rfl (by decide) (by decide) (by decide)
    have w4 := f4.wf w3
    have m6 := g4.wf m5
    have fC : Fr txC C C4 := ((f1.trans f2).trans f3).trans f4
    have fN : Fr txM M M5 := (((fM.trans g1).trans g2).trans g3).trans g4
    obtain ⟨K, eK⟩ : ∃ K, lpN = K + 5 := ⟨lpN - 5, rfl⟩
    have lC : lp (lb_X8_append_14 1 v) lpN (24, C) = some (nI (n + 4), C4) := by
      rw [eK]
      simp only [lp]
      rw [a1]
      dsimp only
      rw [show (24 : Int32) + -8 = 16 from by decide, b1]
      dsimp only
      rw [show (16 : Int32) + -8 = 8 from by decide, c1]
      dsimp only
      rw [show (8 : Int32) + -8 = 0 from by decide, d1]
      dsimp only
      unfold lb_X8_append_14
      dsimp only
      rw [if_pos (by decide), w_gI w4 1 7 1 rfl, Option.bind_some, T4.2.1]
    have lM : lp (lb_X12_sign_20 86 v) lpN (3, sI M 86 11 0) = some (nI (n + 4), M5) := by
      rw [eK]
      simp only [lp]
      rw [a2]
      dsimp only
      rw [show (3 : Int32) + -1 = 2 from by decide, b2']
      dsimp only
      rw [show (2 : Int32) + -1 = 1 from by decide, c2]
      dsimp only
      rw [show (1 : Int32) + -1 = 0 from by decide, d2]
      dsimp only
      unfold lb_X12_sign_20
      dsimp only
      rw [if_pos (by decide), w_gI m6 86 11 8 rfl, Option.bind_some, T4.2.2.1]
    refine ⟨nI (n + 4), C4, M5, ?_, ?_, ⟨N, sem, x, l, r'.text fC fN ⟨n + 4, T4⟩⟩, fC.mono txC_cls, fN.mono txM_mdl⟩
    · dsimp only
      unfold fn_X11_sign fn_X8_append
      rw [g_0_0 w, Option.bind_some, k_1 w, Option.bind_some, w_gI w 1 7 1 rfl, Option.bind_some, e1, if_pos (show nI n ≤ 76 from nI_le (b := 76) h76 (by decide)), lC]
      rfl
    · dsimp only
      unfold fn_X12_sign
      rw [w_pI m 86 11 11 _ rfl, Option.bind_some, w_gI m2 86 11 8 rfl, Option.bind_some, e3, e4, if_pos (show nI (n + 4) ≤ 80 from nI_le (b := 80) (by omega) (by decide)), lM]
      rfl
  · refine ⟨-1, C, sI M 86 11 0, ?_, ?_, ⟨N, sem, x, l, r'.thr.1⟩, Fr.refl _ C, r'.thr.2⟩
    · dsimp only
      unfold fn_X11_sign fn_X8_append
      rw [g_0_0 w, Option.bind_some, k_1 w, Option.bind_some, w_gI w 1 7 1 rfl, Option.bind_some, e1, if_neg (show ¬ nI n ≤ 76 from nI_ge (a := 76) (by omega) (by omega))]
      rfl
    · dsimp only
      unfold fn_X12_sign
      rw [w_pI m 86 11 11 _ rfl, Option.bind_some, w_gI m2 86 11 8 rfl, Option.bind_some, e3, e4, if_neg (show ¬ nI (n + 4) ≤ 80 from nI_ge (a := 80) (by omega) (by omega))]
theorem marks_sum {N : Net} {h : aH} {x : XX} (w : Wf h) (C : CN N h) (V : NV N) (S : St h 22 x) : fn_X11_marksTogether h 0 = some (sumI (N_b N) (fun i => x (6 + i))) := by
  have h6 := V.1
  have loop : lp (lb_X11_marksTogether_4 h 0) lpN (0, 0) = some (sumI (N_b N) (fun i => x (6 + i))) := by
    refine lp_run (fun i => (sumI i (fun i => x (6 + i)), nI i)) (N_b N) _ ?_ ?_ (by omega) rfl
    · intro i hi
      unfold lb_X11_marksTogether_4
      simp only [g_0_1 w, w_gI w 3 0 0 rfl, C.1, Option.bind_some, if_pos (nI_lt hi (show N_b N < 2 ^ 31 by omega)), g_0_7 w, g_22_1 w, aI_eq w 24 14 6 rfl i (by omega) (by decide), S.2.1 i (by omega), nI_1]
      rfl
    · unfold lb_X11_marksTogether_4
      simp only [g_0_1 w, w_gI w 3 0 0 rfl, C.1, Option.bind_some, if_neg (nI_nlt (Nat.le_refl (N_b N)) (show N_b N < 2 ^ 31 by omega))]
  unfold fn_X11_marksTogether
  rw [loop]
  rfl
def mkdI (x : XX) : Nat → Int32
  | 0 => 0
  | n + 1 => if mkd x n = true then mkdI x n ||| (1 <<< (nI n &&& 31)) else mkdI x n ||| 0
theorem mkC_eq {N : Net} {h : aH} {x : XX} (w : Wf h) (C : CN N h) (V : NV N) (S : St h 22 x) : fn_X11_basinsAtMark h 0 = some (mkdI x (N_b N)) := by
  have h6 := V.1
  have loop : lp (lb_X11_basinsAtMark_4 h 0) lpN (0, 0) = some (mkdI x (N_b N)) := by
    refine lp_run (fun i => (mkdI x i, nI i)) (N_b N) _ ?_ ?_ (by omega) rfl
    · intro i hi
      unfold lb_X11_basinsAtMark_4
      simp only [g_0_1 w, w_gI w 3 0 0 rfl, C.1, Option.bind_some, if_pos (nI_lt hi (show N_b N < 2 ^ 31 by omega)), g_0_7 w, k_22 w, isAtMark_eq w (Or.inl rfl) S (c := i) (by omega), nI_1]
      show _ = some (Sum.inl (mkdI x (i + 1), nI (i + 1)))
      cases hm : mkd x i <;> simp [b2, mkdI, hm]
    · unfold lb_X11_basinsAtMark_4
      simp only [g_0_1 w, w_gI w 3 0 0 rfl, C.1, Option.bind_some, if_neg (nI_nlt (Nat.le_refl (N_b N)) (show N_b N < 2 ^ 31 by omega))]
  unfold fn_X11_basinsAtMark
  rw [loop]
  rfl
theorem mkM_eq {N : Net} {h : aH} {x : XX} (w : Wf h) (C : MN N h) (V : NV N) (S : XM h 87 x) : fn_X12_allMarked h 86 = some (mkdI x (N_b N)) := by
  have h6 := V.1
  have loop : lp (lb_X12_allMarked_4 h 86) lpN (0, 0) = some (mkdI x (N_b N)) := by
    refine lp_run (fun i => (mkdI x i, nI i)) (N_b N) _ ?_ ?_ (by omega) rfl
    · intro i hi
      unfold lb_X12_allMarked_4
      simp only [w_gI w 86 11 1 rfl, C.1, Option.bind_some, if_pos (nI_lt hi (show N_b N < 2 ^ 31 by omega)), g_86_0 w, k_86 w, isMarked_eq w (Or.inl rfl) S (c := i) (by omega), nI_1]
      show _ = some (Sum.inl (mkdI x (i + 1), nI (i + 1)))
      cases hm : mkd x i <;> simp [b2, mkdI, hm]
    · unfold lb_X12_allMarked_4
      simp only [w_gI w 86 11 1 rfl, C.1, Option.bind_some, if_neg (nI_nlt (Nat.le_refl (N_b N)) (show N_b N < 2 ^ 31 by omega))]
  unfold fn_X12_allMarked
  rw [loop]
  rfl
theorem stp_count (c : Nat) (v : Int32) : STEP c (fun C => (fn_X11_count C 0 v).bind fun q => some (q, C)) (fun M => fn_X12_count M 86 v) := by
  intro C M ⟨N, sem, x, l, r⟩
  have r' : WRL N sem x l c C M := r
  obtain ⟨V, v0, cw, mw, tc, tm, ⟨n, hn, e1, e2, ht⟩, ⟨pn, Pp, ad, hpn, pc, pm, pv⟩, ke, ⟨sn, sb, so, sv, s1, s2, s3, s4⟩⟩ := r
  have w := cw.1
  have m := mw.1
  obtain ⟨D, eD⟩ : ∃ D, D = sI M 86 11 0 := ⟨_, rfl⟩
  have d : Wf D := by rw [eD]; exact m
  have di : ∀ j, j ≠ 11 → hI D 86 j = hI M 86 j := fun j hj => by rw [eD, hI_sI]; simp [hj]
  have dx : XM D 87 x := by rw [eD]; exact mw.2.2.1
  have dn : MN N D := by rw [eD]; exact mw.2.1
  have S := cw.2.2.1
  have both : ∃ q, fn_X11_count C 0 v = some q ∧ fn_X12_count M 86 v = some (q, D) := by
    unfold fn_X11_count fn_X12_count
    rw [w_pI m 86 11 11 _ rfl, ← eD, Option.bind_some]
    by_cases h0 : v = 0
    · rw [if_pos h0, if_pos h0, g_0_1 w, Option.bind_some, w_gI w 3 0 0 rfl, Option.bind_some, w_gI d 86 11 1 rfl, Option.bind_some, cw.2.1.1, dn.1]
      exact ⟨_, rfl, rfl⟩
    rw [if_neg h0, if_neg h0]
    by_cases h1 : v = 1
    · rw [if_pos h1, if_pos h1, g_0_1 w, Option.bind_some, w_gI w 3 0 1 rfl, Option.bind_some, w_gI d 86 11 2 rfl, Option.bind_some, cw.2.1.2.1, dn.2.1]
      exact ⟨_, rfl, rfl⟩
    rw [if_neg h1, if_neg h1]
    by_cases h2 : v = 2
    · rw [if_pos h2, if_pos h2, g_0_7 w, Option.bind_some, w_gI w 22 6 4 rfl, Option.bind_some, g_86_0 d, Option.bind_some, S.2.2.2.2.1]
      have := aI_eq d 87 14 16 rfl 14 (by decide) (by decide)
      rw [dx 14 (by decide)] at this
      rw [show (14 : Int32) = nI 14 from rfl, this]
      exact ⟨_, rfl, rfl⟩
    rw [if_neg h2, if_neg h2]
    by_cases h3 : v = 3
    · rw [if_pos h3, if_pos h3, g_0_7 w, Option.bind_some, w_gI w 22 6 5 rfl, Option.bind_some, g_86_0 d, Option.bind_some, S.2.2.2.2.2]
      have := aI_eq d 87 14 16 rfl 15 (by decide) (by decide)
      rw [dx 15 (by decide)] at this
      rw [show (15 : Int32) = nI 15 from rfl, this]
      exact ⟨_, rfl, rfl⟩
    rw [if_neg h3, if_neg h3]
    by_cases h4 : v = 4
    · rw [if_pos h4, if_pos h4, g_0_7 w, Option.bind_some, k_0 w, Option.bind_some, together_eq w cw.2.1 V (Or.inl rfl) S, Option.bind_some, g_86_0 d, Option.bind_some, k_86 d, Option.bind_some, sumOf0_eq d dn V (Or.inl rfl) dx]
      exact ⟨_, rfl, rfl⟩
    rw [if_neg h4, if_neg h4]
    by_cases h5 : v = 5
    · rw [if_pos h5, if_pos h5, k_0 w, Option.bind_some, marks_sum w cw.2.1 V S, Option.bind_some, g_86_0 d, Option.bind_some, k_86 d, Option.bind_some, show (6 : Int32) = nI 6 from rfl, sumOf_eq d dn V (Or.inl rfl) (Nat.le_refl 6) dx]
      exact ⟨_, rfl, rfl⟩
    rw [if_neg h5, if_neg h5]
    by_cases h6 : v = 6
    · rw [if_pos h6, if_pos h6, g_0_7 w, Option.bind_some, w_gI w 22 6 2 rfl, Option.bind_some, g_86_0 d, Option.bind_some, S.2.2.1]
      have := aI_eq d 87 14 16 rfl 12 (by decide) (by decide)
      rw [dx 12 (by decide)] at this
      rw [show (12 : Int32) = nI 12 from rfl, this]
      exact ⟨_, rfl, rfl⟩
    rw [if_neg h6, if_neg h6]
    by_cases h7 : v = 7
    · rw [if_pos h7, if_pos h7, g_0_7 w, Option.bind_some, w_gI w 22 6 3 rfl, Option.bind_some, g_86_0 d, Option.bind_some, S.2.2.2.1]
      have := aI_eq d 87 14 16 rfl 13 (by decide) (by decide)
      rw [dx 13 (by decide)] at this
      rw [show (13 : Int32) = nI 13 from rfl, this]
      exact ⟨_, rfl, rfl⟩
    rw [if_neg h7, if_neg h7]
    by_cases h8 : v = 8
    · rw [if_pos h8, if_pos h8, k_0 w, Option.bind_some, mkC_eq w cw.2.1 V S, Option.bind_some, k_86 d, Option.bind_some, mkM_eq d dn V dx]
      exact ⟨_, rfl, rfl⟩
    rw [if_neg h8, if_neg h8]
    by_cases h9 : v = 9
    · rw [if_pos h9, if_pos h9, g_0_12 w, Option.bind_some, w_gI w 79 5 3 rfl, Option.bind_some, w_gI d 86 11 37 rfl, Option.bind_some, di 37 (by decide), s2, s3]
      exact ⟨_, rfl, rfl⟩
    rw [if_neg h9, if_neg h9]
    by_cases h10 : v = 10
    · rw [if_pos h10, if_pos h10, g_0_10 w, Option.bind_some, w_gI w 31 1 3 rfl, Option.bind_some, w_gI d 86 11 24 rfl, Option.bind_some, di 24 (by decide), pc.1, pm.1]
      exact ⟨_, rfl, rfl⟩
    rw [if_neg h10, if_neg h10]
    by_cases h11 : v = 11
    · rw [if_pos h11, if_pos h11, g_0_11 w, Option.bind_some, w_gI w 77 2 1 rfl, Option.bind_some, w_gI d 86 11 10 rfl, Option.bind_some, di 10 (by decide), tc.1, tm.1]
      exact ⟨_, rfl, rfl⟩
    rw [if_neg h11, if_neg h11]
    by_cases h12 : v = 12
    · rw [if_pos h12, if_pos h12, g_0_0 w, Option.bind_some, w_gI w 1 7 1 rfl, Option.bind_some, w_gI d 86 11 8 rfl, Option.bind_some, di 8 (by decide), e1, e2]
      exact ⟨_, rfl, rfl⟩
    rw [if_neg h12, if_neg h12]
    exact ⟨_, rfl, rfl⟩
  obtain ⟨q, q1, q2⟩ := both
  have t := r'.thr
  rw [← eD] at t
  exact ⟨q, C, D, by dsimp only; rw [q1]; rfl, q2, ⟨N, sem, x, l, t.1⟩, Fr.refl _ C, t.2⟩
