/-! sticks, marks, pours, lets, boats -/
theorem act_98 {h : aH} (w : Wf h) (a b : Int32) : fn_X11_act h 0 98 a b = (fn_X11_sendBoat h 0 a).bind fun o => some (o.1, o.2) := by
  unfold fn_X11_act; rw [if_pos rfl, k_0 w, Option.bind_some]
theorem act_107 {h : aH} (w : Wf h) (a b : Int32) : fn_X11_act h 0 107 a b = (fn_X11_stick h 0 a).bind fun o => some (o.1, o.2) := by
  unfold fn_X11_act; rw [if_neg (by decide), if_neg (by decide), if_neg (by decide), if_neg (by decide), if_neg (by decide), if_neg (by decide), if_neg (by decide), if_neg (by decide), if_neg (by decide), if_pos rfl, k_0 w, Option.bind_some]
theorem act_108 {h : aH} (w : Wf h) (a b : Int32) : fn_X11_act h 0 108 a b = (fn_X11_letOut h 0 a b).bind fun o => some (o.1, o.2) := by
  unfold fn_X11_act; rw [if_neg (by decide), if_neg (by decide), if_neg (by decide), if_neg (by decide), if_neg (by decide), if_neg (by decide), if_neg (by decide), if_neg (by decide), if_neg (by decide), if_neg (by decide), if_pos rfl, k_0 w, Option.bind_some]
theorem act_109 {h : aH} (w : Wf h) (a b : Int32) : fn_X11_act h 0 109 a b = (fn_X11_setMark h 0 a b).bind fun o => some (o.1, o.2) := by
  unfold fn_X11_act; rw [if_neg (by decide), if_neg (by decide), if_neg (by decide), if_neg (by decide), if_neg (by decide), if_neg (by decide), if_neg (by decide), if_neg (by decide), if_neg (by decide), if_neg (by decide), if_neg (by decide), if_pos rfl, k_0 w, Option.bind_some]
theorem act_110 {h : aH} (w : Wf h) (a b : Int32) : fn_X11_act h 0 110 a b = (fn_X11_letHoursPass h 0 a).bind fun o => some (o.1, o.2) := by
  unfold fn_X11_act; rw [if_neg (by decide), if_neg (by decide), if_neg (by decide), if_neg (by decide), if_neg (by decide), if_neg (by decide), if_neg (by decide), if_neg (by decide), if_neg (by decide), if_neg (by decide), if_neg (by decide), if_neg (by decide), if_pos rfl, k_0 w, Option.bind_some]
theorem act_112 {h : aH} (w : Wf h) (a b : Int32) : fn_X11_act h 0 112 a b = (fn_X11_pour h 0 a b).bind fun o => some (o.1, o.2) := by
  unfold fn_X11_act; rw [if_neg (by decide), if_neg (by decide), if_neg (by decide), if_neg (by decide), if_neg (by decide), if_neg (by decide), if_neg (by decide), if_neg (by decide), if_neg (by decide), if_neg (by decide), if_neg (by decide), if_neg (by decide), if_neg (by decide), if_neg (by decide), if_pos rfl, k_0 w, Option.bind_some]
theorem bind_pair (o : Option (Int32 × aH)) : (o.bind fun q => some (q.1, q.2)) = o := by cases o <;> rfl
theorem St_13 {h : aH} {x : XX} (S : St h 22 x) (u : Int32) : St (sI h 22 3 u) 22 (va_up x 13 u) := by
  obtain ⟨s1, s2, s3, s4, s5, s6⟩ := S
  refine ⟨fun i hi => ?_, fun i hi => ?_, ?_, ?_, ?_, ?_⟩
  · rw [up_ne _ _ (by omega), hI_sI_r, if_neg (by decide)]; exact s1 i hi
  · rw [up_ne _ _ (by omega), hI_sI_r, if_neg (by decide)]; exact s2 i hi
  · rw [up_ne _ _ (by omega), hI_sI]; simpa using s3
  · rw [up_eq, hI_sI]; simp
  · rw [up_ne _ _ (by omega), hI_sI]; simpa using s5
  · rw [up_ne _ _ (by omega), hI_sI]; simpa using s6
theorem St_mk {h : aH} {x : XX} (S : St h 22 x) {k : Nat} (hk : k < 6) (u : Int32) : St (sI h 24 k u) 22 (va_up x (6 + k) u) := by
  obtain ⟨s1, s2, s3, s4, s5, s6⟩ := S
  refine ⟨fun i hi => ?_, fun i hi => ?_, ?_, ?_, ?_, ?_⟩
  · rw [up_ne _ _ (by omega), hI_sI_r, if_neg (by decide)]; exact s1 i hi
  · rw [hI_sI_r, if_pos rfl]
    unfold va_up
    by_cases e : i = k
    · rw [if_pos e, if_pos (by omega)]
    · rw [if_neg e, if_neg (by omega)]; exact s2 i hi
  · rw [up_ne _ _ (by omega)]; exact s3
  · rw [up_ne _ _ (by omega)]; exact s4
  · rw [up_ne _ _ (by omega)]; exact s5
  · rw [up_ne _ _ (by omega)]; exact s6
theorem St_lv {h : aH} {x : XX} (S : St h 22 x) {k : Nat} (hk : k < 6) (u : Int32) : St (sI h 23 k u) 22 (va_up x k u) := mul_upd_lv S hk u
theorem stick_C {N : Net} {sem : Sem} {x : XX} {C : aH} {B : Nat} (cw : CW N sem x C) (V : NV N) (vs : VS N B x) {k : Nat} (hk : k < N_s N) (hs : fn_X0_hasSluice C 3 (nI k) = some 1) (b : Int32) : ∃ u : Nat, u < 2 ^ N_s N ∧ u < 256 ∧ x 13 ^^^ bitI k = nI u ∧ fn_X11_act C 0 107 (nI k) b = some (nI u, sI C 22 3 (nI u)) ∧ VS N B (va_up x 13 (nI u)) := by
  have h8 := V.2.1
  have w := cw.1
  obtain ⟨t, ht, et⟩ := vs.2.2.2.1
  have e2 : x 13 ^^^ bitI k = nI (t ^^^ 2 ^ k) := by rw [et, bitI_eq (by omega), nx_xor]
  have lt : t ^^^ 2 ^ k < 2 ^ N_s N := Nat.xor_lt_two_pow ht (Nat.pow_lt_pow_right (by decide) hk)
  have l8 : 2 ^ N_s N ≤ 2 ^ 8 := Nat.pow_le_pow_right (by decide) h8
  refine ⟨t ^^^ 2 ^ k, lt, by omega, e2, ?_, VS_13 vs ⟨_, lt, rfl⟩⟩
  have e3 : hI C 22 3 = x 13 := cw.2.2.1.2.2.2.1
  have w1 : Wf (sI C 22 3 (nI (t ^^^ 2 ^ k))) := w
  rw [act_107 w, bind_pair]
  unfold fn_X11_stick
  rw [g_0_1 w, Option.bind_some, k_3 w, Option.bind_some, hs, Option.bind_some, if_neg one0, g_0_7 w, Option.bind_some, w_gI w 22 6 3 rfl, Option.bind_some, e3]
  have e4 : x 13 ^^^ 1 <<< (nI k &&& 31) = nI (t ^^^ 2 ^ k) := e2
  rw [e4, w_pI w 22 6 3 _ rfl, Option.bind_some, g_0_7 w1, Option.bind_some, w_gI w1 22 6 3 rfl, Option.bind_some, hI_sI]
  simp
theorem stp_sticks (c : Nat) (v : Int32) : STEP c (fun C => fn_X11_sticks C 0 v) (fun M => fn_X12_sticks M 86 v) := by
  refine stp_act 107 v 0 (fun h => absurd h.1 (by decide)) (fun C w => ?_) (fun N sem x C M V v0 cw mw => ?_)
  · unfold fn_X11_sticks
    rw [k_0 w, Option.bind_some, bind_pair]
  · have w := cw.1
    have m := mw.1
    have h8 := V.2.1
    have m0 : Wf (sI M 86 11 0) := m
    rcases slu_cases w cw.2.1 m0 mw.2.1 V v with ⟨c1, c2⟩ | ⟨k, hk, rfl, c1, c2⟩
    · refine Or.inl ⟨-1, by decide, ?_, ?_⟩
      · rw [act_107 w, bind_pair]
        unfold fn_X11_stick
        rw [g_0_1 w, Option.bind_some, k_3 w, Option.bind_some, c1, Option.bind_some, if_pos rfl]
      · unfold fn_X12_sticks
        rw [w_pI m 86 11 11 _ rfl, Option.bind_some, k_86 m0, Option.bind_some, c2, Option.bind_some, if_pos rfl]
    · obtain ⟨u, hu, hu2, eu, a1, a2⟩ := stick_C cw V v0 hk c1 0
      refine Or.inr ⟨nI u, va_up x 13 (nI u), _, nI_pos (by omega), a1, (Fr.refl _ C).sI _ rfl, St_13 cw.2.2.1 _, VS_mono (by omega) a2, fun M1 e1 mw1 => ⟨sI M1 87 13 (nI u), ?_, (Fr.refl _ M1).sI _ rfl, XM_up mw1.2.2.1 _ _⟩⟩
      have m1 := mw1.1
      have m2 : Wf (sI M1 87 13 (nI u)) := m1
      have r1 : aI M1 87 14 13 = some (x 13) := by
        have := aI_eq m1 87 14 16 rfl 13 (by decide) (by decide)
        rw [mw1.2.2.1 13 (by decide)] at this
        exact this
      have r2 : wI M1 87 13 (nI u) = some (sI M1 87 13 (nI u)) := wI_eq m1 87 16 rfl 13 (by decide) (by decide) _
      have r3 : aI (sI M1 87 13 (nI u)) 87 14 13 = some (nI u) := by
        have := aI_eq m2 87 14 16 rfl 13 (by decide) (by decide)
        rw [hI_sI, if_pos ⟨rfl, rfl⟩] at this
        exact this
      have e4 : x 13 ^^^ 1 <<< (nI k &&& 31) = nI u := eu
      unfold fn_X12_sticks
      rw [w_pI m 86 11 11 _ rfl, Option.bind_some, k_86 m0, Option.bind_some, c2, Option.bind_some, if_neg one0, g_86_0 m0, Option.bind_some, Option.bind_some, e1, Option.bind_some, g_86_0 m1, Option.bind_some, r1, Option.bind_some, e4, r2, Option.bind_some, g_86_0 m2, Option.bind_some, r3, Option.bind_some]
theorem mark_C {N : Net} {sem : Sem} {x : XX} {C : aH} {B : Nat} (cw : CW N sem x C) (V : NV N) (vs : VS N B x) {k : Nat} (hk : k < N_b N) (hs : fn_X0_hasBasin C 3 (nI k) = some 1) {t : Nat} (ht : t ≤ 9) : (x (6 + k) = nI t ∧ fn_X11_act C 0 109 (nI k) (nI t) = some (-2, C)) ∨ (¬ x (6 + k) = nI t ∧ fn_X11_act C 0 109 (nI k) (nI t) = some (10 + x (6 + k), sI C 24 k (nI t)) ∧ VS N B (va_up x (6 + k) (nI t)) ∧ ¬ 10 + x (6 + k) < 0) := by
  have h6 := V.1
  have w := cw.1
  have d1 : ¬ nI t < 0 := nI_pos (by omega)
  have d2 : nI t ≤ 9 := nI_le (b := 9) ht (by decide)
  have r1 : aI C 24 14 (nI k) = some (x (6 + k)) := by
    have := aI_eq w 24 14 6 rfl k (by omega) (by decide)
    rw [cw.2.2.1.2.1 k (by omega)] at this
    exact this
  have r2 : wI C 24 (nI k) (nI t) = some (sI C 24 k (nI t)) := wI_eq w 24 6 rfl k (by omega) (by decide) _
  by_cases c : x (6 + k) = nI t
  · refine Or.inl ⟨c, ?_⟩
    rw [act_109 w, bind_pair]
    unfold fn_X11_setMark
    rw [g_0_1 w, Option.bind_some, k_3 w, Option.bind_some, hs, Option.bind_some, if_neg one0, if_neg d1, if_pos d2, g_0_7 w, Option.bind_some, g_22_1 w, Option.bind_some, r1, Option.bind_some, if_pos c]
  · refine Or.inr ⟨c, ?_, VS_mk vs (by omega) ht, ?_⟩
    · rw [act_109 w, bind_pair]
      unfold fn_X11_setMark
      rw [g_0_1 w, Option.bind_some, k_3 w, Option.bind_some, hs, Option.bind_some, if_neg one0, if_neg d1, if_pos d2, g_0_7 w, Option.bind_some, g_22_1 w, Option.bind_some, r1, Option.bind_some, if_neg c, Option.bind_some, g_22_1 w, Option.bind_some, r2, Option.bind_some]
    · obtain ⟨u, hu, eu⟩ := vs.2.1 k (by omega)
      rw [eu, show (10 : Int32) + nI u = nI (10 + u) from nI_add 10 u]
      exact nI_pos (by omega)
theorem refMark_eq {N : Net} {M : aH} {x : XX} (m : Wf M) (V : NV N) (X : XM M 87 x) {k t : Nat} (hk : k < N_b N) (c2 : fn_X12_isBasin M 86 (nI k) = some 1) (ht : t ≤ 9) : fn_X12_refusesMark M 86 (nI k) (nI t) = if x (6 + k) = nI t then some (-2) else some 0 := by
  have h6 := V.1
  have d1 : ¬ nI t < 0 := nI_pos (by omega)
  have d2 : nI t ≤ 9 := nI_le (b := 9) ht (by decide)
  have r1 : aI M 87 14 (6 + nI k) = some (x (6 + k)) := by
    have := aI_eq m 87 14 16 rfl (6 + k) (by omega) (by decide)
    rw [X (6 + k) (by omega)] at this
    rw [show (6 : Int32) + nI k = nI (6 + k) from nI_add 6 k]
    exact this
  unfold fn_X12_refusesMark
  rw [k_86 m, Option.bind_some, c2, Option.bind_some, if_neg one0, in_eq, Option.bind_some, if_neg d1, if_pos d2, if_neg one0, g_86_0 m, Option.bind_some, r1, Option.bind_some]
theorem stp_marks (c : Nat) (v t : Int32) : STEP c (fun C => fn_X11_marks C 0 v t) (fun M => fn_X12_marks M 86 v t) := by
  refine stp_act 109 v t (fun h => absurd h.1 (by decide)) (fun C w => ?_) (fun N sem x C M V v0 cw mw => ?_)
  · unfold fn_X11_marks
    rw [k_0 w, Option.bind_some, bind_pair]
  · have w := cw.1
    have m := mw.1
    have h6 := V.1
    have m0 : Wf (sI M 86 11 0) := m
    rcases bas_cases w cw.2.1 m0 mw.2.1 V v with ⟨c1, c2⟩ | ⟨k, hk, rfl, c1, c2⟩
    · refine Or.inl ⟨-1, by decide, ?_, ?_⟩
      · rw [act_109 w, bind_pair]
        unfold fn_X11_setMark
        rw [g_0_1 w, Option.bind_some, k_3 w, Option.bind_some, c1, Option.bind_some, if_pos rfl]
      · unfold fn_X12_marks fn_X12_refusesMark
        rw [w_pI m 86 11 11 _ rfl, Option.bind_some, k_86 m0, Option.bind_some, Option.bind_some, c2, Option.bind_some, if_pos rfl, Option.bind_some, if_pos (by decide)]
    · have bad : (t < 0 ∨ ¬ t ≤ 9) → fn_X11_act C 0 109 (nI k) t = some (-1, C) ∧ fn_X12_marks M 86 (nI k) t = some (-1, sI M 86 11 0) := by
        intro hb
        constructor
        · rw [act_109 w, bind_pair]
          unfold fn_X11_setMark
          rw [g_0_1 w, Option.bind_some, k_3 w, Option.bind_some, c1, Option.bind_some, if_neg one0]
          by_cases h0 : t < 0
          · rw [if_pos h0]
          · rw [if_neg h0, if_neg (hb.resolve_left h0)]
        · unfold fn_X12_marks fn_X12_refusesMark
          rw [w_pI m 86 11 11 _ rfl, Option.bind_some, k_86 m0, Option.bind_some, Option.bind_some, c2, Option.bind_some, if_neg one0, in_eq, Option.bind_some]
          by_cases h0 : t < 0
          · rw [if_pos h0, if_pos rfl, Option.bind_some, if_pos (by decide)]
          · rw [if_neg h0, if_neg (hb.resolve_left h0), if_pos rfl, Option.bind_some, if_pos (by decide)]
      rcases int_cases 9 (by omega) t with ⟨d1, -⟩ | ⟨d1, d2⟩ | ⟨d1, d2, u, hu, rfl⟩
      · exact Or.inl ⟨-1, by decide, bad (Or.inl d1)⟩
      · exact Or.inl ⟨-1, by decide, bad (Or.inr d2)⟩
      · have rm := refMark_eq (N := N) m0 V (show XM (sI M 86 11 0) 87 x from mw.2.2.1) hk c2 hu
        rcases mark_C cw V v0 hk c1 hu with ⟨e, a1⟩ | ⟨e, a1, a2, a3⟩
        · refine Or.inl ⟨-2, by decide, a1, ?_⟩
          unfold fn_X12_marks
          rw [w_pI m 86 11 11 _ rfl, Option.bind_some, k_86 m0, Option.bind_some, rm, if_pos e, Option.bind_some, if_pos (by decide)]
        · refine Or.inr ⟨_, va_up x (6 + k) (nI u), _, a3, a1, (Fr.refl _ C).sI _ rfl, St_mk cw.2.2.1 (by omega) _, VS_mono (by omega) a2, fun M1 e1 mw1 => ⟨sI M1 87 (6 + k) (nI u), ?_, (Fr.refl _ M1).sI _ rfl, XM_up mw1.2.2.1 _ _⟩⟩
          have m1 := mw1.1
          have r1 : aI M1 87 14 (6 + nI k) = some (x (6 + k)) := by
            have := aI_eq m1 87 14 16 rfl (6 + k) (by omega) (by decide)
            rw [mw1.2.2.1 (6 + k) (by omega)] at this
            rw [show (6 : Int32) + nI k = nI (6 + k) from nI_add 6 k]
            exact this
          have r2 : wI M1 87 (6 + nI k) (nI u) = some (sI M1 87 (6 + k) (nI u)) := by
            rw [show (6 : Int32) + nI k = nI (6 + k) from nI_add 6 k]
            exact wI_eq m1 87 16 rfl (6 + k) (by omega) (by decide) _
          unfold fn_X12_marks
          rw [w_pI m 86 11 11 _ rfl, Option.bind_some, k_86 m0, Option.bind_some, rm, if_neg e, Option.bind_some, if_neg (by decide), g_86_0 m0, Option.bind_some, Option.bind_some, e1, Option.bind_some, g_86_0 m1, Option.bind_some, r1, Option.bind_some, Option.bind_some, r2, Option.bind_some]
/-- water: the class pours and lets, the reference adds a signed number -/
theorem pour_C {N : Net} {sem : Sem} {x : XX} {C : aH} {B : Nat} (cw : CW N sem x C) (V : NV N) (vs : VS N B x) {k t : Nat} (hk : k < N_b N) (hs : fn_X0_hasBasin C 3 (nI k) = some 1) (ht : 1 ≤ t ∧ t ≤ 9) : ∃ a, a ≤ 9 ∧ x k = nI a ∧ ((9 < a + t ∧ fn_X11_act C 0 112 (nI k) (nI t) = some (-2, C)) ∨ (a + t ≤ 9 ∧ fn_X11_act C 0 112 (nI k) (nI t) = some (nI (a + t), sI C 23 k (nI (a + t))))) := by
  have h6 := V.1
  have w := cw.1
  obtain ⟨a, ha, ea, -⟩ := vs.1 k (by omega)
  refine ⟨a, ha, ea, ?_⟩
  have d1 : ¬ nI t < 1 := nI_nlt (b := 1) ht.1 (by omega)
  have d2 : nI t ≤ 9 := nI_le (b := 9) ht.2 (by decide)
  have fl := fillC_eq (Or.inl rfl) w cw.2.2.1 (b := k) (by omega) (nI t)
  have sm1 : x k + nI t = nI (a + t) := by rw [ea, nI_add]
  rw [sm1] at fl
  by_cases c : a + t ≤ 9
  · refine Or.inr ⟨c, ?_⟩
    rw [if_pos (show nI (a + t) ≤ 9 from nI_le (b := 9) c (by decide))] at fl
    have w1 : Wf (sI C 23 k (nI (a + t))) := w
    have r3 : aI (sI C 23 k (nI (a + t))) 23 14 (nI k) = some (nI (a + t)) := by
      rw [aI_eq w1 23 14 6 rfl k (by omega) (by decide), hI_sI, if_pos ⟨rfl, rfl⟩]
    rw [act_112 w, bind_pair]
    unfold fn_X11_pour
    rw [g_0_1 w, Option.bind_some, k_3 w, Option.bind_some, hs, Option.bind_some, if_neg one0, if_neg d1, if_pos d2, Option.bind_some, g_0_7 w, Option.bind_some, k_3 w, Option.bind_some, fl, Option.bind_some, if_neg one0, g_0_7 w1, Option.bind_some, g_22_0 w1, Option.bind_some, r3, Option.bind_some]
  · refine Or.inl ⟨by omega, ?_⟩
    rw [if_neg (show ¬ nI (a + t) ≤ 9 from nI_ge (a := 9) (by omega) (by omega))] at fl
    rw [act_112 w, bind_pair]
    unfold fn_X11_pour
    rw [g_0_1 w, Option.bind_some, k_3 w, Option.bind_some, hs, Option.bind_some, if_neg one0, if_neg d1, if_pos d2, Option.bind_some, g_0_7 w, Option.bind_some, k_3 w, Option.bind_some, fl, Option.bind_some, if_pos rfl]
theorem let_C {N : Net} {sem : Sem} {x : XX} {C : aH} {B : Nat} (cw : CW N sem x C) (V : NV N) (vs : VS N B x) {k t : Nat} (hk : k < N_b N) (hs : fn_X0_hasBasin C 3 (nI k) = some 1) (ht : 1 ≤ t ∧ t ≤ 9) : ∃ a, a ≤ 9 ∧ x k = nI a ∧ ((a < t ∧ fn_X11_act C 0 108 (nI k) (nI t) = some (-2, C)) ∨ (t ≤ a ∧ fn_X11_act C 0 108 (nI k) (nI t) = some (nI (a - t), sI C 23 k (nI (a - t))))) := by
  have h6 := V.1
  have w := cw.1
  obtain ⟨a, ha, ea, -⟩ := vs.1 k (by omega)
  refine ⟨a, ha, ea, ?_⟩
  have d1 : ¬ nI t < 1 := nI_nlt (b := 1) ht.1 (by omega)
  have d2 : nI t ≤ 9 := nI_le (b := 9) ht.2 (by decide)
  have r1 : aI C 23 14 (nI k) = some (nI a) := by
    rw [aI_eq w 23 14 6 rfl k (by omega) (by decide), cw.2.2.1.1 k (by omega), ea]
  by_cases c : a < t
  · refine Or.inl ⟨c, ?_⟩
    rw [act_108 w, bind_pair]
    unfold fn_X11_letOut
    rw [g_0_1 w, Option.bind_some, k_3 w, Option.bind_some, hs, Option.bind_some, if_neg one0, if_neg d1, if_pos d2, g_0_7 w, Option.bind_some, g_22_0 w, Option.bind_some, r1, Option.bind_some, if_pos (nI_lt c (by omega))]
  · refine Or.inr ⟨by omega, ?_⟩
    have sm1 : nI a - nI t = nI (a - t) := nI_sub (by omega)
    have w1 : Wf (sI C 23 k (nI (a - t))) := w
    have r3 : aI (sI C 23 k (nI (a - t))) 23 14 (nI k) = some (nI (a - t)) := by
      rw [aI_eq w1 23 14 6 rfl k (by omega) (by decide), hI_sI, if_pos ⟨rfl, rfl⟩]
    rw [act_108 w, bind_pair]
    unfold fn_X11_letOut
    rw [g_0_1 w, Option.bind_some, k_3 w, Option.bind_some, hs, Option.bind_some, if_neg one0, if_neg d1, if_pos d2, g_0_7 w, Option.bind_some, g_22_0 w, Option.bind_some, r1, Option.bind_some, if_neg (nI_nlt (by omega) (by omega)), Option.bind_some, g_22_0 w, Option.bind_some, r1, Option.bind_some, sm1, wI_eq w 23 6 rfl k (by omega) (by decide), Option.bind_some, g_0_7 w1, Option.bind_some, g_22_0 w1, Option.bind_some, r3, Option.bind_some]
theorem wat_1 : ∀ t, t < 10 → 1 ≤ t → ¬ (mab (nI t) < 1 ∨ ¬ mab (nI t) ≤ 9) := by decide +kernel
theorem wat_2 : ∀ t, t < 10 → 1 ≤ t → ¬ (mab (-nI t) < 1 ∨ ¬ mab (-nI t) ≤ 9) := by decide +kernel
theorem wat_3 : ∀ a, a < 10 → ∀ t, t < 10 → ((nI a + nI t < 0 ∨ ¬ nI a + nI t ≤ 9) ↔ 9 < a + t) := by decide +kernel
theorem wat_4 : ∀ a, a < 10 → ∀ t, t < 10 → ((nI a + -nI t < 0 ∨ ¬ nI a + -nI t ≤ 9) ↔ a < t) := by decide +kernel
theorem wat_5 : ∀ a, a < 10 → ∀ t, t < 10 → t ≤ a → nI a + -nI t = nI (a - t) := by decide +kernel
/-- what the reference does with water -/
theorem waters_eq {N : Net} {sem : Sem} {x : XX} {M M1 : aH} (m : Wf M) (V : NV N) (mn0 : MN N M) (X : XM M 87 x) {k : Nat} (hk : k < N_b N) {v : Int32} {s : Nat} (e0 : fn_X12_refusesWater M 86 87 (nI k) v = some 0) (es : x k + v = nI s) (e1 : fn_X12_remember M 86 87 = some M1) (mw1 : MW N sem x M1) : fn_X12_waters M 86 (nI k) v = some (nI s, sI M1 87 k (nI s)) := by
  have h6 := V.1
  have m1 := mw1.1
  have m2 : Wf (sI M1 87 k (nI s)) := m1
  have r1 : aI M1 87 14 (nI k) = some (x k) := by rw [aI_eq m1 87 14 16 rfl k (by omega) (by decide), mw1.2.2.1 k (by omega)]
  have r2 : wI M1 87 (nI k) (nI s) = some (sI M1 87 k (nI s)) := wI_eq m1 87 16 rfl k (by omega) (by decide) _
  have r3 : aI (sI M1 87 k (nI s)) 87 14 (nI k) = some (nI s) := by rw [aI_eq m2 87 14 16 rfl k (by omega) (by decide), hI_sI, if_pos ⟨rfl, rfl⟩]
  unfold fn_X12_waters
  rw [g_86_0 m, Option.bind_some, k_86 m, Option.bind_some, e0, Option.bind_some, if_neg (by decide), Option.bind_some, Option.bind_some, e1, Option.bind_some, g_86_0 m1, Option.bind_some, r1, Option.bind_some, es, r2, Option.bind_some, g_86_0 m2, Option.bind_some, r3, Option.bind_some]
theorem stp_pours (c : Nat) (v t : Int32) : STEP c (fun C => fn_X11_pours C 0 v t) (fun M => fn_X12_pours M 86 v t) := by
  refine stp_act 112 v t (fun h => absurd h.1 (by decide)) (fun C w => ?_) (fun N sem x C M V v0 cw mw => ?_)
  · unfold fn_X11_pours
    rw [k_0 w, Option.bind_some, bind_pair]
  · have w := cw.1
    have m := mw.1
    have h6 := V.1
    have m0 : Wf (sI M 86 11 0) := m
    have bad : (t < 1 ∨ ¬ t ≤ 9) → fn_X11_act C 0 112 v t = some (-1, C) ∧ fn_X12_pours M 86 v t = some (-1, sI M 86 11 0) := by
      intro hb
      constructor
      · rw [act_112 w, bind_pair]
        unfold fn_X11_pour
        rw [g_0_1 w, Option.bind_some, k_3 w, Option.bind_some]
        rcases bas_cases w cw.2.1 m0 mw.2.1 V v with ⟨c1, c2⟩ | ⟨k, hk, rfl, c1, c2⟩
        · rw [c1, Option.bind_some, if_pos rfl]
        · rw [c1, Option.bind_some, if_neg one0]
          by_cases h0 : t < 1
          · rw [if_pos h0]
          · rw [if_neg h0, if_neg (hb.resolve_left h0)]
      · unfold fn_X12_pours
        rw [w_pI m 86 11 11 _ rfl, Option.bind_some, in_eq, Option.bind_some]
        by_cases h0 : t < 1
        · rw [if_pos h0, if_pos rfl]
        · rw [if_neg h0, if_neg (hb.resolve_left h0), if_pos rfl]
    by_cases h0 : t < 1
    · exact Or.inl ⟨-1, by decide, bad (Or.inl h0)⟩
    by_cases h9 : ¬ t ≤ 9
    · exact Or.inl ⟨-1, by decide, bad (Or.inr h9)⟩
    have h9 : t ≤ 9 := Decidable.not_not.mp h9
    have hn0 : ¬ t < 0 := fun q => h0 (by rw [fa_lt] at q ⊢; have : (0 : Int32).toInt = 0 := rfl; have : (1 : Int32).toInt = 1 := rfl; omega)
    obtain ⟨u, hu, rfl⟩ : ∃ u : Nat, u ≤ 9 ∧ t = nI u := by
      rcases int_cases 9 (by omega) t with ⟨d1, -⟩ | ⟨d1, d2⟩ | ⟨d1, d2, u, hu, e⟩
      · exact absurd d1 hn0
      · exact absurd h9 d2
      · exact ⟨u, hu, e⟩
    have hu1 : 1 ≤ u := by
      rcases Nat.eq_zero_or_pos u with q | q
      · rw [q] at h0; exact absurd (by decide) h0
      · exact q
    have head : fn_X12_pours M 86 v (nI u) = fn_X12_waters (sI M 86 11 0) 86 v (nI u) := by
      unfold fn_X12_pours
      rw [w_pI m 86 11 11 _ rfl, Option.bind_some, in_eq, Option.bind_some, if_neg h0, if_pos h9, if_neg one0, k_86 m0, Option.bind_some, bind_pair]
    rcases bas_cases w cw.2.1 m0 mw.2.1 V v with ⟨c1, c2⟩ | ⟨k, hk, rfl, c1, c2⟩
    · refine Or.inl ⟨-1, by decide, ?_, ?_⟩
      · rw [act_112 w, bind_pair]
        unfold fn_X11_pour
        rw [g_0_1 w, Option.bind_some, k_3 w, Option.bind_some, c1, Option.bind_some, if_pos rfl]
      · rw [head]
        unfold fn_X12_waters fn_X12_refusesWater
        rw [g_86_0 m0, Option.bind_some, k_86 m0, Option.bind_some, Option.bind_some, c2, Option.bind_some, if_pos rfl, Option.bind_some, if_pos (by decide)]
    · have rw0 := refWater_eq (Or.inl rfl) m0 mw.2.1 V (show XM (sI M 86 11 0) 87 x from mw.2.2.1) hk (nI u)
      obtain ⟨a, ha, ea, cs⟩ := pour_C cw V v0 hk c1 ⟨hu1, hu⟩
      have p1 := wat_1 u (by omega) hu1
      have p2 := wat_3 a (by omega) u (by omega)
      rw [if_neg p1, ea] at rw0
      rcases cs with ⟨hs, a1⟩ | ⟨hs, a1⟩
      · rw [if_pos (p2.mpr hs)] at rw0
        refine Or.inl ⟨-2, by decide, a1, ?_⟩
        rw [head]
        unfold fn_X12_waters
        rw [g_86_0 m0, Option.bind_some, k_86 m0, Option.bind_some, rw0, Option.bind_some, if_pos (by decide)]
      · rw [if_neg (fun q => absurd (p2.mp q) (by omega))] at rw0
        refine Or.inr ⟨_, va_up x k (nI (a + u)), _, nI_pos (by omega), a1, (Fr.refl _ C).sI _ rfl, St_lv cw.2.2.1 (by omega) _, VS_mono (by omega) (VS_lv v0 hk h6 hs), fun M1 e1 mw1 => ⟨sI M1 87 k (nI (a + u)), ?_, (Fr.refl _ M1).sI _ rfl, XM_up mw1.2.2.1 _ _⟩⟩
        rw [head]
        exact waters_eq m0 V mw.2.1 mw.2.2.1 hk rw0 (by rw [ea, nI_add]) e1 mw1
theorem stp_lets (c : Nat) (v t : Int32) : STEP c (fun C => fn_X11_lets C 0 v t) (fun M => fn_X12_lets M 86 v t) := by
  refine stp_act 108 v t (fun h => absurd h.1 (by decide)) (fun C w => ?_) (fun N sem x C M V v0 cw mw => ?_)
  · unfold fn_X11_lets
    rw [k_0 w, Option.bind_some, bind_pair]
  · have w := cw.1
    have m := mw.1
    have h6 := V.1
    have m0 : Wf (sI M 86 11 0) := m
    have bad : (t < 1 ∨ ¬ t ≤ 9) → fn_X11_act C 0 108 v t = some (-1, C) ∧ fn_X12_lets M 86 v t = some (-1, sI M 86 11 0) := by
      intro hb
      constructor
      · rw [act_108 w, bind_pair]
        unfold fn_X11_letOut
        rw [g_0_1 w, Option.bind_some, k_3 w, Option.bind_some]
        rcases bas_cases w cw.2.1 m0 mw.2.1 V v with ⟨c1, c2⟩ | ⟨k, hk, rfl, c1, c2⟩
        · rw [c1, Option.bind_some, if_pos rfl]
        · rw [c1, Option.bind_some, if_neg one0]
          by_cases h0 : t < 1
          · rw [if_pos h0]
          · rw [if_neg h0, if_neg (hb.resolve_left h0)]
      · unfold fn_X12_lets
        rw [w_pI m 86 11 11 _ rfl, Option.bind_some, in_eq, Option.bind_some]
        by_cases h0 : t < 1
        · rw [if_pos h0, if_pos rfl]
        · rw [if_neg h0, if_neg (hb.resolve_left h0), if_pos rfl]
    by_cases h0 : t < 1
    · exact Or.inl ⟨-1, by decide, bad (Or.inl h0)⟩
    by_cases h9 : ¬ t ≤ 9
    · exact Or.inl ⟨-1, by decide, bad (Or.inr h9)⟩
    have h9 : t ≤ 9 := Decidable.not_not.mp h9
    have hn0 : ¬ t < 0 := fun q => h0 (by rw [fa_lt] at q ⊢; have : (0 : Int32).toInt = 0 := rfl; have : (1 : Int32).toInt = 1 := rfl; omega)
    obtain ⟨u, hu, rfl⟩ : ∃ u : Nat, u ≤ 9 ∧ t = nI u := by
      rcases int_cases 9 (by omega) t with ⟨d1, -⟩ | ⟨d1, d2⟩ | ⟨d1, d2, u, hu, e⟩
      · exact absurd d1 hn0
      · exact absurd h9 d2
      · exact ⟨u, hu, e⟩
    have hu1 : 1 ≤ u := by
      rcases Nat.eq_zero_or_pos u with q | q
      · rw [q] at h0; exact absurd (by decide) h0
      · exact q
    have head : fn_X12_lets M 86 v (nI u) = fn_X12_waters (sI M 86 11 0) 86 v (-nI u) := by
      unfold fn_X12_lets
      rw [w_pI m 86 11 11 _ rfl, Option.bind_some, in_eq, Option.bind_some, if_neg h0, if_pos h9, if_neg one0, k_86 m0, Option.bind_some, bind_pair]
    rcases bas_cases w cw.2.1 m0 mw.2.1 V v with ⟨c1, c2⟩ | ⟨k, hk, rfl, c1, c2⟩
    · refine Or.inl ⟨-1, by decide, ?_, ?_⟩
      · rw [act_108 w, bind_pair]
        unfold fn_X11_letOut
        rw [g_0_1 w, Option.bind_some, k_3 w, Option.bind_some, c1, Option.bind_some, if_pos rfl]
      · rw [head]
        unfold fn_X12_waters fn_X12_refusesWater
        rw [g_86_0 m0, Option.bind_some, k_86 m0, Option.bind_some, Option.bind_some, c2, Option.bind_some, if_pos rfl, Option.bind_some, if_pos (by decide)]
    · have rw0 := refWater_eq (Or.inl rfl) m0 mw.2.1 V (show XM (sI M 86 11 0) 87 x from mw.2.2.1) hk (-nI u)
      obtain ⟨a, ha, ea, cs⟩ := let_C cw V v0 hk c1 ⟨hu1, hu⟩
      have p1 := wat_2 u (by omega) hu1
      have p2 := wat_4 a (by omega) u (by omega)
      have p3 := wat_5 a (by omega) u (by omega)
      rw [if_neg p1, ea] at rw0
      rcases cs with ⟨hs, a1⟩ | ⟨hs, a1⟩
      · rw [if_pos (p2.mpr hs)] at rw0
        refine Or.inl ⟨-2, by decide, a1, ?_⟩
        rw [head]
        unfold fn_X12_waters
        rw [g_86_0 m0, Option.bind_some, k_86 m0, Option.bind_some, rw0, Option.bind_some, if_pos (by decide)]
      · rw [if_neg (fun q => absurd (p2.mp q) (by omega))] at rw0
        refine Or.inr ⟨_, va_up x k (nI (a - u)), _, nI_pos (by omega), a1, (Fr.refl _ C).sI _ rfl, St_lv cw.2.2.1 (by omega) _, VS_mono (by omega) (VS_lv v0 hk h6 (by omega)), fun M1 e1 mw1 => ⟨sI M1 87 k (nI (a - u)), ?_, (Fr.refl _ M1).sI _ rfl, XM_up mw1.2.2.1 _ _⟩⟩
        rw [head]
        exact waters_eq m0 V mw.2.1 mw.2.2.1 hk rw0 (by rw [ea]; exact p3 hs) e1 mw1
theorem stp_boats (c : Nat) (v : Int32) : STEP c (fun C => fn_X11_boats C 0 v) (fun M => fn_X12_boats M 86 v) := by
  refine stp_act 98 v 0 (fun h => absurd h.1 (by decide)) (fun C w => ?_) (fun N sem x C M V v0 cw mw => ?_)
  · unfold fn_X11_boats
    rw [k_0 w, Option.bind_some, bind_pair]
  · have w := cw.1
    have m := mw.1
    have h8 := V.2.1
    have h6 := V.1
    have m0 : Wf (sI M 86 11 0) := m
    rcases slu_cases w cw.2.1 m0 mw.2.1 V v with ⟨c1, c2⟩ | ⟨k, hk, rfl, c1, c2⟩
    · refine Or.inl ⟨-1, by decide, ?_, ?_⟩
      · rw [act_98 w, bind_pair]
        unfold fn_X11_sendBoat
        rw [g_0_1 w, Option.bind_some, k_3 w, Option.bind_some, c1, Option.bind_some, if_pos rfl]
      · unfold fn_X12_boats fn_X12_refusesBoat
        rw [w_pI m 86 11 11 _ rfl, Option.bind_some, g_86_0 m0, Option.bind_some, k_86 m0, Option.bind_some, Option.bind_some, c2, Option.bind_some, if_pos rfl, Option.bind_some, if_pos (by decide)]
    · have cr := carryC_eq (Or.inl rfl) w cw.2.1 V cw.2.2.1 hk
      have rb := refBoat_eq (Or.inl rfl) m0 mw.2.1 V (show XM (sI M 86 11 0) 87 x from mw.2.2.1) hk
      have no : fn_X0_carry C 3 22 (nI k) = some (0, C) → fn_X12_refusesBoat (sI M 86 11 0) 86 87 (nI k) = some (-2) → fn_X11_act C 0 98 (nI k) 0 = some (-2, C) ∧ fn_X12_boats M 86 (nI k) = some (-2, sI M 86 11 0) := by
        intro q1 q2
        constructor
        · rw [act_98 w, bind_pair]
          unfold fn_X11_sendBoat
          rw [g_0_1 w, Option.bind_some, k_3 w, Option.bind_some, c1, Option.bind_some, if_neg one0, Option.bind_some, g_0_7 w, Option.bind_some, k_3 w, Option.bind_some, q1, Option.bind_some, if_pos rfl]
        · unfold fn_X12_boats
          rw [w_pI m 86 11 11 _ rfl, Option.bind_some, g_86_0 m0, Option.bind_some, k_86 m0, Option.bind_some, q2, Option.bind_some, if_pos (by decide)]
      by_cases n0 : x (N_f N k) = 0
      · rw [if_pos n0] at cr rb
        exact Or.inl ⟨-2, by decide, no cr rb⟩
      by_cases n9 : x (N_t N k) = 9
      · rw [if_neg n0, if_pos n9] at cr rb
        exact Or.inl ⟨-2, by decide, no cr rb⟩
      rw [if_neg n0, if_neg n9] at cr rb
      obtain ⟨f1, f2, f3, f4⟩ := V.2.2.2 k hk
      have sb := St_boat (Or.inl rfl) V cw.2.2.1 hk
      obtain ⟨C1, eC⟩ : ∃ C1, C1 = sI (sI C (22 + 1) (N_f N k) (x (N_f N k) - 1)) (22 + 1) (N_t N k) (x (N_t N k) + 1) := ⟨_, rfl⟩
      have fC : Fr (sh 22) C C1 := by rw [eC]; exact ((Fr.refl _ C).sI _ rfl).sI _ rfl
      rw [← eC] at cr sb
      have w1 := fC.wf w
      have vb := btX_VS V v0 hk n0 n9
      have yt : btX N x k (N_t N k) = x (N_t N k) + 1 := up_eq _ _ _
      obtain ⟨b, hb, eb, -⟩ := v0.1 (N_t N k) (by omega)
      have pos : ¬ x (N_t N k) + 1 < 0 := by rw [eb, nI_1]; exact nI_pos (by omega)
      have r5 : aI C1 5 14 (nI k) = some (nI (N_t N k)) := by rw [aI_eq w1 5 14 8 rfl k (by omega) (by decide), fC.i 5 k rfl, (cw.2.1.2.2.2 k hk).2.1]
      have r6 : aI C1 23 14 (nI (N_t N k)) = some (x (N_t N k) + 1) := by rw [aI_eq w1 23 14 6 rfl _ (by omega) (by decide), sb.1 _ (by omega), yt]
      refine Or.inr ⟨x (N_t N k) + 1, btX N x k, C1, pos, ?_, fC, sb, VS_mono (by omega) vb, fun M1 e1 mw1 => ?_⟩
      · rw [act_98 w, bind_pair]
        unfold fn_X11_sendBoat
        rw [g_0_1 w, Option.bind_some, k_3 w, Option.bind_some, c1, Option.bind_some, if_neg one0, Option.bind_some, g_0_7 w, Option.bind_some, k_3 w, Option.bind_some, cr, Option.bind_some, if_neg one0, g_0_7 w1, Option.bind_some, g_22_0 w1, Option.bind_some, g_0_1 w1, Option.bind_some, g_3_4 w1, Option.bind_some, r5, Option.bind_some, r6, Option.bind_some]
      · have m1 := mw1.1
        have gb := goBoat_eq (Or.inl rfl) m1 mw1.2.1 V mw1.2.2.1 hk
        obtain ⟨M2, eM⟩ : ∃ M2, M2 = sI (sI M1 87 (N_f N k) (x (N_f N k) - 1)) 87 (N_t N k) (x (N_t N k) + 1) := ⟨_, rfl⟩
        have fM : Fr (mh 87) M1 M2 := by rw [eM]; exact ((Fr.refl _ M1).sI _ rfl).sI _ rfl
        have XB : XM M2 87 (btX N x k) := by rw [eM]; exact XM_up (XM_up mw1.2.2.1 _ _) _ _
        rw [← eM] at gb
        have m2 := fM.wf m1
        have q5 : aI M2 89 14 (nI k) = some (nI (N_t N k)) := by rw [aI_eq m2 89 14 8 rfl k (by omega) (by decide), fM.i 89 k rfl, (mw1.2.1.2.2.2 k hk).2.1]
        have q6 : aI M2 87 14 (nI (N_t N k)) = some (x (N_t N k) + 1) := by rw [aI_eq m2 87 14 16 rfl _ (by omega) (by decide), XB _ (by omega), yt]
        refine ⟨M2, ?_, fM, XB⟩
        unfold fn_X12_boats
        rw [w_pI m 86 11 11 _ rfl, Option.bind_some, g_86_0 m0, Option.bind_some, k_86 m0, Option.bind_some, rb, Option.bind_some, if_neg (by decide), Option.bind_some, Option.bind_some, e1, Option.bind_some, g_86_0 m1, Option.bind_some, k_86 m1, Option.bind_some, gb, Option.bind_some, g_86_0 m2, Option.bind_some, g_86_5 m2, Option.bind_some, q5, Option.bind_some, q6, Option.bind_some]
