/-! the acts of a night, both sides -/
def NB (N : Net) (x : XX) (C M : aH) (B : Nat) (code a bC bM : Int32) : Prop := (∃ r, r < 0 ∧ fn_X11_act C 0 code a bC = some (r, C) ∧ fn_X12_act M 86 code a bM = some (0, M)) ∨
  (∃ r C1 M1 y, ¬ r < 0 ∧ fn_X11_act C 0 code a bC = some (r, C1) ∧ fn_X12_act M 86 code a bM = some (1, M1) ∧ Fr (sh 22) C C1 ∧ Fr (mh 87) M M1 ∧ St C1 22 y ∧ XM M1 87 y ∧ VS N (B + 9) y)
section NightActs
variable {N : Net} {sem : Sem} {x : XX} {C M : aH} {B : Nat}
theorem nb_98 (cw : CW N sem x C) (mw : MW N sem x M) (V : NV N) (v0 : VS N B x) (v bC bM : Int32) : NB N x C M B 98 v bC bM := by
  have w := cw.1
  have m := mw.1
  have h8 := V.2.1
  have h6 := V.1
  have aM : fn_X12_act M 86 98 v bM = (fn_X12_refusesBoat M 86 87 v).bind fun x4 => if x4 < 0 then some (0, M) else (fn_X12_goBoat M 86 87 v).bind fun h7 => some (1, h7) := by
    unfold fn_X12_act
    rw [if_pos rfl, g_86_0 m, Option.bind_some, k_86 m, Option.bind_some]
    rfl
  rcases slu_cases w cw.2.1 m mw.2.1 V v with ⟨c1, c2⟩ | ⟨k, hk, rfl, c1, c2⟩
  · refine Or.inl ⟨-1, by decide, ?_, ?_⟩
    · rw [act_98 w, bind_pair]
      unfold fn_X11_sendBoat
      rw [g_0_1 w, Option.bind_some, k_3 w, Option.bind_some, c1, Option.bind_some, if_pos rfl]
    · rw [aM]
      unfold fn_X12_refusesBoat
      rw [k_86 m, Option.bind_some, c2, Option.bind_some, if_pos rfl, Option.bind_some, if_pos (by decide)]
  · have cr := carryC_eq (Or.inl rfl) w cw.2.1 V cw.2.2.1 hk
    have rb := refBoat_eq (Or.inl rfl) m mw.2.1 V mw.2.2.1 hk
    have no : fn_X0_carry C 3 22 (nI k) = some (0, C) → fn_X12_refusesBoat M 86 87 (nI k) = some (-2) → fn_X11_act C 0 98 (nI k) bC = some (-2, C) ∧ fn_X12_act M 86 98 (nI k) bM = some (0, M) := by
      intro q1 q2
      constructor
      · rw [act_98 w, bind_pair]
        unfold fn_X11_sendBoat
        rw [g_0_1 w, Option.bind_some, k_3 w, Option.bind_some, c1, Option.bind_some, if_neg one0, Option.bind_some, g_0_7 w, Option.bind_some, k_3 w, Option.bind_some, q1, Option.bind_some, if_pos rfl]
      · rw [aM, q2, Option.bind_some, if_pos (by decide)]
    by_cases n0 : x (N_f N k) = 0
    · rw [if_pos n0] at cr rb
      exact Or.inl ⟨-2, by decide, no cr rb⟩
    by_cases n9 : x (N_t N k) = 9
    · rw [if_neg n0, if_pos n9] at cr rb
      exact Or.inl ⟨-2, by decide, no cr rb⟩
    rw [if_neg n0, if_neg n9] at cr rb
    obtain ⟨f1, f2, f3, f4⟩ := V.2.2.2 k hk
    have sb := St_boat (Or.inl rfl) V cw.2.2.1 hk
    obtain ⟨C1, eC⟩ : ∃ C1, C1 = sI (sI C (22 + 1) (N_f N k) (x (N_f N k) - 1)) (22 + 1) (N_t N k) (x (N_t N k) + 1) := ⟨_, rfl⟩
    have fC : Fr (sh 22) C C1 := by rw [eC]; exact ((Fr.refl _ C).sI _ rfl).sI _ rfl
    rw [← eC] at cr sb
    have w1 := fC.wf w
    have vb := btX_VS V v0 hk n0 n9
    have yt : btX N x k (N_t N k) = x (N_t N k) + 1 := up_eq _ _ _
    obtain ⟨b, hb, eb, -⟩ := v0.1 (N_t N k) (by omega)
    have ps : ¬ x (N_t N k) + 1 < 0 := by rw [eb, nI_1]; exact nI_pos (by omega)
    have r5 : aI C1 5 14 (nI k) = some (nI (N_t N k)) := by rw [aI_eq w1 5 14 8 rfl k (by omega) (by decide), fC.i 5 k rfl, (cw.2.1.2.2.2 k hk).2.1]
    have r6 : aI C1 23 14 (nI (N_t N k)) = some (x (N_t N k) + 1) := by rw [aI_eq w1 23 14 6 rfl _ (by omega) (by decide), sb.1 _ (by omega), yt]
    have gb := goBoat_eq (Or.inl rfl) m mw.2.1 V mw.2.2.1 hk
    obtain ⟨M2, eM⟩ : ∃ M2, M2 = sI (sI M 87 (N_f N k) (x (N_f N k) - 1)) 87 (N_t N k) (x (N_t N k) + 1) := ⟨_, rfl⟩
    have fM : Fr (mh 87) M M2 := by rw [eM]; exact ((Fr.refl _ M).sI _ rfl).sI _ rfl
    have XB : XM M2 87 (btX N x k) := by rw [eM]; exact XM_up (XM_up mw.2.2.1 _ _) _ _
    rw [← eM] at gb
    refine Or.inr ⟨x (N_t N k) + 1, C1, M2, btX N x k, ps, ?_, ?_, fC, fM, sb, XB, VS_mono (by omega) vb⟩
    · rw [act_98 w, bind_pair]
      unfold fn_X11_sendBoat
      rw [g_0_1 w, Option.bind_some, k_3 w, Option.bind_some, c1, Option.bind_some, if_neg one0, Option.bind_some, g_0_7 w, Option.bind_some, k_3 w, Option.bind_some, cr, Option.bind_some, if_neg one0, g_0_7 w1, Option.bind_some, g_22_0 w1, Option.bind_some, g_0_1 w1, Option.bind_some, g_3_4 w1, Option.bind_some, r5, Option.bind_some, r6, Option.bind_some]
    · rw [aM, rb, Option.bind_some, if_neg (by decide), gb, Option.bind_some]
theorem nb_107 (cw : CW N sem x C) (mw : MW N sem x M) (V : NV N) (v0 : VS N B x) (v bC bM : Int32) : NB N x C M B 107 v bC bM := by
  have w := cw.1
  have m := mw.1
  have aM : fn_X12_act M 86 107 v bM = (fn_X12_isSluice M 86 v).bind fun x59 => if x59 = 0 then some ((0 : Int32), M) else (aI M 87 14 13).bind fun x61 => (wI M 87 13 (x61 ^^^ (1 <<< (v &&& 31)))).bind fun h62 => some (1, h62) := by
    unfold fn_X12_act
    rw [if_neg (by decide), if_neg (by decide), if_neg (by decide), if_neg (by decide), if_neg (by decide), if_neg (by decide), if_neg (by decide), if_neg (by decide), if_neg (by decide), if_pos rfl, k_86 m, Option.bind_some, g_86_0 m]
    rfl
  rcases slu_cases w cw.2.1 m mw.2.1 V v with ⟨c1, c2⟩ | ⟨k, hk, rfl, c1, c2⟩
  · refine Or.inl ⟨-1, by decide, ?_, ?_⟩
    · rw [act_107 w, bind_pair]
      unfold fn_X11_stick
      rw [g_0_1 w, Option.bind_some, k_3 w, Option.bind_some, c1, Option.bind_some, if_pos rfl]
    · rw [aM, c2, Option.bind_some, if_pos rfl]
  · obtain ⟨u, hu, hu2, eu, a1, a2⟩ := stick_C cw V v0 hk c1 bC
    have r1 : aI M 87 14 13 = some (x 13) := by
      have := aI_eq m 87 14 16 rfl 13 (by decide) (by decide)
      rw [mw.2.2.1 13 (by decide)] at this
      exact this
    have r2 : wI M 87 13 (nI u) = some (sI M 87 13 (nI u)) := wI_eq m 87 16 rfl 13 (by decide) (by decide) _
    have e4 : x 13 ^^^ 1 <<< (nI k &&& 31) = nI u := eu
    refine Or.inr ⟨nI u, _, sI M 87 13 (nI u), va_up x 13 (nI u), nI_pos (by omega), a1, ?_, (Fr.refl _ C).sI _ rfl, (Fr.refl _ M).sI _ rfl, St_13 cw.2.2.1 _, XM_up mw.2.2.1 _ _, VS_mono (by omega) a2⟩
    rw [aM, c2, Option.bind_some, if_neg one0, r1, Option.bind_some, e4, r2, Option.bind_some]
theorem nb_109 (cw : CW N sem x C) (mw : MW N sem x M) (V : NV N) (v0 : VS N B x) (v : Int32) {t : Nat} (ht : t ≤ 9) : NB N x C M B 109 v (nI t) (nI t) := by
  have w := cw.1
  have m := mw.1
  have h6 := V.1
  have aM : fn_X12_act M 86 109 v (nI t) = (fn_X12_refusesMark M 86 v (nI t)).bind fun x76 => if x76 < 0 then some (0, M) else (wI M 87 (6 + v) (nI t)).bind fun h78 => some (1, h78) := by
    unfold fn_X12_act
    rw [if_neg (by decide), if_neg (by decide), if_neg (by decide), if_neg (by decide), if_neg (by decide), if_neg (by decide), if_neg (by decide), if_neg (by decide), if_neg (by decide), if_neg (by decide), if_neg (by decide), if_pos rfl, k_86 m, Option.bind_some, g_86_0 m]
    rfl
  rcases bas_cases w cw.2.1 m mw.2.1 V v with ⟨c1, c2⟩ | ⟨k, hk, rfl, c1, c2⟩
  · refine Or.inl ⟨-1, by decide, ?_, ?_⟩
    · rw [act_109 w, bind_pair]
      unfold fn_X11_setMark
      rw [g_0_1 w, Option.bind_some, k_3 w, Option.bind_some, c1, Option.bind_some, if_pos rfl]
    · rw [aM]
      unfold fn_X12_refusesMark
      rw [k_86 m, Option.bind_some, c2, Option.bind_some, if_pos rfl, Option.bind_some, if_pos (by decide)]
  · have rm := refMark_eq (N := N) m V mw.2.2.1 hk c2 ht
    rcases mark_C cw V v0 hk c1 ht with ⟨e, a1⟩ | ⟨e, a1, a2, a3⟩
    · refine Or.inl ⟨-2, by decide, a1, ?_⟩
      rw [aM, rm, if_pos e, Option.bind_some, if_pos (by decide)]
    · refine Or.inr ⟨_, _, sI M 87 (6 + k) (nI t), va_up x (6 + k) (nI t), a3, a1, ?_, (Fr.refl _ C).sI _ rfl, (Fr.refl _ M).sI _ rfl, St_mk cw.2.2.1 (by omega) _, XM_up mw.2.2.1 _ _, VS_mono (by omega) a2⟩
      have r2 : wI M 87 (6 + nI k) (nI t) = some (sI M 87 (6 + k) (nI t)) := by
        rw [show (6 : Int32) + nI k = nI (6 + k) from nI_add 6 k]
        exact wI_eq m 87 16 rfl (6 + k) (by omega) (by decide) _
      rw [aM, rm, if_neg e, Option.bind_some, if_neg (by decide), r2, Option.bind_some]
theorem nb_wat {code : Int32} {s : Int32} (m : Wf M) (mw : MW N sem x M) (V : NV N) {v bM : Int32} (aM : fn_X12_act M 86 code v bM = (fn_X12_refusesWater M 86 87 v s).bind fun x94 => if x94 < 0 then some (0, M) else (aI M 87 14 v).bind fun x96 => (wI M 87 v (x96 + s)).bind fun h97 => some (1, h97)) {k u : Nat} (hk : k < N_b N) (ev : v = nI k) (e0 : fn_X12_refusesWater M 86 87 v s = some 0) (es : x k + s = nI u) : fn_X12_act M 86 code v bM = some (1, sI M 87 k (nI u)) := by
  have h6 := V.1
  subst ev
  have r1 : aI M 87 14 (nI k) = some (x k) := by rw [aI_eq m 87 14 16 rfl k (by omega) (by decide), mw.2.2.1 k (by omega)]
  rw [aM, e0, Option.bind_some, if_neg (by decide), r1, Option.bind_some, es, wI_eq m 87 16 rfl k (by omega) (by decide), Option.bind_some]
theorem nb_112 (cw : CW N sem x C) (mw : MW N sem x M) (V : NV N) (v0 : VS N B x) (v : Int32) {t : Nat} (ht : 1 ≤ t ∧ t ≤ 9) : NB N x C M B 112 v (nI t) (nI t) := by
  have w := cw.1
  have m := mw.1
  have h6 := V.1
  have aM : fn_X12_act M 86 112 v (nI t) = (fn_X12_refusesWater M 86 87 v (nI t)).bind fun x94 => if x94 < 0 then some (0, M) else (aI M 87 14 v).bind fun x96 => (wI M 87 v (x96 + nI t)).bind fun h97 => some (1, h97) := by
    unfold fn_X12_act
    rw [if_neg (by decide), if_neg (by decide), if_neg (by decide), if_neg (by decide), if_neg (by decide), if_neg (by decide), if_neg (by decide), if_neg (by decide), if_neg (by decide), if_neg (by decide), if_neg (by decide), if_neg (by decide), if_neg (by decide), if_neg (by decide), if_pos rfl, if_pos rfl, Option.bind_some, g_86_0 m, Option.bind_some, k_86 m, Option.bind_some]
    rfl
  rcases bas_cases w cw.2.1 m mw.2.1 V v with ⟨c1, c2⟩ | ⟨k, hk, rfl, c1, c2⟩
  · refine Or.inl ⟨-1, by decide, ?_, ?_⟩
    · rw [act_112 w, bind_pair]
      unfold fn_X11_pour
      rw [g_0_1 w, Option.bind_some, k_3 w, Option.bind_some, c1, Option.bind_some, if_pos rfl]
    · rw [aM]
      unfold fn_X12_refusesWater
      rw [k_86 m, Option.bind_some, c2, Option.bind_some, if_pos rfl, Option.bind_some, if_pos (by decide)]
  · have rw0 := refWater_eq (Or.inl rfl) m mw.2.1 V mw.2.2.1 hk (nI t)
    obtain ⟨a, ha, ea, cs⟩ := pour_C cw V v0 hk c1 ht
    have p1 := wat_1 t (by omega) ht.1
    have p2 := wat_3 a (by omega) t (by omega)
    rw [if_neg p1, ea] at rw0
    rcases cs with ⟨hs, a1⟩ | ⟨hs, a1⟩
    · rw [if_pos (p2.mpr hs)] at rw0
      refine Or.inl ⟨-2, by decide, a1, ?_⟩
      rw [aM, rw0, Option.bind_some, if_pos (by decide)]
    · rw [if_neg (fun q => absurd (p2.mp q) (by omega))] at rw0
      exact Or.inr ⟨_, _, sI M 87 k (nI (a + t)), va_up x k (nI (a + t)), nI_pos (by omega), a1, nb_wat m mw V aM hk rfl rw0 (by rw [ea, nI_add]), (Fr.refl _ C).sI _ rfl, (Fr.refl _ M).sI _ rfl, St_lv cw.2.2.1 (by omega) _, XM_up mw.2.2.1 _ _, VS_mono (by omega) (VS_lv v0 hk h6 hs)⟩
theorem nb_108 (cw : CW N sem x C) (mw : MW N sem x M) (V : NV N) (v0 : VS N B x) (v : Int32) {t : Nat} (ht : 1 ≤ t ∧ t ≤ 9) : NB N x C M B 108 v (nI t) (nI t) := by
  have w := cw.1
  have m := mw.1
  have h6 := V.1
  have aM : fn_X12_act M 86 108 v (nI t) = (fn_X12_refusesWater M 86 87 v (-nI t)).bind fun x94 => if x94 < 0 then some (0, M) else (aI M 87 14 v).bind fun x96 => (wI M 87 v (x96 + -nI t)).bind fun h97 => some (1, h97) := by
    unfold fn_X12_act
    rw [if_neg (by decide), if_neg (by decide), if_neg (by decide), if_neg (by decide), if_neg (by decide), if_neg (by decide), if_neg (by decide), if_neg (by decide), if_neg (by decide), if_neg (by decide), if_pos rfl, if_neg (by decide), Option.bind_some, g_86_0 m, Option.bind_some, k_86 m, Option.bind_some]
    rfl
  rcases bas_cases w cw.2.1 m mw.2.1 V v with ⟨c1, c2⟩ | ⟨k, hk, rfl, c1, c2⟩
  · refine Or.inl ⟨-1, by decide, ?_, ?_⟩
    · rw [act_108 w, bind_pair]
      unfold fn_X11_letOut
      rw [g_0_1 w, Option.bind_some, k_3 w, Option.bind_some, c1, Option.bind_some, if_pos rfl]
    · rw [aM]
      unfold fn_X12_refusesWater
      rw [k_86 m, Option.bind_some, c2, Option.bind_some, if_pos rfl, Option.bind_some, if_pos (by decide)]
  · have rw0 := refWater_eq (Or.inl rfl) m mw.2.1 V mw.2.2.1 hk (-nI t)
    obtain ⟨a, ha, ea, cs⟩ := let_C cw V v0 hk c1 ht
    have p1 := wat_2 t (by omega) ht.1
    have p2 := wat_4 a (by omega) t (by omega)
    have p3 := wat_5 a (by omega) t (by omega)
    rw [if_neg p1, ea] at rw0
    rcases cs with ⟨hs, a1⟩ | ⟨hs, a1⟩
    · rw [if_pos (p2.mpr hs)] at rw0
      refine Or.inl ⟨-2, by decide, a1, ?_⟩
      rw [aM, rw0, Option.bind_some, if_pos (by decide)]
    · rw [if_neg (fun q => absurd (p2.mp q) (by omega))] at rw0
      exact Or.inr ⟨_, _, sI M 87 k (nI (a - t)), va_up x k (nI (a - t)), nI_pos (by omega), a1, nb_wat m mw V aM hk rfl rw0 (by rw [ea]; exact p3 hs), (Fr.refl _ C).sI _ rfl, (Fr.refl _ M).sI _ rfl, St_lv cw.2.2.1 (by omega) _, XM_up mw.2.2.1 _ _, VS_mono (by omega) (VS_lv v0 hk h6 (by omega))⟩
theorem nb_110 (cw : CW N sem x C) (mw : MW N sem x M) (V : NV N) (v0 : VS N B x) (hB : B < 100000) {a : Nat} (ha : a ≤ 9) (bC bM : Int32) : NB N x C M B 110 (nI a) bC bM := by
  have w := cw.1
  have m := mw.1
  have aM : fn_X12_act M 86 110 (nI a) bM = (fn_X12_goHours M 86 87 (nI a)).bind fun h83 => some (1, h83) := by
    unfold fn_X12_act
    rw [if_neg (by decide), if_neg (by decide), if_neg (by decide), if_neg (by decide), if_neg (by decide), if_neg (by decide), if_neg (by decide), if_neg (by decide), if_neg (by decide), if_neg (by decide), if_neg (by decide), if_neg (by decide), if_pos rfl, g_86_0 m, Option.bind_some, k_86 m, Option.bind_some]
  obtain ⟨C1, a1, f1, T1⟩ := hours_C cw V v0 (n := a) (by omega) bC
  have TM0 : TM M 87 (x, hI M 86 27, hI M 86 28, hI M 100) := ⟨mw.2.2.1, rfl, rfl, fun _ _ => rfl⟩
  obtain ⟨M3, g3, g4, g5⟩ := goHours_eq (Or.inl rfl) m mw.2.1 V mw.2.2.2 (z := (x, hI M 86 27, hI M 86 28, hI M 100)) v0 TM0 (n := a) (by omega) (by omega)
  have e1 : (hrs N sem a (x, 0, 0, zer)).1 = hXs N sem a x := hrs_x N sem _ a
  have e2 : (hrs N sem a (x, hI M 86 27, hI M 86 28, hI M 100)).1 = hXs N sem a x := hrs_x N sem _ a
  have vy : VS N (B + 9) (hXs N sem a x) := VS_mono (by omega) (hXs_VS V sem v0 a)
  have S1 : St C1 22 (hXs N sem a x) := by rw [← e1]; exact T1.1
  have X1 : XM M3 87 (hXs N sem a x) := by rw [← e2]; exact g5.1
  refine Or.inr ⟨_, C1, M3, hXs N sem a x, ?_, a1, ?_, f1, g4, S1, X1, vy⟩
  · rw [e1]; exact sumI_pos V vy
  · rw [aM, g3, Option.bind_some]
/-- any act of a night that was read right -/
theorem nb_all (cw : CW N sem x C) (mw : MW N sem x M) (V : NV N) (v0 : VS N B x) (hB : B < 100000) {c a t : Nat} (hc : 0 < sl c) (ha : a ≤ 9) (ht : t ≤ 9) (h1 : sl c = 3 → c ≠ 109 → 1 ≤ t) (bM : Int32) (hbM : sl c = 3 → bM = nI t) (bC : Int32) (hbC : sl c = 3 → bC = nI t) : NB N x C M B (nI c) (nI a) bC bM := by
  have cs : c = 98 ∨ c = 107 ∨ c = 110 ∨ c = 108 ∨ c = 109 ∨ c = 112 := by
    unfold sl at hc
    split at hc
    · omega
    · split at hc
      · omega
      · omega
  rcases cs with rfl | rfl | rfl | rfl | rfl | rfl
  · exact nb_98 cw mw V v0 _ _ _
  · exact nb_107 cw mw V v0 _ _ _
  · exact nb_110 cw mw V v0 hB ha _ _
  · rw [hbM (by decide), hbC (by decide)]
    exact nb_108 cw mw V v0 _ ⟨h1 (by decide) (by decide), ht⟩
  · rw [hbM (by decide), hbC (by decide)]
    exact nb_109 cw mw V v0 _ ht
  · rw [hbM (by decide), hbC (by decide)]
    exact nb_112 cw mw V v0 _ ⟨h1 (by decide) (by decide), ht⟩
end NightActs
