/-! a night -/
section NightLoop
variable {N : Net} {sem : Sem} {T : Nat → Nat} {n K B : Nat}
theorem TxC.to {h h1 : aH} {S : Nat → Nat → Bool} (t : TxC T n h) (f : Fr S h h1) (e1 : S 1 1 = false) (e2 : ∀ j, S 2 j = false) : TxC T n h1 := by
  obtain ⟨t1, t2, t3⟩ := t
  refine ⟨t1, (f.i 1 1 e1).trans t2, fun i hi => ?_⟩
  rw [f.i 2 i (e2 i)]
  exact t3 i hi
theorem actsM.to {h h1 : aH} {S : Nat → Nat → Bool} (t : actsM T n K h) (f : Fr S h h1) (e : ∀ j, S 101 j = false) : actsM T n K h1 := by
  intro j hj
  rw [f.i 101 _ (e _), f.i 101 _ (e _), f.i 101 _ (e _)]
  exact t j hj
theorem mx_sl : ∀ s, s < 4 → 2 ≤ s → mx 1 (nI s) = nI s := by decide +kernel
theorem doing_lp (V : NV N) (g : good T n K) (hK : n ≤ pos T K) (hn : n ≤ 80) (hB : B + 300 < 100000) : ∀ m k, k + m = K → ∀ N1 N2 (C M : aH) (x : XX), m + 1 < N1 → m < N2 → CW N sem x C → MW N sem x M → VS N (B + 9 * k) x → TxC T n C → actsM T n K M →
    ∃ d bad C1 M1 y, lp (lb_X11_night_39 0) N1 (nI k, 0, nI (pos T k), C) = some (nI d, b2 bad, C1) ∧ lp (lb_X12_night_72 86 (nI K)) N2 (nI k, M) = some (nI d, M1) ∧ d ≤ K ∧ (bad = true ↔ d < K) ∧ Fr (sh 22) C C1 ∧ Fr (mh 87) M M1 ∧ St C1 22 y ∧ XM M1 87 y ∧ VS N (B + 9 * K) y := by
  obtain ⟨gK1, gK2⟩ := good_pos K g
  intro m
  induction m with
  | zero =>
    intro k hk N1 N2 C M x h1 h2 cw mw vs t am
    have ek : k = K := by omega
    subst ek
    have w := cw.1
    obtain ⟨N1', rfl⟩ : ∃ q, N1 = q + 1 := ⟨N1 - 1, by omega⟩
    obtain ⟨N2', rfl⟩ : ∃ q, N2 = q + 1 := ⟨N2 - 1, by omega⟩
    refine ⟨k, false, C, M, x, ?_, ?_, by omega, by simp, Fr.refl _ _, Fr.refl _ _, cw.2.2.1, mw.2.2.1, vs⟩
    · have st : lb_X11_night_39 0 (nI k, 0, nI (pos T k), C) = some (.inr (nI k, 0, C)) := by
        unfold lb_X11_night_39
        dsimp only
        rw [g_0_0 w, Option.bind_some, w_gI w 1 7 1 rfl, Option.bind_some, t.2.1, if_neg (nI_nlt hK (by omega))]
      simp only [lp]
      rw [st]
      rfl
    · have st : lb_X12_night_72 86 (nI k) (nI k, M) = some (.inr (nI k, M)) := by
        unfold lb_X12_night_72
        dsimp only
        rw [if_neg (nI_nlt (Nat.le_refl k) (by omega))]
      simp only [lp]
      rw [st]
  | succ m ih =>
    intro k hk N1 N2 C M x h1 h2 cw mw vs t am
    have w := cw.1
    have mm := mw.1
    obtain ⟨N1', rfl⟩ : ∃ q, N1 = q + 1 := ⟨N1 - 1, by omega⟩
    obtain ⟨N2', rfl⟩ : ∃ q, N2 = q + 1 := ⟨N2 - 1, by omega⟩
    obtain ⟨gp1, gp2⟩ := good_pos k (fun j hj => g j (by omega))
    obtain ⟨g1, g2⟩ := g k (by omega)
    obtain ⟨a1, a2, a3, a4, a5⟩ := aw_none g2
    have tp := (t.2.2 (pos T k) g1).1
    obtain ⟨m1, m2, m3⟩ := am k (by omega)
    have hs := sl_01 (T (pos T k))
    have one : sl (T (pos T k)) = 3 → T (pos T k) ≠ 109 → 1 ≤ dg T n (pos T k + 2) := by
      intro s3 n9
      have := a5 s3
      unfold dg2 isDg at this
      simp [n9] at this
      unfold dg isDg
      rw [if_pos]
      · omega
      · rw [decide_eq_true]; omega
    have nb := nb_all cw mw V vs (by omega) (c := T (pos T k)) (a := dg T n (pos T k + 1)) (t := dg T n (pos T k + 2)) a2 (dg_le _ _ _) (dg_le _ _ _) one (hI M 101 (3 * k + 2)) m3 (nI (dg T n (pos T k + 2))) (fun _ => rfl)
    have sgp : sg T n (pos T k) = nI (T (pos T k)) := if_pos g1
    have d1 : nI (pos T k) + 1 = nI (pos T k + 1) := nI_1 _
    have d2 : nI (pos T k) + 2 = nI (pos T k + 2) := nI_add _ 2
    -- one round of the class
    have stC : ∀ r C1, fn_X11_act C 0 (nI (T (pos T k))) (nI (dg T n (pos T k + 1))) (nI (dg T n (pos T k + 2))) = some (r, C1) → Fr (sh 22) C C1 → lb_X11_night_39 0 (nI k, 0, nI (pos T k), C) = some (.inl (nI k + (if (if r < 0 then (1 : Int32) else 0) = 0 then 1 else 0), (if r < 0 then 1 else 0), nI (pos T (k + 1)), C1)) := by
      intro r C1 e f
      have w1 := f.wf w
      have t1 := t.to f rfl (fun _ => rfl)
      have e20 : ((if r < 0 then some 1 else some 0) : Option Int32) = some (if r < 0 then 1 else 0) := by split <;> rfl
      have e21 : ∀ z : Int32, ((if z = 0 then some 1 else some 0) : Option Int32) = some (if z = 0 then 1 else 0) := fun z => by split <;> rfl
      have ps : nI (pos T k) + nI (sl (T (pos T k))) = nI (pos T (k + 1)) := nI_add _ _
      unfold lb_X11_night_39
      dsimp only
      rw [g_0_0 w, Option.bind_some, w_gI w 1 7 1 rfl, Option.bind_some, t.2.1, if_pos (nI_lt g1 (by omega)), if_pos rfl, Option.bind_some, k_1 w, Option.bind_some, at_C w t (by omega), Option.bind_some, Option.bind_some, k_1 w, Option.bind_some, d1, digit_C w t (by omega), Option.bind_some, Option.bind_some, k_1 w, Option.bind_some, d2, digit_C w t (by omega), Option.bind_some, k_0 w, Option.bind_some, sgp, e, Option.bind_some, e20, Option.bind_some, e21, Option.bind_some, Option.bind_some, g_0_0 w1, Option.bind_some, k_1 w1, Option.bind_some, at_C w1 t1 (by omega), Option.bind_some, sgp, so_eq, Option.bind_some, sgA_nat _ tp, mx_sl _ (by omega) (by omega), ps, Option.bind_some]
    have stM : ∀ r M1, fn_X12_act M 86 (nI (T (pos T k))) (nI (dg T n (pos T k + 1))) (hI M 101 (3 * k + 2)) = some (r, M1) → lb_X12_night_72 86 (nI K) (nI k, M) = if r = 0 then some (.inr (nI k, M1)) else some (.inl (nI (k + 1), M1)) := by
      intro r M1 e
      have o1 : (3 : Int32) * nI k = nI (3 * k) := pk_mul 3 k
      have o2 : nI (3 * k) + 1 = nI (3 * k + 1) := nI_1 _
      have o3 : nI (3 * k) + 2 = nI (3 * k + 2) := nI_add _ 2
      unfold lb_X12_night_72
      dsimp only
      rw [if_pos (nI_lt (show k < K by omega) (by omega)), g_86_30 mm, Option.bind_some, o1, o2, o3, aI_eq mm 101 14 240 rfl (3 * k) (by omega) (by decide), Option.bind_some, Option.bind_some, aI_eq mm 101 14 240 rfl (3 * k + 1) (by omega) (by decide), Option.bind_some, Option.bind_some, aI_eq mm 101 14 240 rfl (3 * k + 2) (by omega) (by decide), Option.bind_some, k_86 mm, Option.bind_some, m1, m2, e, Option.bind_some, nI_1, Option.bind_some]
    rcases nb with ⟨r, hr, c1, c2⟩ | ⟨r, C1, M1, y, hr, c1, c2, f1, f2, s1, x1, vy⟩
    · refine ⟨k, true, C, M, x, ?_, ?_, by omega, by simp; omega, Fr.refl _ _, Fr.refl _ _, cw.2.2.1, mw.2.2.1, VS_mono (by omega) vs⟩
      · have st := stC r C c1 (Fr.refl _ _)
        rw [if_pos hr, if_neg (by decide), Int32.add_zero] at st
        obtain ⟨N1'', rfl⟩ : ∃ q, N1' = q + 1 := ⟨N1' - 1, by omega⟩
        have st2 : lb_X11_night_39 0 (nI k, 1, nI (pos T (k + 1)), C) = some (.inr (nI k, 1, C)) := by
          unfold lb_X11_night_39
          dsimp only
          rw [g_0_0 w, Option.bind_some, w_gI w 1 7 1 rfl, Option.bind_some]
          split
          · rw [if_neg one0]
          · rfl
        simp only [lp]
        rw [st]
        dsimp only
        rw [st2]
        rfl
      · have st := stM 0 M c2
        rw [if_pos rfl] at st
        simp only [lp]
        rw [st]
    · have cw1 : CW N sem y C1 := cw.go (f1.mono sh22_ac) acC_k s1
      have mw1 : MW N sem y M1 := mw.go (f2.mono mh87_ac) acM_k x1
      obtain ⟨d, bad, C2, M2, z, i1, i2, i3, i4, i5, i6, i7, i8, i9⟩ := ih (k + 1) (by omega) N1' N2' C1 M1 y (by omega) (by omega) cw1 mw1 (VS_mono (by omega) vy) (t.to f1 rfl (fun _ => rfl)) (am.to f2 (fun _ => rfl))
      refine ⟨d, bad, C2, M2, z, ?_, ?_, i3, i4, f1.trans i5, f2.trans i6, i7, i8, i9⟩
      · have st := stC r C1 c1 f1
        rw [if_neg hr, if_pos rfl, nI_1] at st
        simp only [lp]
        rw [st]
        exact i1
      · have st := stM 1 M1 c2
        rw [if_neg one0] at st
        simp only [lp]
        rw [st]
        exact i2
end NightLoop
