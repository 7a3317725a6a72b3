/-! lines are told: a net that has grown -/
def tlC (a j : Nat) : Bool := (a == 1 && j == 1) || (a == 3 || (a == 4 || (a == 5 || (a == 6 || (a == 23 || (a == 24 || ((a == 31 && j == 3) || a == 76)))))))
def tlM (a j : Nat) : Bool := (a == 86 && (j == 1 || (j == 2 || (j == 3 || (j == 8 || (j == 11 || (j == 12 || (j == 13 || (j == 14 || (j == 15 || (j == 16 || (j == 24 || j == 46)))))))))))) || (a == 87 || (a == 88 || (a == 89 || (a == 90 || a == 93))))
def noM (a j : Nat) : Bool := (a == 86 && (j == 8 || (j == 11 || (j == 12 || (j == 13 || (j == 14 || (j == 15 || j == 16))))))) || a == 93
theorem noM_tl (a j : Nat) (e : tlM a j = false) : noM a j = false := by
  unfold tlM at e; unfold noM; simp at e ⊢; omega
theorem btM_no (a j : Nat) (e : noM a j = false) : btM a j = false := by
  unfold noM at e; unfold btM; simp at e ⊢; omega
theorem rdL_no (a j : Nat) (e : noM a j = false) : rdL a j = false := by
  unfold noM at e; unfold rdL rdS; simp at e ⊢; omega
theorem rdS_no (a j : Nat) (e : noM a j = false) : rdS a j = false := rdS_L a j (rdL_no a j e)
theorem enC_tl (a j : Nat) (e : tlC a j = false) : enC a j = false := by
  unfold tlC at e; unfold enC; simp at e ⊢; omega
theorem tlC_cls (a j : Nat) (e : cls a j = false) : tlC a j = false := by
  unfold cls at e; unfold tlC; simp at e ⊢; omega
theorem tlM_mdl (a j : Nat) (e : mdl a j = false) : tlM a j = false := by
  unfold mdl at e; unfold tlM; simp at e ⊢; omega
theorem noM_k (a j : Nat) (e : kM a j = true) : noM a j = false := by
  unfold kM at e; unfold noM; simp at e ⊢; omega
theorem noM_mdl (a j : Nat) (e : mdl a j = false) : noM a j = false := noM_tl a j (tlM_mdl a j e)
theorem TxtR.none {C M : aH} (h1 : hI C 1 1 = 0) (h2 : hI M 86 8 = 0) : TxtR C M := ⟨0, by decide, h1, h2, fun i hi => absurd hi (Nat.not_lt_zero _)⟩
section TOLD
variable {N N' : Net} {sem : Sem} {x x' : XX} {l : List Int64} {c : Nat} {C M C1 M1 : aH}
theorem WRL.no (r : WRL N sem x l c C M) (f : Fr txC C C1) (g : Fr noM M M1) (t : TxtR C1 M1) : WRL N sem x l (c + 1) C1 M1 := by
  obtain ⟨V, v, cw, mw, tc, tm, tx, pa, ke, se⟩ := r
  have S3 : St C1 22 x := St_to f (fun j => ⟨rfl, rfl, rfl⟩) cw.2.2.1
  have X3 : XM M1 87 x := XM.to g (fun j => rfl) mw.2.2.1
  refine ⟨V, VS_mono (by omega) v, cw.go f txC_k S3, mw.go g noM_k X3, tc.to f rfl (fun _ => rfl), tm.to g rfl (fun _ => rfl), t, ?_, ?_, ?_⟩
  · exact pa.to f g rfl (fun _ => rfl) (fun a j h1 h2 => by unfold txC; simp; omega) rfl (fun _ => rfl) (by omega)
  · exact ke.to f g (fun a j h1 h2 => by unfold txC; simp; omega) rfl (fun a j h1 h2 => by unfold noM; simp; omega) (by omega) (by omega)
  · exact se.to2 f g rfl (fun a j h1 h2 => by unfold txC; simp; omega) rfl (fun a j h1 h2 => by unfold noM; simp; omega)
theorem WRL.tell (hc : c ≤ 64) (r : WRL N sem x l c C M) (f : Fr tlC C C1) (g : Fr tlM M M1) (V' : NV N') (hb : N_b N ≤ N_b N') (v' : VS N' (300 * (c + 1)) x') (cn : CN N' C1) (S : St C1 22 x') (mn : MN N' M1) (X : XM M1 87 x') (t1 : hI C1 1 1 = 0) (t2 : hI M1 86 8 = 0) (p1 : hI C1 31 3 = 0) (p2 : hI M1 86 24 = 0) (k1 : hI C1 76 0 = 0 ∧ hI C1 76 1 = 0) (k2 : hI M1 86 46 = hI M 86 46 + 1) : WRL N' sem x' l (c + 1) C1 M1 := by
  obtain ⟨V, v, cw, mw, tc, tm, tx, pa, ke, se⟩ := r
  refine ⟨V', v', ⟨f.wf cw.1, cn, S, RuleC.same (f.row 15 fun _ => rfl) (f.i 14 2 rfl) cw.2.2.2⟩, ⟨g.wf mw.1, mn, X, RuleM.same (g.row 94 fun _ => rfl) (g.i 86 20 rfl) (g.r 86 18 (Or.inl rfl)) mw.2.2.2⟩, tc.to f rfl (fun _ => rfl), tm.to g rfl (fun _ => rfl), TxtR.none t1 t2, ?_, ?_, ?_⟩
  · obtain ⟨n, Pp, ad, hn, ⟨q1, q2, q3, q4⟩, -, -⟩ := pa
    refine ⟨0, Pp, ad, by omega, ⟨p1, fun i hi => ?_, q3, fun i hi => absurd hi (Nat.not_lt_zero _)⟩, ⟨p2, fun i hi => absurd hi (Nat.not_lt_zero _)⟩, fun i hi => absurd hi (Nat.not_lt_zero _)⟩
    rw [f.r 32 i (Or.inl rfl)]; exact q2 i hi
  · obtain ⟨cm, h1, h2, h3⟩ := ke
    refine ⟨cm + 1, by omega, by rw [k2, h2, nI_1], fun i hi => ?_⟩
    obtain ⟨a, b, v, e1, e2, e3, e4, e5, e6⟩ := h3 i hi
    refine ⟨false, b, v, ?_, (g.i 114 i rfl).trans e2, (g.i 115 i rfl).trans e3, by omega, ⟨fun q => (by cases q), fun q => by omega⟩, fun q => (by cases q)⟩
    rcases (show i = 0 ∨ i = 1 by omega) with rfl | rfl
    · rw [k1.1]; rfl
    · rw [k1.2]; rfl
  · obtain ⟨n, sb, so, sv, e1, e2, e3, e4⟩ := se
    refine ⟨n, sb, so, sv, e1, (f.i 79 3 rfl).trans e2, (g.i 86 37 rfl).trans e3, fun i hi => ?_⟩
    rw [f.i 80 i rfl, f.i 81 i rfl, f.i 82 i rfl, g.i 105 i rfl, g.i 106 i rfl, g.i 107 i rfl]
    obtain ⟨z1, z2, z3, z4, z5, z6, z7, z8⟩ := e4 i hi
    exact ⟨z1, z2, z3, z4, z5, z6, Nat.lt_of_lt_of_le z7 hb, z8⟩
theorem told_M {h : aH} (m : Wf h) : ∃ h', fn_X12_told h 86 = some h' ∧ Fr tlM h h' ∧ hI h' 86 24 = 0 ∧ hI h' 86 46 = hI h 86 46 + 1 ∧ (∀ a, a ≠ 86 → hI h' a = hI h a) ∧ ∀ j, j ≠ 24 → j ≠ 46 → hI h' 86 j = hI h 86 j := by
  have m1 : Wf (sI h 86 24 0) := m
  refine ⟨sI (sI h 86 24 0) 86 46 (hI h 86 46 + 1), ?_, ((Fr.refl _ _).sI _ rfl).sI _ rfl, ?_, ?_, fun a ha => ?_, fun j h1 h2 => ?_⟩
  · unfold fn_X12_told
    have e : hI (sI h 86 24 0) 86 46 = hI h 86 46 := by rw [hI_row, if_neg (by decide)]
    simp only [w_pI m 86 11 24 _ rfl, Option.bind_some, w_gI m1 86 11 46 rfl, e, w_pI m1 86 11 46 _ rfl]
  · rw [hI_row, if_neg (by decide), hI_row, if_pos rfl]
  · rw [hI_row, if_pos rfl]
  · rw [hI_sI_r, if_neg ha, hI_sI_r, if_neg ha]
  · rw [hI_row, if_neg h2, hI_row, if_neg h1]
end TOLD
/-! basins that come -/
section ADB
variable {T : Nat → Nat} {n : Nat} {N : Net} {sem : Sem} {x : XX} {h : aH}
def ad1 (T : Nat → Nat) (n j : Nat) (z : Net × XX) : Net × XX :=
  ((N_b z.1 + 1, N_s z.1, (if T (4 * j + 2) = 33 then N_l z.1 ||| 2 ^ N_b z.1 else N_l z.1), N_f z.1, N_t z.1, N_k z.1), va_up (va_up z.2 (N_b z.1) (nI (dg T n (4 * j)))) (6 + N_b z.1) (nI (dg T n (4 * j + 1))))
def adK (T : Nat → Nat) (n : Nat) : Nat → Net × XX → Net × XX
  | 0, z => z
  | k + 1, z => ad1 T n k (adK T n k z)
theorem adK_b (z : Net × XX) : ∀ k, N_b (adK T n k z).1 = N_b z.1 + k
  | 0 => rfl
  | k + 1 => by
    show N_b (adK T n k z).1 + 1 = _
    rw [adK_b z k]; omega
theorem ad1_ok {z : Net × XX} {j B : Nat} (V : NV z.1) (v : VS z.1 B z.2) (h6 : N_b z.1 < 6) : NV (ad1 T n j z).1 ∧ VS (ad1 T n j z).1 B (ad1 T n j z).2 := by
  obtain ⟨V1, V2, V3, V4⟩ := V
  obtain ⟨v1, v2, v3, v4, v5, v6⟩ := v
  have up : ∀ k, k ≠ N_b z.1 → k ≠ 6 + N_b z.1 → (ad1 T n j z).2 k = z.2 k := by
    intro k a b
    show va_up (va_up z.2 (N_b z.1) _) (6 + N_b z.1) _ k = z.2 k
    unfold va_up
    rw [if_neg b, if_neg a]
  refine ⟨⟨?_, V2, ?_, fun i hi => ?_⟩, fun i hi => ?_, fun i hi => ?_, ?_, ?_, ?_, ?_⟩
  · show N_b z.1 + 1 ≤ 6
    omega
  · show (if T (4 * j + 2) = 33 then N_l z.1 ||| 2 ^ N_b z.1 else N_l z.1) < 2 ^ (N_b z.1 + 1)
    have : N_l z.1 < 2 ^ (N_b z.1 + 1) := Nat.lt_trans V3 (Nat.pow_lt_pow_right (by decide) (by omega))
    split
    · exact Nat.or_lt_two_pow this (Nat.pow_lt_pow_right (by decide) (by omega))
    · exact this
  · obtain ⟨a, b, c, d⟩ := V4 i hi
    refine ⟨?_, ?_, c, d⟩
    · show N_f z.1 i < N_b z.1 + 1
      omega
    · show N_t z.1 i < N_b z.1 + 1
      omega
  · by_cases e : i = N_b z.1
    · refine ⟨dg T n (4 * j), dg_le _ _ _, ?_, fun q => ?_⟩
      · show va_up (va_up z.2 (N_b z.1) _) (6 + N_b z.1) _ i = _
        unfold va_up
        rw [if_neg (by omega), if_pos e]
      · have q : N_b z.1 + 1 ≤ i := q
        omega
    · obtain ⟨u, a, b, d⟩ := v1 i hi
      refine ⟨u, a, (up i e (by omega)).trans b, fun q => d ?_⟩
      have q : N_b z.1 + 1 ≤ i := q
      omega
  · by_cases e : i = N_b z.1
    · refine ⟨dg T n (4 * j + 1), dg_le _ _ _, ?_⟩
      show va_up (va_up z.2 (N_b z.1) _) (6 + N_b z.1) _ (6 + i) = _
      unfold va_up
      rw [if_pos (by omega)]
    · obtain ⟨u, a, b⟩ := v2 i hi
      exact ⟨u, a, (up (6 + i) (by omega) (by omega)).trans b⟩
  · rw [up 12 (by omega) (by omega)]; exact v3
  · rw [up 13 (by omega) (by omega)]; exact v4
  · rw [up 14 (by omega) (by omega)]; exact v5
  · rw [up 15 (by omega) (by omega)]; exact v6
theorem adK_ok {z : Net × XX} {B : Nat} (V : NV z.1) (v : VS z.1 B z.2) : ∀ k, N_b z.1 + k ≤ 6 → NV (adK T n k z).1 ∧ VS (adK T n k z).1 B (adK T n k z).2
  | 0, _ => ⟨V, v⟩
  | k + 1, hk => by
    obtain ⟨a, b⟩ := adK_ok V v k (by omega)
    exact ad1_ok a b (by rw [adK_b]; omega)
theorem lk_C : ∀ nb, nb < 6 → ∀ l, l < 2 ^ nb → nI l ||| ((1 : Int32) <<< (nI nb &&& 31)) = nI (l ||| 2 ^ nb) ∧ nI l ||| 0 = nI l := by decide +kernel
theorem lk_M : ∀ nb, nb < 6 → ∀ l, l < 2 ^ nb → (nI l &&& (((1 : Int32) <<< (nI nb &&& 31)) ^^^ (-1))) ||| ((1 : Int32) <<< (nI nb &&& 31)) = nI (l ||| 2 ^ nb) ∧ (nI l &&& (((1 : Int32) <<< (nI nb &&& 31)) ^^^ (-1))) ||| ((0 : Int32) <<< (nI nb &&& 31)) = nI l := by decide +kernel
def bsC (a j : Nat) : Bool := (a == 3 && (j == 0 || j == 2)) || (a == 23 || a == 24)
theorem bsC_tl (a j : Nat) (e : tlC a j = false) : bsC a j = false := by
  unfold tlC at e; unfold bsC; simp at e ⊢; omega
theorem addB_C {z : Net × XX} (w : Wf h) (t : TxC T n h) (V : NV z.1) (h6 : N_b z.1 < 6) (cn : CN z.1 h) (S : St h 22 z.2) {j : Nat} (hj : 4 * j + 2 < n) : ∃ h', fn_X11_addBasin h 0 (nI (4 * j)) = some h' ∧ Fr bsC h h' ∧ CN (ad1 T n j z).1 h' ∧ St h' 22 (ad1 T n j z).2 := by
  have n8 := t.1
  have tt := (t.2.2 (4 * j + 2) hj).1
  obtain ⟨c1, c2, c3, c4⟩ := cn
  obtain ⟨S1, S2, S3, S4, S5, S6⟩ := S
  have w8 : Wf (sI h 23 (N_b z.1) (nI (dg T n (4 * j)))) := w
  have t8 : TxC T n (sI h 23 (N_b z.1) (nI (dg T n (4 * j)))) := t
  have w14 : Wf (sI (sI h 23 (N_b z.1) (nI (dg T n (4 * j)))) 24 (N_b z.1) (nI (dg T n (4 * j + 1)))) := w
  have t14 : TxC T n (sI (sI h 23 (N_b z.1) (nI (dg T n (4 * j)))) 24 (N_b z.1) (nI (dg T n (4 * j + 1)))) := t
  obtain ⟨h14, e14⟩ : ∃ h14, h14 = sI (sI h 23 (N_b z.1) (nI (dg T n (4 * j)))) 24 (N_b z.1) (nI (dg T n (4 * j + 1))) := ⟨_, rfl⟩
  rw [← e14] at w14 t14
  have F14 : Fr bsC h h14 := by rw [e14]; exact ((Fr.refl _ _).sI _ rfl).sI _ rfl
  obtain ⟨l', el'⟩ : ∃ l', l' = (if T (4 * j + 2) = 33 then N_l z.1 ||| 2 ^ N_b z.1 else N_l z.1) := ⟨_, rfl⟩
  obtain ⟨q1, q2⟩ := lk_C (N_b z.1) h6 (N_l z.1) V.2.2.1
  have ab : (((if sg T n (4 * j + 2) = 33 then some 1 else some 0) : Option Int32).bind fun t19 => (ck h14 3 0).bind fun u20 => (fn_X0_addBasin h14 3 t19).bind fun h21 => some h21) = some (sI (sI h14 3 2 (nI l')) 3 0 (nI (N_b z.1 + 1))) := by
    have g30 : hI h14 3 0 = nI (N_b z.1) := (by rw [e14]; exact c1)
    have g32 : hI h14 3 2 = nI (N_l z.1) := (by rw [e14]; exact c3)
    have w15 : Wf (sI h14 3 2 (nI l')) := w14
    have g30' : hI (sI h14 3 2 (nI l')) 3 0 = nI (N_b z.1) := by rw [hI_row, if_neg (by decide), g30]
    have lt6 : nI (N_b z.1) < 6 := nI_lt (b := 6) h6 (by decide)
    rw [sg_in hj]
    by_cases c : T (4 * j + 2) = 33
    · rw [if_pos (show nI (T (4 * j + 2)) = 33 by rw [c]; rfl), Option.bind_some, k_3 w14, Option.bind_some]
      rw [if_pos c] at el'
      unfold fn_X0_addBasin
      simp only [w_gI w14 3 0 0 rfl, g30, Option.bind_some, if_pos lt6, w_gI w14 3 0 2 rfl, g32, if_neg one0, q1, ← el', w_pI w14 3 0 2 _ rfl, w_gI w15 3 0 0 rfl, g30', nI_1, w_pI w15 3 0 0 _ rfl]
    · rw [if_neg (show ¬ nI (T (4 * j + 2)) = 33 from fun q => c ((eqc tt 33 (by decide)).mp q)), Option.bind_some, k_3 w14, Option.bind_some]
      rw [if_neg c] at el'
      unfold fn_X0_addBasin
      simp only [w_gI w14 3 0 0 rfl, g30, Option.bind_some, if_pos lt6, w_gI w14 3 0 2 rfl, g32, if_true, or0, ← el', w_pI w14 3 0 2 _ rfl, w_gI w15 3 0 0 rfl, g30', nI_1, w_pI w15 3 0 0 _ rfl]
  refine ⟨sI (sI h14 3 2 (nI l')) 3 0 (nI (N_b z.1 + 1)), ?_, (F14.sI _ rfl).sI _ rfl, ?_, ?_⟩
  · unfold fn_X11_addBasin
    have w23 := wI_eq w 23 6 rfl (N_b z.1) h6 (by decide) (nI (dg T n (4 * j)))
    have w24 := wI_eq w8 24 6 rfl (N_b z.1) h6 (by decide) (nI (dg T n (4 * j + 1)))
    rw [← e14] at w24
    have p1 : (nI (4 * j) : Int32) + 1 = nI (4 * j + 1) := nI_1 _
    have p2 : (nI (4 * j) : Int32) + 2 = nI (4 * j + 2) := nI_add _ 2
    simp only [g_0_1 w, w_gI w 3 0 0 rfl, c1, Option.bind_some, if_pos (show nI (N_b z.1) < 6 from nI_lt (b := 6) h6 (by decide)), g_0_7 w, g_22_0 w, g_0_0 w, k_1 w, digit_C w t (show 4 * j < 1000 by omega), w23, g_0_7 w8, g_22_1 w8, g_0_0 w8, k_1 w8, p1, digit_C w8 t8 (show 4 * j + 1 < 1000 by omega), w24, g_0_1 w14, g_0_0 w14, k_1 w14, p2, at_C w14 t14 (show 4 * j + 2 < 1000 by omega)]
    exact ab
  · refine ⟨by rw [hI_row, if_pos rfl]; rfl, ?_, ?_, fun i hi => ?_⟩
    · rw [hI_row, if_neg (by decide), hI_row, if_neg (by decide), e14]; exact c2
    · rw [hI_row, if_neg (by decide), hI_row, if_pos rfl, el']; rfl
    · rw [e14]; exact c4 i hi
  · have r22 : hI (sI (sI h14 3 2 (nI l')) 3 0 (nI (N_b z.1 + 1))) 22 = hI h 22 := by rw [e14]; rfl
    have r23 : hI (sI (sI h14 3 2 (nI l')) 3 0 (nI (N_b z.1 + 1))) 23 = va_up (hI h 23) (N_b z.1) (nI (dg T n (4 * j))) := by rw [e14]; rfl
    have r24 : hI (sI (sI h14 3 2 (nI l')) 3 0 (nI (N_b z.1 + 1))) 24 = va_up (hI h 24) (N_b z.1) (nI (dg T n (4 * j + 1))) := by rw [e14]; rfl
    unfold St
    rw [r22, r23, r24]
    have up : ∀ k, k ≠ N_b z.1 → k ≠ 6 + N_b z.1 → (ad1 T n j z).2 k = z.2 k := by
      intro k a b
      show va_up (va_up z.2 (N_b z.1) _) (6 + N_b z.1) _ k = z.2 k
      unfold va_up
      rw [if_neg b, if_neg a]
    refine ⟨fun i hi => ?_, fun i hi => ?_, ?_, ?_, ?_, ?_⟩
    · by_cases e : i = N_b z.1
      · show _ = va_up (va_up z.2 (N_b z.1) _) (6 + N_b z.1) _ i
        unfold va_up
        rw [if_pos e, if_neg (by omega), if_pos e]
      · rw [up i e (by omega)]
        unfold va_up
        rw [if_neg e]; exact S1 i hi
    · by_cases e : i = N_b z.1
      · show _ = va_up (va_up z.2 (N_b z.1) _) (6 + N_b z.1) _ (6 + i)
        unfold va_up
        rw [if_pos e, if_pos (by omega)]
      · rw [up (6 + i) (by omega) (by omega)]
        unfold va_up
        rw [if_neg e]; exact S2 i hi
    · rw [up 12 (by omega) (by omega)]; exact S3
    · rw [up 13 (by omega) (by omega)]; exact S4
    · rw [up 14 (by omega) (by omega)]; exact S5
    · rw [up 15 (by omega) (by omega)]; exact S6
end ADB
