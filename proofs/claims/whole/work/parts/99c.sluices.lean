/-! sluices as a step -/
section ADS
variable {T : Nat → Nat} {n : Nat} {N : Net} {sem : Sem} {x : XX} {h : aH}
def kdN (c : Nat) : Nat := if c = 103 then 0 else if c = 115 then 2 else 1
theorem kdN_I {c : Nat} (hc : c = 103 ∨ c = 119 ∨ c = 115) : kdI c = nI (kdN c) ∧ kdN c < 3 := by
  rcases hc with rfl | rfl | rfl <;> exact ⟨rfl, by decide⟩
def as1 (T : Nat → Nat) (n j : Nat) (N : Net) : Net := (N_b N, N_s N + 1, N_l N, va_up (N_f N) (N_s N) (dg T n (4 * j)), va_up (N_t N) (N_s N) (dg T n (4 * j + 1)), va_up (N_k N) (N_s N) (kdN (T (4 * j + 2))))
def asK (T : Nat → Nat) (n : Nat) : Nat → Net → Net
  | 0, N => N
  | k + 1, N => as1 T n k (asK T n k N)
theorem asK_s : ∀ k, N_s (asK T n k N) = N_s N + k
  | 0 => rfl
  | k + 1 => by
    show N_s (asK T n k N) + 1 = _
    rw [asK_s k]; omega
theorem asK_b : ∀ k, N_b (asK T n k N) = N_b N
  | 0 => rfl
  | k + 1 => by
    show N_b (asK T n k N) = _
    exact asK_b k
def gdS (T : Nat → Nat) (n nb j : Nat) : Prop := stS T n nb (4 * j) = true ∧ stS T n nb (4 * j + 1) = true ∧ stS T n nb (4 * j + 2) = true ∧ 4 * j + 2 < n
theorem gdS_d {nb j : Nat} (g : gdS T n nb j) : dg T n (4 * j) < nb ∧ dg T n (4 * j + 1) < nb ∧ dg T n (4 * j) ≠ dg T n (4 * j + 1) ∧ (T (4 * j + 2) = 103 ∨ T (4 * j + 2) = 119 ∨ T (4 * j + 2) = 115) := by
  obtain ⟨g1, g2, g3, -⟩ := g
  unfold stS at g1 g2 g3
  rw [if_pos (by omega)] at g1
  rw [if_neg (by omega), if_pos (by omega), show 4 * j + 1 - 1 = 4 * j by omega] at g2
  rw [if_neg (by omega), if_neg (by omega), if_pos (by omega)] at g3
  simp only [Bool.and_eq_true, Bool.or_eq_true, decide_eq_true_eq, Bool.not_eq_true', decide_eq_false_iff_not] at g1 g2 g3
  have d1 : dg T n (4 * j) = T (4 * j) - 48 := by unfold dg; rw [if_pos g1.1]
  have d2 : dg T n (4 * j + 1) = T (4 * j + 1) - 48 := by unfold dg; rw [if_pos g2.1]
  have a1 : 48 ≤ T (4 * j) := by have := g1.1; unfold isDg at this; simp at this; omega
  have a2 : 48 ≤ T (4 * j + 1) := by have := g2.1; unfold isDg at this; simp at this; omega
  rw [d1, d2]
  refine ⟨by omega, by omega, ?_, g3⟩
  have := g2.2.2
  omega
theorem as1_ok {j B : Nat} (V : NV N) (v : VS N B x) (h8 : N_s N < 8) (g : gdS T n (N_b N) j) : NV (as1 T n j N) ∧ VS (as1 T n j N) B x := by
  obtain ⟨V1, V2, V3, V4⟩ := V
  obtain ⟨v1, v2, ⟨p, p1, p2⟩, ⟨q, q1, q2⟩, v5, v6⟩ := v
  obtain ⟨d1, d2, d3, d4⟩ := gdS_d g
  refine ⟨⟨V1, ?_, V3, fun i hi => ?_⟩, v1, v2, ⟨p, ?_, p2⟩, ⟨q, ?_, q2⟩, v5, v6⟩
  · show N_s N + 1 ≤ 8
    omega
  · have hi : i < N_s N + 1 := hi
    show va_up (N_f N) (N_s N) (dg T n (4 * j)) i < N_b N ∧ va_up (N_t N) (N_s N) (dg T n (4 * j + 1)) i < N_b N ∧ va_up (N_f N) (N_s N) (dg T n (4 * j)) i ≠ va_up (N_t N) (N_s N) (dg T n (4 * j + 1)) i ∧ va_up (N_k N) (N_s N) (kdN (T (4 * j + 2))) i < 3
    unfold va_up
    by_cases e : i = N_s N
    · rw [if_pos e, if_pos e, if_pos e]
      exact ⟨d1, d2, d3, (kdN_I d4).2⟩
    · rw [if_neg e, if_neg e, if_neg e]
      exact V4 i (by omega)
  · exact Nat.lt_trans p1 (Nat.pow_lt_pow_right (by decide) (Nat.lt_succ_self _))
  · exact Nat.lt_trans q1 (Nat.pow_lt_pow_right (by decide) (Nat.lt_succ_self _))
theorem asK_ok {B : Nat} (V : NV N) (v : VS N B x) : ∀ k, N_s N + k ≤ 8 → (∀ j, j < k → gdS T n (N_b N) j) → NV (asK T n k N) ∧ VS (asK T n k N) B x
  | 0, _, _ => ⟨V, v⟩
  | k + 1, hk, g => by
    obtain ⟨a, b⟩ := asK_ok V v k (by omega) (fun j hj => g j (by omega))
    exact as1_ok a b (by rw [asK_s]; omega) (by rw [asK_b]; exact g k (by omega))
def slC (a j : Nat) : Bool := (a == 3 && j == 1) || (a == 4 || (a == 5 || a == 6))
theorem slC_tl (a j : Nat) (e : tlC a j = false) : slC a j = false := by
  unfold tlC at e; unfold slC; simp at e ⊢; omega
def slM (a j : Nat) : Bool := (a == 86 && j == 2) || (a == 87 || (a == 88 || (a == 89 || a == 90)))
theorem slM_tl (a j : Nat) (e : tlM a j = false) : slM a j = false := by
  unfold tlM at e; unfold slM; simp at e ⊢; omega
theorem addS_C {v1 : Int32} (w : Wf h) (t : TxC T n h) (h8 : N_s N < 8) (cn : CN N h) {j K : Nat} (g : gdS T n (N_b N) j) (hj : j < K) (hK : K < 20) : ∃ h', lb_X11_sluices_41 0 v1 (nI K) (nI j, h) = some (.inl (nI (j + 1), h')) ∧ Fr slC h h' ∧ CN (as1 T n j N) h' := by
  have n8 := t.1
  obtain ⟨c1, c2, c3, c4⟩ := cn
  obtain ⟨d1, d2, d3, d4⟩ := gdS_d g
  have hj2 := g.2.2.2
  have tt := (t.2.2 (4 * j + 2) hj2).1
  have w1 : Wf (sI h 4 (N_s N) (nI (dg T n (4 * j)))) := w
  have w2 : Wf (sI (sI h 4 (N_s N) (nI (dg T n (4 * j)))) 5 (N_s N) (nI (dg T n (4 * j + 1)))) := w
  have w3 : Wf (sI (sI (sI h 4 (N_s N) (nI (dg T n (4 * j)))) 5 (N_s N) (nI (dg T n (4 * j + 1)))) 6 (N_s N) (nI (kdN (T (4 * j + 2))))) := w
  refine ⟨sI (sI (sI (sI h 4 (N_s N) (nI (dg T n (4 * j)))) 5 (N_s N) (nI (dg T n (4 * j + 1)))) 6 (N_s N) (nI (kdN (T (4 * j + 2))))) 3 1 (nI (N_s N + 1)), ?_, ((((Fr.refl _ _).sI _ rfl).sI _ rfl).sI _ rfl).sI _ rfl, ?_⟩
  · have p1 : (nI (4 * j) : Int32) + 1 = nI (4 * j + 1) := nI_1 _
    have p2 : (nI (4 * j) : Int32) + 2 = nI (4 * j + 2) := nI_add _ 2
    have g1 : ∀ a x, hI (sI h 4 (N_s N) x) 3 a = hI h 3 a := fun a x => rfl
    have g2 : ∀ a x y, hI (sI (sI h 4 (N_s N) x) 5 (N_s N) y) 3 a = hI h 3 a := fun a x y => rfl
    have g3 : ∀ a x y z, hI (sI (sI (sI h 4 (N_s N) x) 5 (N_s N) y) 6 (N_s N) z) 3 a = hI h 3 a := fun a x y z => rfl
    unfold lb_X11_sluices_41
    dsimp only
    rw [if_pos (nI_lt hj (by omega)), four j (by omega)]
    simp only [Option.bind_some, g_0_1 w, g_0_0 w, k_1 w, digit_C w t (show 4 * j < 1000 by omega), p1, digit_C w t (show 4 * j + 1 < 1000 by omega), p2, at_C w t (show 4 * j + 2 < 1000 by omega), sg_in hj2, kindOf_eq tt, (kdN_I d4).1, k_3 w, nI_1]
    unfold fn_X0_addSluice
    simp only [w_gI w 3 0 1 rfl, c2, Option.bind_some, if_pos (show nI (N_s N) < 8 from nI_lt (b := 8) h8 (by decide)), g_3_3 w, wI_eq w 4 8 rfl (N_s N) h8 (by decide), g_3_4 w1, w_gI w1 3 0 1 rfl, g1, wI_eq w1 5 8 rfl (N_s N) h8 (by decide), g_3_5 w2, w_gI w2 3 0 1 rfl, g2, wI_eq w2 6 8 rfl (N_s N) h8 (by decide), w_gI w3 3 0 1 rfl, g3, w_pI w3 3 0 1 _ rfl, nI_1]
  · refine ⟨c1, by rw [hI_row, if_pos rfl]; rfl, c3, fun i hi => ?_⟩
    have hi : i < N_s N + 1 := hi
    show va_up (hI h 4) (N_s N) (nI (dg T n (4 * j))) i = nI (va_up (N_f N) (N_s N) (dg T n (4 * j)) i) ∧ va_up (hI h 5) (N_s N) (nI (dg T n (4 * j + 1))) i = nI (va_up (N_t N) (N_s N) (dg T n (4 * j + 1)) i) ∧ va_up (hI h 6) (N_s N) (nI (kdN (T (4 * j + 2)))) i = nI (va_up (N_k N) (N_s N) (kdN (T (4 * j + 2))) i)
    unfold va_up
    by_cases e : i = N_s N
    · rw [if_pos e, if_pos e, if_pos e, if_pos e, if_pos e, if_pos e]; exact ⟨rfl, rfl, rfl⟩
    · rw [if_neg e, if_neg e, if_neg e, if_neg e, if_neg e, if_neg e]; exact c4 i (by omega)
theorem mskS : ∀ k, k < 8 → ∀ v, v < 2 ^ k → nI v &&& (((1 : Int32) <<< (nI k &&& 31)) ^^^ (-1)) = nI v := by decide +kernel
theorem addS_M {B : Nat} (m : Wf h) (v : VS N B x) (h8 : N_s N < 8) (mn : MN N h) (X : XM h 87 x) {j K : Nat} (g : gdS T n (N_b N) j) (hj : j < K) (hK : K < 20) (hj8 : j < 8) (r : hI h 93 (3 * j) = nI (dg T n (4 * j)) ∧ hI h 93 (3 * j + 1) = nI (dg T n (4 * j + 1)) ∧ hI h 93 (3 * j + 2) = kdI (T (4 * j + 2))) : ∃ h', lb_X12_sluices_93 86 (nI K) (nI j, h) = some (.inl (nI (j + 1), h')) ∧ Fr slM h h' ∧ MN (as1 T n j N) h' ∧ XM h' 87 x := by
  obtain ⟨c1, c2, c3, c4⟩ := mn
  obtain ⟨d1, d2, d3, d4⟩ := gdS_d g
  obtain ⟨r1, r2, r3⟩ := r
  rw [(kdN_I d4).1] at r3
  obtain ⟨-, -, ⟨p, p1, p2⟩, ⟨q, q1, q2⟩, -, -⟩ := v
  obtain ⟨h39, e39⟩ : ∃ h39, h39 = sI (sI (sI h 88 (N_s N) (nI (dg T n (4 * j)))) 89 (N_s N) (nI (dg T n (4 * j + 1)))) 90 (N_s N) (nI (kdN (T (4 * j + 2)))) := ⟨_, rfl⟩
  have m1 : Wf (sI h 88 (N_s N) (nI (dg T n (4 * j)))) := m
  have m2 : Wf (sI (sI h 88 (N_s N) (nI (dg T n (4 * j)))) 89 (N_s N) (nI (dg T n (4 * j + 1)))) := m
  have m39 : Wf h39 := by rw [e39]; exact m
  have g86 : ∀ k, hI h39 86 k = hI h 86 k := fun k => by rw [e39]; rfl
  have g87 : hI h39 87 = hI h 87 := by rw [e39]; rfl
  have X39 : XM h39 87 x := XM_to g87 X
  have m43 : Wf (sI h39 87 12 (x 12)) := m39
  have X43 : XM (sI h39 87 12 (x 12)) 87 x := by
    have := XM_up X39 12 (x 12)
    rwa [up_self rfl] at this
  have m47 : Wf (sI (sI h39 87 12 (x 12)) 87 13 (x 13)) := m39
  have X47 : XM (sI (sI h39 87 12 (x 12)) 87 13 (x 13)) 87 x := by
    have := XM_up X43 13 (x 13)
    rwa [up_self rfl] at this
  refine ⟨sI (sI (sI h39 87 12 (x 12)) 87 13 (x 13)) 86 2 (nI (N_s N + 1)), ?_, ?_, ⟨?_, by rw [hI_row, if_pos rfl]; rfl, ?_, fun i hi => ?_⟩, ?_⟩
  · have e3' : (3 : Int32) * nI j = nI (3 * j) := three j (by omega)
    have e31 : (nI (3 * j) : Int32) + 1 = nI (3 * j + 1) := nI_1 _
    have e32 : (nI (3 * j) : Int32) + 2 = nI (3 * j + 2) := nI_add _ 2
    have k1 : ∀ a b y, b ≠ 88 → hI (sI h 88 (N_s N) y) b a = hI h b a := fun a b y hb => by rw [hI_sI_r, if_neg hb]
    have k2 : ∀ a b y z, b ≠ 88 → b ≠ 89 → hI (sI (sI h 88 (N_s N) y) 89 (N_s N) z) b a = hI h b a := fun a b y z hb hc => by rw [hI_sI_r, if_neg hc, hI_sI_r, if_neg hb]
    have w1 := wI_eq m 88 8 rfl (N_s N) h8 (by decide) (nI (dg T n (4 * j)))
    have w2 := wI_eq m1 89 8 rfl (N_s N) h8 (by decide) (nI (dg T n (4 * j + 1)))
    have w3 := wI_eq m2 90 8 rfl (N_s N) h8 (by decide) (nI (kdN (T (4 * j + 2))))
    rw [← e39] at w3
    have a12 : aI h39 87 14 12 = some (x 12) := by rw [show (12 : Int32) = nI 12 from rfl, aI_eq m39 87 14 16 rfl 12 (by decide) (by decide), X39 12 (by decide)]
    have a13 : aI (sI h39 87 12 (x 12)) 87 14 13 = some (x 13) := by rw [show (13 : Int32) = nI 13 from rfl, aI_eq m43 87 14 16 rfl 13 (by decide) (by decide), X43 13 (by decide)]
    have k12 : x 12 &&& (((1 : Int32) <<< (nI (N_s N) &&& 31)) ^^^ (-1)) = x 12 := by rw [p2]; exact mskS _ h8 p p1
    have k13 : x 13 &&& (((1 : Int32) <<< (nI (N_s N) &&& 31)) ^^^ (-1)) = x 13 := by rw [q2]; exact mskS _ h8 q q1
    have w12 : wI h39 87 12 (x 12) = some (sI h39 87 12 (x 12)) := wI_eq m39 87 16 rfl 12 (by decide) (by decide) _
    have w13 : wI (sI h39 87 12 (x 12)) 87 13 (x 13) = some (sI (sI h39 87 12 (x 12)) 87 13 (x 13)) := wI_eq m43 87 16 rfl 13 (by decide) (by decide) _
    have g43 : hI (sI h39 87 12 (x 12)) 86 2 = nI (N_s N) := by rw [hI_sI_r, if_neg (by decide), g86, c2]
    have g47 : hI (sI (sI h39 87 12 (x 12)) 87 13 (x 13)) 86 2 = nI (N_s N) := by rw [hI_sI_r, if_neg (by decide), g43]
    unfold lb_X12_sluices_93
    dsimp only
    rw [if_pos (nI_lt hj (by omega)), e3']
    simp only [g_86_4 m, w_gI m 86 11 2 rfl, c2, g_86_17 m, Option.bind_some, aI_eq m 93 14 24 rfl (3 * j) (by omega) (by decide), r1, w1, g_86_5 m1, w_gI m1 86 11 2 rfl, k1 2 86 _ (by decide), g_86_17 m1, e31, aI_eq m1 93 14 24 rfl (3 * j + 1) (by omega) (by decide), k1 _ 93 _ (by decide), r2, w2, g_86_6 m2, w_gI m2 86 11 2 rfl, k2 2 86 _ _ (by decide) (by decide), g_86_17 m2, e32, aI_eq m2 93 14 24 rfl (3 * j + 2) (by omega) (by decide), k2 _ 93 _ _ (by decide) (by decide), r3, w3, g_86_0 m39, a12, w_gI m39 86 11 2 rfl, g86, k12, w12, g_86_0 m43, a13, w_gI m43 86 11 2 rfl, g43, k13, w13, w_gI m47 86 11 2 rfl, g47, nI_1, w_pI m47 86 11 2 _ rfl]
  · rw [e39]
    exact ((((((Fr.refl slM h).sI _ rfl).sI _ rfl).sI _ rfl).sI _ rfl).sI _ rfl).sI _ rfl
  · rw [hI_row, if_neg (by decide), hI_sI_r, if_neg (by decide), hI_sI_r, if_neg (by decide), g86]; exact c1
  · rw [hI_row, if_neg (by decide), hI_sI_r, if_neg (by decide), hI_sI_r, if_neg (by decide), g86]; exact c3
  · have hi : i < N_s N + 1 := hi
    rw [e39]
    show va_up (hI h 88) (N_s N) (nI (dg T n (4 * j))) i = nI (va_up (N_f N) (N_s N) (dg T n (4 * j)) i) ∧ va_up (hI h 89) (N_s N) (nI (dg T n (4 * j + 1))) i = nI (va_up (N_t N) (N_s N) (dg T n (4 * j + 1)) i) ∧ va_up (hI h 90) (N_s N) (nI (kdN (T (4 * j + 2)))) i = nI (va_up (N_k N) (N_s N) (kdN (T (4 * j + 2))) i)
    unfold va_up
    by_cases e : i = N_s N
    · rw [if_pos e, if_pos e, if_pos e, if_pos e, if_pos e, if_pos e]; exact ⟨rfl, rfl, rfl⟩
    · rw [if_neg e, if_neg e, if_neg e, if_neg e, if_neg e, if_neg e]; exact c4 i (by omega)
  · exact XM_to (show hI (sI (sI (sI h39 87 12 (x 12)) 87 13 (x 13)) 86 2 (nI (N_s N + 1))) 87 = hI (sI (sI h39 87 12 (x 12)) 87 13 (x 13)) 87 from rfl) X47
theorem stp_sluices (c : Nat) (hc : c ≤ 64) : STEP c (fun C => fn_X11_sluices C 0) (fun M => fn_X12_sluices M 86) := by
  intro C M ⟨N, sem, x, l, r⟩
  have r' : WRL N sem x l c C M := r
  obtain ⟨V, v0, cw, mw, tc, tm, tx, pa, ke, se⟩ := r
  have w := cw.1
  have m := mw.1
  have h6 := V.1
  have h8 := V.2.1
  obtain ⟨n, T, hn, tC, t8, tT⟩ := txt_T tx
  obtain ⟨M0, eM⟩ : ∃ M0, M0 = sI M 86 11 0 := ⟨_, rfl⟩
  have m0 : Wf M0 := by rw [eM]; exact m
  have gM0 : Fr noM M M0 := by rw [eM]; exact (Fr.refl _ M).sI _ rfl
  obtain ⟨M1, b1, b2', b3, b4⟩ := beginText_M (T := T) (n := n) (top := 31) m0 (by rw [eM, hI_sI]; simp [t8]) hn (by decide) (fun i hi => by rw [eM]; exact tT i hi)
  have g1 : Fr noM M M1 := gM0.trans (b3.mono btM_no)
  have m1 := b2'.1
  have pM : pI M 86 11 11 0 = some M0 := by rw [eM]; exact w_pI m 86 11 11 _ rfl
  have b1' : fn_X12_beginText M0 86 31 = some M1 := b1
  have room : (8 : Int32) - nI (N_s N) = nI (8 - N_s N) := nI_sub (a := 8) h8
  have ws := wsl_eq w tC (st := stS T n (N_b N)) (v3 := 1) (lg := 31) (room := 8 - N_s N) (by decide) (by omega) (fun p hp => Or.inr ⟨rfl, standsS w tC h6 cw.2.1.1 hp⟩)
  have ws' : fn_X11_wrongSignOfLines C 0 31 (nI (8 - N_s N)) 1 = some (wrI (wres (stS T n (N_b N)) 31 (8 - N_s N) n)) := ws
  have g13 : gI M1 86 11 13 = some (nI n) := by rw [w_gI m1 86 11 13 rfl, b2'.2.2.1]
  have headC : fn_X11_sluices C 0 = (((if wrI (wres (stS T n (N_b N)) 31 (8 - N_s N) n) = -1 then (idv (nI n + 1) 4).bind fun x16 => some x16 else some 0) : Option Int32).bind fun t5 => (lp (lb_X11_sluices_41 0 (wrI (wres (stS T n (N_b N)) 31 (8 - N_s N) n)) t5) lpN (0, C)).bind fun o10 => (ck o10 0 10).bind fun _ => (fn_X11_endOfLines o10 0 (wrI (wres (stS T n (N_b N)) 31 (8 - N_s N) n)) t5).bind fun o13 => some (o13.1, o13.2)) := by
    unfold fn_X11_sluices
    simp only [g_0_1 w, w_gI w 3 0 1 rfl, cw.2.1.2.1, Option.bind_some, k_0 w, room, ws', g_0_0 w, w_gI w 1 7 1 rfl, tC.2.1]
  have noC : ∀ wr : Option Nat, wr = wres (stS T n (N_b N)) 31 (8 - N_s N) n → (wr = none → n = 0) → ∃ C1, fn_X11_sluices C 0 = some ((match wr with | none => nI 0 | some q => -1 - nI q), C1) ∧ Fr txC C C1 ∧ hI C1 1 1 = 0 := by
    intro wr hwr hn0
    have wle : ∀ q, wr = some q → q ≤ 80 := fun q e => by rw [hwr] at e; have := wres_le e; omega
    obtain ⟨C1, e1, -, e3, e4, -⟩ := endOfLines_eq (h := C) w wr wle (K := 0) (by decide)
    refine ⟨C1, ?_, (e4 rfl).mono (fun a j e => by unfold txC at e; simp at e; simp; omega), e3⟩
    rw [headC, ← hwr]
    have t5 : ((if wrI wr = -1 then (idv (nI n + 1) 4).bind fun x16 => some x16 else some 0) : Option Int32) = some (nI 0) := by
      cases wr with
      | none => rw [hn0 rfl]; rfl
      | some q =>
        show (if nI q = -1 then _ else some 0) = _
        rw [if_neg (nI_m1 (by have := wle q rfl; omega))]; rfl
    have loop : lp (lb_X11_sluices_41 0 (wrI wr) (nI 0)) lpN (0, C) = some C := by
      refine lp_run (fun _ => (0, C)) 0 C (fun k hk => absurd hk (Nat.not_lt_zero _)) ?_ (by decide) rfl
      unfold lb_X11_sluices_41
      rw [if_neg (show ¬ (0 : Int32) < nI 0 by decide)]
    rw [t5, Option.bind_some, loop, Option.bind_some, k_0 w, Option.bind_some, e1, Option.bind_some]
    cases wr <;> rfl
  by_cases n0 : n = 0
  · obtain ⟨C1, c1, c2, c3⟩ := noC none (by unfold wres; rw [if_pos n0]) (fun _ => n0)
    refine ⟨nI 0, C1, M1, c1, ?_, ⟨N, sem, x, l, r'.no c2 g1 (TxtR.none c3 b4)⟩, c2.mono txC_cls, g1.mono noM_mdl⟩
    show fn_X12_sluices M 86 = _
    unfold fn_X12_sluices
    simp only [pM, k_86 m0, Option.bind_some, b1', g13]
    rw [if_pos (show nI n = 0 by rw [n0]; rfl)]
    rfl
  · have hQ : ∀ K h h', Fr rdS h h' → QS T n (N_b N) (N_s N) K h → QS T n (N_b N) (N_s N) K h' := fun K h h' F q => q.to F
    have q0 : QS T n (N_b N) (N_s N) 0 M1 := ⟨(g1.i 86 1 rfl).trans mw.2.1.1, (g1.i 86 2 rfl).trans mw.2.1.2.1, fun j hj => absurd hj (Nat.not_lt_zero _)⟩
    obtain ⟨o, o1, o2, L⟩ := lnRead (blk := blkS) (lg := 31) (room := 8 - N_s N) (st := stS T n (N_b N)) (Q := QS T n (N_b N) (N_s N)) (by omega) (by omega) (fun K hK => by omega) (fun p hp => by unfold stS; rw [if_neg (by omega), if_neg (by omega), if_neg (by omega)]) hQ (fun K h hK h4 r q => blkS_ok h6 h8 hK h4 r q) b2' q0
    have gO : Fr noM M o.2 := g1.trans (o2.mono rdL_no)
    have mO := gO.wf m
    have loopM : lp (lb_X12_sluices_24 86) lpN (0, 1, M1) = some o := by
      have : lb_X12_sluices_24 86 = lnG blkS := funext lbS
      rw [this]; exact o1
    have nn0 : ¬ nI n = 0 := fun q => n0 ((nI_eq (b := 0) (by omega) (by decide)).mp q)
    rcases lnRight (by omega) hQ L with ⟨K, k1, k2, k3, k4, k5, k6, k7, k8⟩ | ⟨wg, h', k1, k2, k3, k4⟩
    · have gd : ∀ j, j < K + 1 → gdS T n (N_b N) j := fun j hj => ⟨(bad_f.mp (k8 _ (by omega))).2.2, (bad_f.mp (k8 _ (by omega))).2.2, (bad_f.mp (k8 _ (by omega))).2.2, by omega⟩
      -- the class adds
      obtain ⟨C2, e2, F2, cn2⟩ : ∃ C2, lp (lb_X11_sluices_41 0 (-1) (nI (K + 1))) lpN (0, C) = some C2 ∧ Fr slC C C2 ∧ CN (asK T n (K + 1) N) C2 := by
        refine lp_inv (fun k (s : Int32 × aH) => s.1 = nI k ∧ Fr slC C s.2 ∧ CN (asK T n k N) s.2) (fun C2 => Fr slC C C2 ∧ CN (asK T n (K + 1) N) C2) (K + 1) (by omega) ?_ ?_ ⟨rfl, Fr.refl _ _, cw.2.1⟩
        · rintro k ⟨s1, g⟩ hk ⟨rfl, F, cn⟩
          dsimp only at F cn
          have wg := F.wf w
          have tg : TxC T n g := ⟨tC.1, (F.i 1 1 rfl).trans tC.2.1, fun i hi => ⟨(tC.2.2 i hi).1, (F.i 2 i rfl).trans (tC.2.2 i hi).2⟩⟩
          obtain ⟨g', a1, a2, a3⟩ := addS_C (v1 := -1) wg tg (by rw [asK_s]; omega) cn (j := k) (K := K + 1) (by rw [asK_b]; exact gd k hk) hk (by omega)
          exact Or.inl ⟨(nI (k + 1), g'), a1, rfl, F.trans a2, a3⟩
        · rintro ⟨s1, g⟩ ⟨rfl, F, z⟩
          refine ⟨g, ?_, F, z⟩
          unfold lb_X11_sluices_41
          rw [if_neg (nI_nlt (Nat.le_refl _) (by omega))]
      have w2 := F2.wf w
      obtain ⟨C3, e3, F3, e31, -, e33⟩ := endOfLines_eq (h := C2) w2 none (fun q e => by cases e) (K := K + 1) (by omega)
      obtain ⟨e34, e35, e36⟩ := e33 (by omega)
      -- the reference adds
      obtain ⟨M3, f3, G3, mn3, X3⟩ : ∃ M3, lp (lb_X12_sluices_93 86 (nI (K + 1))) lpN (0, o.2) = some M3 ∧ Fr slM o.2 M3 ∧ MN (asK T n (K + 1) N) M3 ∧ XM M3 87 x := by
        have mnO : MN N o.2 := by
          obtain ⟨z1, z2, z3, z4⟩ := mw.2.1
          refine ⟨(gO.i 86 1 rfl).trans z1, (gO.i 86 2 rfl).trans z2, (gO.i 86 3 rfl).trans z3, fun i hi => ?_⟩
          rw [gO.i 88 i rfl, gO.i 89 i rfl, gO.i 90 i rfl]
          exact z4 i hi
        refine lp_inv (fun k (s : Int32 × aH) => s.1 = nI k ∧ Fr slM o.2 s.2 ∧ MN (asK T n k N) s.2 ∧ XM s.2 87 x) (fun C2 => Fr slM o.2 C2 ∧ MN (asK T n (K + 1) N) C2 ∧ XM C2 87 x) (K + 1) (by omega) ?_ ?_ ⟨rfl, Fr.refl _ _, mnO, XM.to gO (fun _ => rfl) mw.2.2.1⟩
        · rintro k ⟨s1, g⟩ hk ⟨rfl, F, mn, X⟩
          dsimp only at F mn X
          have mg := F.wf mO
          obtain ⟨va, vb⟩ := asK_ok (T := T) (n := n) V v0 k (by omega) (fun j hj => gd j (by omega))
          obtain ⟨g', a1, a2, a3, a4⟩ := addS_M (T := T) (n := n) mg vb (by rw [asK_s]; omega) mn X (j := k) (K := K + 1) (by rw [asK_b]; exact gd k hk) hk (by omega) (by omega) (by rw [F.i 93 _ rfl, F.i 93 _ rfl, F.i 93 _ rfl]; exact k6.2.2 k hk)
          exact Or.inl ⟨(nI (k + 1), g'), a1, rfl, F.trans a2, a3, a4⟩
        · rintro ⟨s1, g⟩ ⟨rfl, F, z⟩
          refine ⟨g, ?_, F, z⟩
          unfold lb_X12_sluices_93
          rw [if_neg (nI_nlt (Nat.le_refl _) (by omega))]
      have m3 := G3.wf mO
      obtain ⟨M4, f4, G4, q1, q2, q3, q4⟩ := told_M m3
      obtain ⟨Va, va⟩ := asK_ok (T := T) (n := n) V v0 (K + 1) (by omega) gd
      have fC : Fr tlC C C3 := (F2.mono slC_tl).trans (F3.mono enC_tl)
      have gM : Fr tlM M M4 := (gO.mono noM_tl).trans ((G3.mono slM_tl).trans G4)
      have cn3 : CN (asK T n (K + 1) N) C3 := by
        obtain ⟨z1, z2, z3, z4⟩ := cn2
        refine ⟨(F3.i 3 0 rfl).trans z1, (F3.i 3 1 rfl).trans z2, (F3.i 3 2 rfl).trans z3, fun i hi => ?_⟩
        rw [F3.i 4 i rfl, F3.i 5 i rfl, F3.i 6 i rfl]
        exact z4 i hi
      have mn4 : MN (asK T n (K + 1) N) M4 := by
        obtain ⟨z1, z2, z3, z4⟩ := mn3
        refine ⟨(q4 1 (by decide) (by decide)).trans z1, (q4 2 (by decide) (by decide)).trans z2, (q4 3 (by decide) (by decide)).trans z3, fun i hi => ?_⟩
        rw [q3 88 (by decide), q3 89 (by decide), q3 90 (by decide)]
        exact z4 i hi
      have X4 : XM M4 87 x := fun i hi => by rw [q3 87 (by decide)]; exact X3 i hi
      have m8 : hI M4 86 8 = 0 := by rw [q4 8 (by decide) (by decide), G3.i 86 8 rfl, o2.i 86 8 rfl]; exact b4
      have m46 : hI M4 86 46 = hI M 86 46 + 1 := by rw [q2, G3.i 86 46 rfl, gO.i 86 46 rfl]
      have hbb : N_b N ≤ N_b (asK T n (K + 1) N) := by rw [asK_b]; exact Nat.le_refl _
      have S3 : St C3 22 x := St_to F3 (fun j => ⟨rfl, rfl, rfl⟩) (St_to F2 (fun j => ⟨rfl, rfl, rfl⟩) cw.2.2.1)
      refine ⟨nI (K + 1), C3, M4, ?_, ?_, ⟨_, sem, _, l, WRL.tell hc r' fC gM Va hbb (VS_mono (by omega) va) cn3 S3 mn4 X4 e31 m8 e34 q1 ⟨e35, e36⟩ m46⟩, fC.mono tlC_cls, gM.mono tlM_mdl⟩
      · show fn_X11_sluices C 0 = _
        have e3' : fn_X11_endOfLines C2 0 (-1) (nI (K + 1)) = some (nI (K + 1), C3) := e3
        have idn : idv (nI n + 1) 4 = some (nI (K + 1)) := by rw [nI_1, idv4 (by omega), show (n + 1) / 4 = K + 1 by omega]
        rw [headC, k4]
        show (((if (-1 : Int32) = -1 then (idv (nI n + 1) 4).bind fun x16 => some x16 else some 0) : Option Int32).bind fun t5 => (lp (lb_X11_sluices_41 0 (-1) t5) lpN (0, C)).bind fun o10 => (ck o10 0 10).bind fun _ => (fn_X11_endOfLines o10 0 (-1) t5).bind fun o13 => some (o13.1, o13.2)) = _
        rw [if_pos rfl, idn, Option.bind_some, Option.bind_some, e2, Option.bind_some, k_0 w2, Option.bind_some, e3', Option.bind_some]
      · show fn_X12_sluices M 86 = _
        unfold fn_X12_sluices
        simp only [pM, k_86 m0, Option.bind_some, b1', g13]
        rw [if_neg nn0]
        simp only [loopM, Option.bind_some, k_86 mO, k5]
        rw [if_neg one0, k3, f3, Option.bind_some, k_86 m3, Option.bind_some, f4, Option.bind_some]
    · obtain ⟨C1, c1, c2, c3⟩ := noC (some wg) k1.symm (fun q => by cases q)
      have gF : Fr noM M h' := gO.trans (k3.mono rdS_no)
      have m8 : hI h' 86 8 = 0 := by rw [k3.i 86 8 rfl, o2.i 86 8 rfl]; exact b4
      refine ⟨-1 - nI wg, C1, h', c1, ?_, ⟨N, sem, x, l, r'.no c2 gF (TxtR.none c3 m8)⟩, c2.mono txC_cls, gF.mono noM_mdl⟩
      show fn_X12_sluices M 86 = _
      unfold fn_X12_sluices
      simp only [pM, k_86 m0, Option.bind_some, b1', g13]
      rw [if_neg nn0]
      simp only [loopM, Option.bind_some, k_86 mO, k2]
      rw [if_pos trivial, k4, Option.bind_some]
end ADS
