/-! what may throw: basin, sluice, row -/
theorem WRL.q {N : Net} {sem : Sem} {x : XX} {l l' : List Int64} {c : Nat} {C M C' M' : aH} (r : WRL N sem x l c C M) (F : Fr sc C C') (H : Fr sm M M') (t1 : ToC C' l') (t2 : ToM M' l') : WRL N sem x l' (c + 1) C' M' := by
  obtain ⟨V, v, cw, mw, tc, tm, tx, pa, ke, se⟩ := r
  refine ⟨V, VS_mono (by omega) v, cw.to F, mw.to H, t1, t2, tx.to F H rfl (fun _ => rfl) rfl (fun _ => rfl), ?_, ?_, se.to F H⟩
  · exact pa.to F H rfl (fun _ => rfl) (fun a j h1 h2 => sc_mid a j (by omega) (by omega)) rfl (fun _ => rfl) (by omega)
  · exact ke.to F H (fun a j h1 h2 => sc_mid a j (by omega) (by omega)) rfl (fun a j h1 h2 => sm_top a j h1) (by omega) (by omega)
def STEPX {α : Type} (c : Nat) (fC : aH → Option (Option (α × aH))) (fM : aH → Option (α × aH)) : Prop := ∀ C M, REL c C M →
  (fC C = some none ∧ ∃ b M', fM M = some (b, M') ∧ hI M' 86 11 = 1 ∧ REL (c + 1) C M' ∧ Fr mdl M M') ∨
  (∃ r C' M', fC C = some (some (r, C')) ∧ fM M = some (r, M') ∧ hI M' 86 11 = 0 ∧ REL (c + 1) C' M' ∧ Fr cls C C' ∧ Fr mdl M M')
theorem bit01 (w : Int32) {s : Nat} (hs : s < 31) : (w >>> (nI s &&& 31)) &&& 1 = b2 (isBit w s) := by
  rw [isBit_bt w hs]
  cases h : bt w s with
  | false => exact (bit_sh w hs).mpr h
  | true => exact (bit_sh1 w hs).mpr h
def byI (f : Nat → Nat) (b : Nat) : Nat → Int32
  | 0 => 0
  | n + 1 => if nI (f n) = nI b then byI f b n ||| (1 <<< (nI n &&& 31)) else byI f b n ||| 0
theorem from_C {N : Net} {h : aH} (w : Wf h) (C : CN N h) (V : NV N) (b : Nat) : fn_X0_sluicesFrom h 3 (nI b) = some (byI (N_f N) b (N_s N)) := by
  have h8 := V.2.1
  have loop : lp (lb_X0_sluicesFrom_4 h 3 (nI b)) lpN (0, 0) = some (byI (N_f N) b (N_s N)) := by
    refine lp_run (fun i => (byI (N_f N) b i, nI i)) (N_s N) _ ?_ ?_ (by omega) rfl
    · intro i hi
      unfold lb_X0_sluicesFrom_4
      simp only [w_gI w 3 0 1 rfl, C.2.1, Option.bind_some, if_pos (nI_lt hi (show N_s N < 2 ^ 31 by omega)), g_3_3 w, aI_eq w 4 14 8 rfl i (by omega) (by decide), (C.2.2.2 i hi).1, nI_1]
      show _ = some (Sum.inl (byI (N_f N) b (i + 1), nI (i + 1)))
      by_cases hm : nI (N_f N i) = nI b <;> simp [byI, hm]
    · unfold lb_X0_sluicesFrom_4
      simp only [w_gI w 3 0 1 rfl, C.2.1, Option.bind_some, if_neg (nI_nlt (Nat.le_refl (N_s N)) (show N_s N < 2 ^ 31 by omega))]
  unfold fn_X0_sluicesFrom
  rw [loop]
  rfl
theorem to_C {N : Net} {h : aH} (w : Wf h) (C : CN N h) (V : NV N) (b : Nat) : fn_X0_sluicesTo h 3 (nI b) = some (byI (N_t N) b (N_s N)) := by
  have h8 := V.2.1
  have loop : lp (lb_X0_sluicesTo_4 h 3 (nI b)) lpN (0, 0) = some (byI (N_t N) b (N_s N)) := by
    refine lp_run (fun i => (byI (N_t N) b i, nI i)) (N_s N) _ ?_ ?_ (by omega) rfl
    · intro i hi
      unfold lb_X0_sluicesTo_4
      simp only [w_gI w 3 0 1 rfl, C.2.1, Option.bind_some, if_pos (nI_lt hi (show N_s N < 2 ^ 31 by omega)), g_3_4 w, aI_eq w 5 14 8 rfl i (by omega) (by decide), (C.2.2.2 i hi).2.1, nI_1]
      show _ = some (Sum.inl (byI (N_t N) b (i + 1), nI (i + 1)))
      by_cases hm : nI (N_t N i) = nI b <;> simp [byI, hm]
    · unfold lb_X0_sluicesTo_4
      simp only [w_gI w 3 0 1 rfl, C.2.1, Option.bind_some, if_neg (nI_nlt (Nat.le_refl (N_s N)) (show N_s N < 2 ^ 31 by omega))]
  unfold fn_X0_sluicesTo
  rw [loop]
  rfl
theorem by_M {N : Net} {h : aH} (w : Wf h) (C : MN N h) (V : NV N) (f : Nat → Nat) {a : Nat} (ea : SH[a]? = some (14, 8)) (hf : ∀ i, i < N_s N → hI h a i = nI (f i)) (b : Nat) : fn_X12_sluicesBy h 86 a (nI b) = some (byI f b (N_s N)) := by
  have h8 := V.2.1
  have loop : lp (lb_X12_sluicesBy_5 h 86 a (nI b)) lpN (0, 0) = some (byI f b (N_s N)) := by
    refine lp_run (fun i => (byI f b i, nI i)) (N_s N) _ ?_ ?_ (by omega) rfl
    · intro i hi
      unfold lb_X12_sluicesBy_5
      simp only [w_gI w 86 11 2 rfl, C.2.1, Option.bind_some, if_pos (nI_lt hi (show N_s N < 2 ^ 31 by omega)), aI_eq w a 14 8 ea i (by omega) (by decide), hf i hi, nI_1]
      show _ = some (Sum.inl (byI f b (i + 1), nI (i + 1)))
      by_cases hm : nI (f i) = nI b <;> simp [byI, hm]
    · unfold lb_X12_sluicesBy_5
      simp only [w_gI w 86 11 2 rfl, C.2.1, Option.bind_some, if_neg (nI_nlt (Nat.le_refl (N_s N)) (show N_s N < 2 ^ 31 by omega))]
  unfold fn_X12_sluicesBy
  rw [loop]
  rfl
theorem lost_eq {h : aH} (w : Wf h) : fn_X12_lost h 86 = some (0, sI h 86 11 1) := by
  unfold fn_X12_lost
  rw [w_pI w 86 11 11 _ rfl]
  rfl
theorem stp_basin (c : Nat) (v t : Int32) : STEPX c (fun C => fn_X11_basin C 0 v t) (fun M => fn_X12_basin M 86 v t) := by
  intro C M ⟨N, sem, x, l, r⟩
  have r' : WRL N sem x l c C M := r
  obtain ⟨V, v0, cw, mw, tc, tm, tx, pa, ke, se⟩ := r
  have w := cw.1
  have m := mw.1
  have h6 := V.1
  obtain ⟨D, eD⟩ : ∃ D, D = sI M 86 11 0 := ⟨_, rfl⟩
  have d : Wf D := by rw [eD]; exact m
  have gD : Fr sm M D := by rw [eD]; exact (Fr.refl _ M).sI _ rfl
  have D11 : hI D 86 11 = 0 := by rw [eD, hI_sI]; simp
  have dx : XM D 87 x := by rw [eD]; exact mw.2.2.1
  have dn : MN N D := by rw [eD]; exact mw.2.1
  have tD : ToM D l := by rw [eD]; exact tm.to ((Fr.refl txM M).sI _ rfl) rfl (fun _ => rfl)
  have gE : Fr sm M (sI D 86 11 1) := gD.sI _ rfl
  have tE : ToM (sI D 86 11 1) l := tD.to ((Fr.refl txM D).sI _ rfl) rfl (fun _ => rfl)
  have no : fn_X11_basin C 0 v t = some none → fn_X12_basin M 86 v t = some (0, sI D 86 11 1) → (fn_X11_basin C 0 v t = some none ∧ ∃ b M', fn_X12_basin M 86 v t = some (b, M') ∧ hI M' 86 11 = 1 ∧ REL (c + 1) C M' ∧ Fr mdl M M') := by
    intro h1 h2
    exact ⟨h1, 0, _, h2, by rw [hI_sI]; simp, ⟨N, sem, x, l, r'.q (Fr.refl _ C) gE tc tE⟩, gE.mono sm_mdl⟩
  have yes : ∀ q, fn_X11_basin C 0 v t = some (some (q, C)) → fn_X12_basin M 86 v t = some (q, D) → ∃ r C' M', fn_X11_basin C 0 v t = some (some (r, C')) ∧ fn_X12_basin M 86 v t = some (r, M') ∧ hI M' 86 11 = 0 ∧ REL (c + 1) C' M' ∧ Fr cls C C' ∧ Fr mdl M M' := by
    intro q h1 h2
    exact ⟨q, C, D, h1, h2, D11, ⟨N, sem, x, l, r'.q (Fr.refl _ C) gD tc tD⟩, Fr.refl _ C, gD.mono sm_mdl⟩
  rcases bas_cases w cw.2.1 d dn V v with ⟨c1, c2⟩ | ⟨k, hk, rfl, c1, c2⟩
  · refine Or.inl (no ?_ ?_)
    · unfold fn_X11_basin
      rw [g_0_1 w, Option.bind_some, k_3 w, Option.bind_some, c1, Option.bind_some, if_pos rfl]
    · unfold fn_X12_basin
      rw [w_pI m 86 11 11 _ rfl, ← eD, Option.bind_some, k_86 d, Option.bind_some, c2, Option.bind_some, if_pos rfl, Option.bind_some, lost_eq d]
      rfl
  by_cases hb : t < 0 ∨ ¬ t ≤ 4
  · refine Or.inl (no ?_ ?_)
    · unfold fn_X11_basin
      rw [g_0_1 w, Option.bind_some, k_3 w, Option.bind_some, c1, Option.bind_some, if_neg one0]
      by_cases h0 : t < 0
      · rw [if_pos h0]
      · rw [if_neg h0, if_neg (hb.resolve_left h0)]
    · unfold fn_X12_basin
      rw [w_pI m 86 11 11 _ rfl, ← eD, Option.bind_some, k_86 d, Option.bind_some, c2, Option.bind_some, if_neg one0, in_eq, Option.bind_some]
      by_cases h0 : t < 0
      · rw [if_pos h0, if_pos rfl, Option.bind_some, lost_eq d]
        rfl
      · rw [if_neg h0, if_neg (hb.resolve_left h0), if_pos rfl, Option.bind_some, lost_eq d]
        rfl
  have h0 : ¬ t < 0 := fun q => hb (Or.inl q)
  have h4 : t ≤ 4 := Decidable.not_not.mp fun q => hb (Or.inr q)
  refine Or.inr ?_
  have pC : fn_X11_basin C 0 (nI k) t = if t = 0 then (gR C 0 10 7).bind fun a5 => (gR C a5 6 0).bind fun a6 => (aI C a6 14 (nI k)).bind fun x7 => some (some (x7, C)) else if t = 1 then (gR C 0 10 7).bind fun a9 => (gR C a9 6 1).bind fun a10 => (aI C a10 14 (nI k)).bind fun x11 => some (some (x11, C)) else if t = 2 then (gR C 0 10 1).bind fun a13 => (ck C a13 0).bind fun u14 => (fn_X0_leaks C a13 (nI k)).bind fun x15 => if x15 = 0 then some (some (0, C)) else some (some (1, C)) else if t = 3 then (gR C 0 10 1).bind fun a18 => (ck C a18 0).bind fun u19 => (fn_X0_sluicesFrom C a18 (nI k)).bind fun x20 => some (some (x20, C)) else (gR C 0 10 1).bind fun a21 => (ck C a21 0).bind fun u22 => (fn_X0_sluicesTo C a21 (nI k)).bind fun x23 => some (some (x23, C)) := by
    unfold fn_X11_basin
    rw [g_0_1 w, Option.bind_some, k_3 w, Option.bind_some, c1, Option.bind_some, if_neg one0, if_neg h0, if_pos h4]
  have pM : fn_X12_basin M 86 (nI k) t = if t = 0 then (gR D 86 11 0).bind fun a8 => (aI D a8 14 (nI k)).bind fun x9 => some (x9, D) else if t = 1 then (gR D 86 11 0).bind fun a11 => (aI D a11 14 (6 + nI k)).bind fun x12 => some (x12, D) else if t = 2 then (gI D 86 11 3).bind fun x14 => some (((x14 >>> (nI k &&& 31)) &&& 1), D) else if t = 3 then (gR D 86 11 4).bind fun a16 => (ck D 86 11).bind fun u17 => (fn_X12_sluicesBy D 86 a16 (nI k)).bind fun x18 => some (x18, D) else (gR D 86 11 5).bind fun a19 => (ck D 86 11).bind fun u20 => (fn_X12_sluicesBy D 86 a19 (nI k)).bind fun x21 => some (x21, D) := by
    unfold fn_X12_basin
    rw [w_pI m 86 11 11 _ rfl, ← eD, Option.bind_some, k_86 d, Option.bind_some, c2, Option.bind_some, if_neg one0, in_eq, Option.bind_some, if_neg h0, if_pos h4, if_neg one0]
  by_cases e0 : t = 0
  · refine yes (x k) ?_ ?_
    · rw [pC, if_pos e0, g_0_7 w, Option.bind_some, g_22_0 w, Option.bind_some, aI_eq w 23 14 6 rfl k (by omega) (by decide), cw.2.2.1.1 k (by omega), Option.bind_some]
    · rw [pM, if_pos e0, g_86_0 d, Option.bind_some, aI_eq d 87 14 16 rfl k (by omega) (by decide), dx k (by omega), Option.bind_some]
  rw [if_neg e0] at pC pM
  by_cases e1 : t = 1
  · refine yes (x (6 + k)) ?_ ?_
    · rw [pC, if_pos e1, g_0_7 w, Option.bind_some, g_22_1 w, Option.bind_some, aI_eq w 24 14 6 rfl k (by omega) (by decide), cw.2.2.1.2.1 k (by omega), Option.bind_some]
    · rw [pM, if_pos e1, g_86_0 d, Option.bind_some, show (6 : Int32) + nI k = nI (6 + k) from nI_add 6 k, aI_eq d 87 14 16 rfl (6 + k) (by omega) (by decide), dx (6 + k) (by omega), Option.bind_some]
  rw [if_neg e1] at pC pM
  by_cases e2 : t = 2
  · refine yes (b2 (isBit (nI (N_l N)) k)) ?_ ?_
    · have lk : fn_X0_leaks C 3 (nI k) = some (b2 (isBit (nI (N_l N)) k)) := by
        unfold fn_X0_leaks
        rw [w_gI w 3 0 2 rfl, Option.bind_some, cw.2.1.2.2.1, bit01 _ (by omega)]
        cases isBit (nI (N_l N)) k <;> rfl
      rw [pC, if_pos e2, g_0_1 w, Option.bind_some, k_3 w, Option.bind_some, lk, Option.bind_some]
      cases isBit (nI (N_l N)) k <;> rfl
    · rw [pM, if_pos e2, w_gI d 86 11 3 rfl, Option.bind_some, dn.2.2.1, bit01 _ (by omega)]
  rw [if_neg e2] at pC pM
  by_cases e3 : t = 3
  · refine yes (byI (N_f N) k (N_s N)) ?_ ?_
    · rw [pC, if_pos e3, g_0_1 w, Option.bind_some, k_3 w, Option.bind_some, from_C w cw.2.1 V, Option.bind_some]
    · rw [pM, if_pos e3, g_86_4 d, Option.bind_some, k_86 d, Option.bind_some, by_M d dn V (N_f N) (a := 88) rfl (fun i hi => (dn.2.2.2 i hi).1), Option.bind_some]
  rw [if_neg e3] at pC pM
  refine yes (byI (N_t N) k (N_s N)) ?_ ?_
  · rw [pC, g_0_1 w, Option.bind_some, k_3 w, Option.bind_some, to_C w cw.2.1 V, Option.bind_some]
  · rw [pM, g_86_5 d, Option.bind_some, k_86 d, Option.bind_some, by_M d dn V (N_t N) (a := 89) rfl (fun i hi => (dn.2.2.2 i hi).2.1), Option.bind_some]
theorem mf_sm' (a j : Nat) (e : sm a j = false) : mf a j = false := by
  unfold sm at e; unfold mf; simp at e ⊢; omega
theorem stp_sluice (c : Nat) (hc : c ≤ 64) (v t : Int32) : STEPX c (fun C => fn_X11_sluice C 0 v t) (fun M => fn_X12_sluice M 86 v t) := by
  intro C M ⟨N, sem, x, l, r⟩
  have r' : WRL N sem x l c C M := r
  obtain ⟨V, v0, cw, mw, tc, tm, tx, pa, ke, se⟩ := r
  have w := cw.1
  have m := mw.1
  have h8 := V.2.1
  obtain ⟨D, eD⟩ : ∃ D, D = sI M 86 11 0 := ⟨_, rfl⟩
  have d : Wf D := by rw [eD]; exact m
  have gD : Fr sm M D := by rw [eD]; exact (Fr.refl _ M).sI _ rfl
  have D11 : hI D 86 11 = 0 := by rw [eD, hI_sI]; simp
  have mwD : MW N sem x D := mw.to gD
  have dx : XM D 87 x := mwD.2.2.1
  have dn : MN N D := mwD.2.1
  have tD : ToM D l := by rw [eD]; exact tm.to ((Fr.refl txM M).sI _ rfl) rfl (fun _ => rfl)
  have gE : Fr sm M (sI D 86 11 1) := gD.sI _ rfl
  have tE : ToM (sI D 86 11 1) l := tD.to ((Fr.refl txM D).sI _ rfl) rfl (fun _ => rfl)
  have no : fn_X11_sluice C 0 v t = some none → fn_X12_sluice M 86 v t = some (0, sI D 86 11 1) → (fn_X11_sluice C 0 v t = some none ∧ ∃ b M', fn_X12_sluice M 86 v t = some (b, M') ∧ hI M' 86 11 = 1 ∧ REL (c + 1) C M' ∧ Fr mdl M M') := by
    intro h1 h2
    exact ⟨h1, 0, _, h2, by rw [hI_sI]; simp, ⟨N, sem, x, l, r'.q (Fr.refl _ C) gE tc tE⟩, gE.mono sm_mdl⟩
  have yes : ∀ q, fn_X11_sluice C 0 v t = some (some (q, C)) → fn_X12_sluice M 86 v t = some (q, D) → ∃ r C' M', fn_X11_sluice C 0 v t = some (some (r, C')) ∧ fn_X12_sluice M 86 v t = some (r, M') ∧ hI M' 86 11 = 0 ∧ REL (c + 1) C' M' ∧ Fr cls C C' ∧ Fr mdl M M' := by
    intro q h1 h2
    exact ⟨q, C, D, h1, h2, D11, ⟨N, sem, x, l, r'.q (Fr.refl _ C) gD tc tD⟩, Fr.refl _ C, gD.mono sm_mdl⟩
  rcases slu_cases w cw.2.1 d dn V v with ⟨c1, c2⟩ | ⟨k, hk, rfl, c1, c2⟩
  · refine Or.inl (no ?_ ?_)
    · unfold fn_X11_sluice
      rw [g_0_1 w, Option.bind_some, k_3 w, Option.bind_some, c1, Option.bind_some, if_pos rfl]
    · unfold fn_X12_sluice
      rw [w_pI m 86 11 11 _ rfl, ← eD, Option.bind_some, k_86 d, Option.bind_some, c2, Option.bind_some, if_pos rfl, Option.bind_some, lost_eq d]
      rfl
  by_cases hb : t < 0 ∨ ¬ t ≤ 5
  · refine Or.inl (no ?_ ?_)
    · unfold fn_X11_sluice
      rw [g_0_1 w, Option.bind_some, k_3 w, Option.bind_some, c1, Option.bind_some, if_neg one0]
      by_cases h0 : t < 0
      · rw [if_pos h0]
      · rw [if_neg h0, if_neg (hb.resolve_left h0)]
    · unfold fn_X12_sluice
      rw [w_pI m 86 11 11 _ rfl, ← eD, Option.bind_some, k_86 d, Option.bind_some, c2, Option.bind_some, if_neg one0, in_eq, Option.bind_some]
      by_cases h0 : t < 0
      · rw [if_pos h0, if_pos rfl, Option.bind_some, lost_eq d]
        rfl
      · rw [if_neg h0, if_neg (hb.resolve_left h0), if_pos rfl, Option.bind_some, lost_eq d]
        rfl
  have h0 : ¬ t < 0 := fun q => hb (Or.inl q)
  have h4 : t ≤ 5 := Decidable.not_not.mp fun q => hb (Or.inr q)
  refine Or.inr ?_
  have pC : fn_X11_sluice C 0 (nI k) t = if t = 0 then (gR C 0 10 1).bind fun a5 => (gR C a5 0 3).bind fun a6 => (aI C a6 14 (nI k)).bind fun x7 => some (some (x7, C)) else if t = 1 then (gR C 0 10 1).bind fun a9 => (gR C a9 0 4).bind fun a10 => (aI C a10 14 (nI k)).bind fun x11 => some (some (x11, C)) else if t = 2 then (gR C 0 10 1).bind fun a13 => (gR C a13 0 5).bind fun a14 => (aI C a14 14 (nI k)).bind fun x15 => some (some (x15, C)) else if t = 3 then (gR C 0 10 7).bind fun a17 => (gI C a17 6 2).bind fun x18 => some (some (((x18 >>> (nI k &&& 31)) &&& 1), C)) else if t = 4 then (gR C 0 10 7).bind fun a20 => (gI C a20 6 3).bind fun x21 => some (some (((x21 >>> (nI k &&& 31)) &&& 1), C)) else (gR C 0 10 1).bind fun a22 => (gR C 0 10 7).bind fun a23 => (gR C 0 10 4).bind fun a24 => (ck C a22 0).bind fun u25 => (fn_X0_flow C a22 a23 a24 (nI k)).bind fun o26 => some (some (o26.1, o26.2)) := by
    unfold fn_X11_sluice
    rw [g_0_1 w, Option.bind_some, k_3 w, Option.bind_some, c1, Option.bind_some, if_neg one0, if_neg h0, if_pos h4]
  have pM : fn_X12_sluice M 86 (nI k) t = if t = 0 then (gR D 86 11 4).bind fun a8 => (aI D a8 14 (nI k)).bind fun x9 => some (x9, D) else if t = 1 then (gR D 86 11 5).bind fun a11 => (aI D a11 14 (nI k)).bind fun x12 => some (x12, D) else if t = 2 then (gR D 86 11 6).bind fun a14 => (aI D a14 14 (nI k)).bind fun x15 => some (x15, D) else if t = 3 then (gR D 86 11 0).bind fun a17 => (aI D a17 14 12).bind fun x18 => some (((x18 >>> (nI k &&& 31)) &&& 1), D) else if t = 4 then (gR D 86 11 0).bind fun a20 => (aI D a20 14 13).bind fun x21 => some (((x21 >>> (nI k &&& 31)) &&& 1), D) else (gR D 86 11 0).bind fun a22 => (ck D 86 11).bind fun u23 => (fn_X12_flowOf D 86 a22 (nI k)).bind fun o24 => some (o24.1, o24.2) := by
    unfold fn_X12_sluice
    rw [w_pI m 86 11 11 _ rfl, ← eD, Option.bind_some, k_86 d, Option.bind_some, c2, Option.bind_some, if_neg one0, in_eq, Option.bind_some, if_neg h0, if_pos h4, if_neg one0]
  obtain ⟨nc1, nc2, nc3⟩ := cw.2.1.2.2.2 k hk
  obtain ⟨nd1, nd2, nd3⟩ := dn.2.2.2 k hk
  by_cases e0 : t = 0
  · refine yes (nI (N_f N k)) ?_ ?_
    · rw [pC, if_pos e0, g_0_1 w, Option.bind_some, g_3_3 w, Option.bind_some, aI_eq w 4 14 8 rfl k (by omega) (by decide), nc1, Option.bind_some]
    · rw [pM, if_pos e0, g_86_4 d, Option.bind_some, aI_eq d 88 14 8 rfl k (by omega) (by decide), nd1, Option.bind_some]
  rw [if_neg e0] at pC pM
  by_cases e1 : t = 1
  · refine yes (nI (N_t N k)) ?_ ?_
    · rw [pC, if_pos e1, g_0_1 w, Option.bind_some, g_3_4 w, Option.bind_some, aI_eq w 5 14 8 rfl k (by omega) (by decide), nc2, Option.bind_some]
    · rw [pM, if_pos e1, g_86_5 d, Option.bind_some, aI_eq d 89 14 8 rfl k (by omega) (by decide), nd2, Option.bind_some]
  rw [if_neg e1] at pC pM
  by_cases e2 : t = 2
  · refine yes (nI (N_k N k)) ?_ ?_
    · rw [pC, if_pos e2, g_0_1 w, Option.bind_some, g_3_5 w, Option.bind_some, aI_eq w 6 14 8 rfl k (by omega) (by decide), nc3, Option.bind_some]
    · rw [pM, if_pos e2, g_86_6 d, Option.bind_some, aI_eq d 90 14 8 rfl k (by omega) (by decide), nd3, Option.bind_some]
  rw [if_neg e2] at pC pM
  by_cases e3 : t = 3
  · refine yes ((x 12 >>> (nI k &&& 31)) &&& 1) ?_ ?_
    · rw [pC, if_pos e3, g_0_7 w, Option.bind_some, w_gI w 22 6 2 rfl, Option.bind_some, cw.2.2.1.2.2.1]
    · have := aI_eq d 87 14 16 rfl 12 (by decide) (by decide)
      rw [dx 12 (by decide)] at this
      rw [pM, if_pos e3, g_86_0 d, Option.bind_some, show (12 : Int32) = nI 12 from rfl, this, Option.bind_some]
  rw [if_neg e3] at pC pM
  by_cases e4 : t = 4
  · refine yes ((x 13 >>> (nI k &&& 31)) &&& 1) ?_ ?_
    · rw [pC, if_pos e4, g_0_7 w, Option.bind_some, w_gI w 22 6 3 rfl, Option.bind_some, cw.2.2.1.2.2.2.1]
    · have := aI_eq d 87 14 16 rfl 13 (by decide) (by decide)
      rw [dx 13 (by decide)] at this
      rw [pM, if_pos e4, g_86_0 d, Option.bind_some, show (13 : Int32) = nI 13 from rfl, this, Option.bind_some]
  rw [if_neg e4] at pC pM
  obtain ⟨t', f', g', fl⟩ := flow_eq (Or.inl rfl) w cw.2.1 V hk cw.2.2.1 cw.2.2.2
  obtain ⟨C1, eC⟩ : ∃ C1, C1 = rI (rI (rI C 8 t') 16 f') 19 g' := ⟨_, rfl⟩
  rw [← eC] at fl
  have fC : Fr sc C C1 := by rw [eC]; exact (((Fr.refl _ C).rI _ (fun _ => rfl)).rI _ (fun _ => rfl)).rI _ (fun _ => rfl)
  have tC1 : ToC C1 l := by rw [eC]; exact tc
  obtain ⟨M1, fo, fm⟩ := flowOf_eq (Or.inl rfl) d dn V hk dx v0 (by omega) mwD.2.2.2
  have gM : Fr sm M M1 := gD.trans (fm.mono mf_sm')
  refine ⟨flw N sem x k, C1, M1, ?_, ?_, (fm.i 86 11 rfl).trans D11, ⟨N, sem, x, l, r'.q fC gM tC1 (tD.to fm rfl (fun _ => rfl))⟩, fC.mono sc_cls, gM.mono sm_mdl⟩
  · dsimp only
    rw [pC, g_0_1 w, Option.bind_some, g_0_7 w, Option.bind_some, g_0_4 w, Option.bind_some, k_3 w, Option.bind_some, fl, Option.bind_some]
  · dsimp only
    rw [pM, g_86_0 d, Option.bind_some, k_86 d, Option.bind_some, fo, Option.bind_some]
theorem num_cases16 (nb : Nat) (hnb : nb ≤ 16) (b : Int32) : (b < 0 ∧ True) ∨ (¬ b < 0 ∧ ¬ b < nI nb ∧ ¬ b ≤ nI nb - 1) ∨ (¬ b < 0 ∧ b < nI nb ∧ b ≤ nI nb - 1 ∧ ∃ k : Nat, k < nb ∧ b = nI k) := by
  by_cases h0 : b < 0
  · exact Or.inl ⟨h0, trivial⟩
  right
  obtain ⟨j, hj, rfl⟩ := nI_of h0
  by_cases h1 : j < nb
  · right
    obtain ⟨m, rfl⟩ : ∃ m, nb = m + 1 := ⟨nb - 1, by omega⟩
    refine ⟨h0, nI_lt h1 (by omega), ?_, j, h1, rfl⟩
    rw [nI_pred]
    exact nI_le (by omega) (by omega)
  · left
    refine ⟨h0, nI_nlt (by omega) hj, ?_⟩
    intro q
    cases nb with
    | zero =>
      have q2 := Int32.le_iff_toInt_le.mp q
      rw [nI_toInt hj] at q2
      have : (nI 0 - 1).toInt = -1 := by decide
      omega
    | succ m =>
      rw [nI_pred] at q
      exact nI_ge (show m < j by omega) hj q
theorem stp_row (c : Nat) (v : Int32) : STEPX c (fun C => fn_X11_row C 0 v) (fun M => fn_X12_row M 86 v) := by
  intro C M ⟨N, sem, x, l, r⟩
  have r' : WRL N sem x l c C M := r
  obtain ⟨V, v0, cw, mw, tc, tm, tx, pa, ke, se⟩ := r
  have w := cw.1
  have m := mw.1
  obtain ⟨D, eD⟩ : ∃ D, D = sI M 86 11 0 := ⟨_, rfl⟩
  have d : Wf D := by rw [eD]; exact m
  have gD : Fr sm M D := by rw [eD]; exact (Fr.refl _ M).sI _ rfl
  have D11 : hI D 86 11 = 0 := by rw [eD, hI_sI]; simp
  have tD : ToM D l := by rw [eD]; exact tm.to ((Fr.refl txM M).sI _ rfl) rfl (fun _ => rfl)
  have gE : Fr sm M (sI D 86 11 1) := gD.sI _ rfl
  have tE : ToM (sI D 86 11 1) l := tD.to ((Fr.refl txM D).sI _ rfl) rfl (fun _ => rfl)
  have ln := tc.2.1
  have no : fn_X11_row C 0 v = some none → fn_X12_row M 86 v = some (Int32.toInt64 0, sI D 86 11 1) → (fn_X11_row C 0 v = some none ∧ ∃ b M', fn_X12_row M 86 v = some (b, M') ∧ hI M' 86 11 = 1 ∧ REL (c + 1) C M' ∧ Fr mdl M M') := by
    intro h1 h2
    exact ⟨h1, _, _, h2, by rw [hI_sI]; simp, ⟨N, sem, x, l, r'.q (Fr.refl _ C) gE tc tE⟩, gE.mono sm_mdl⟩
  have bad : (v < 0 ∨ ¬ v < nI l.length ∧ ¬ v ≤ nI l.length - 1) → (fn_X11_row C 0 v = some none ∧ ∃ b M', fn_X12_row M 86 v = some (b, M') ∧ hI M' 86 11 = 1 ∧ REL (c + 1) C M' ∧ Fr mdl M M') := by
    intro hb
    refine no ?_ ?_
    · unfold fn_X11_row
      by_cases h0 : v < 0
      · rw [if_pos h0]
      · rw [if_neg h0, g_0_11 w, Option.bind_some, w_gI w 77 2 1 rfl, Option.bind_some, tc.1, if_neg (hb.resolve_left h0).1]
    · unfold fn_X12_row
      rw [w_pI m 86 11 11 _ rfl, ← eD, Option.bind_some, w_gI d 86 11 10 rfl, Option.bind_some, tD.1, in_eq, Option.bind_some]
      by_cases h0 : v < 0
      · rw [if_pos h0, if_pos rfl, k_86 d, Option.bind_some, lost_eq d]
        rfl
      · rw [if_neg h0, if_neg (hb.resolve_left h0).2, if_pos rfl, k_86 d, Option.bind_some, lost_eq d]
        rfl
  rcases num_cases16 l.length ln v with ⟨c1, -⟩ | ⟨c1, c2, c3⟩ | ⟨c1, c2, c3, k, hk, rfl⟩
  · exact Or.inl (bad (Or.inl c1))
  · exact Or.inl (bad (Or.inr ⟨c2, c3⟩))
  · refine Or.inr ⟨l.getD k 0, C, D, ?_, ?_, D11, ⟨N, sem, x, l, r'.q (Fr.refl _ C) gD tc tD⟩, Fr.refl _ C, gD.mono sm_mdl⟩
    · dsimp only
      unfold fn_X11_row
      rw [if_neg c1, g_0_11 w, Option.bind_some, w_gI w 77 2 1 rfl, Option.bind_some, tc.1, if_pos c2, Option.bind_some, g_77_0 w, Option.bind_some, aJ_eq w 78 16 rfl k (by omega) (by decide), tc.2.2 k hk, Option.bind_some]
    · dsimp only
      unfold fn_X12_row
      rw [w_pI m 86 11 11 _ rfl, ← eD, Option.bind_some, w_gI d 86 11 10 rfl, Option.bind_some, tD.1, in_eq, Option.bind_some, if_neg c1, if_pos c3, if_neg one0, g_86_9 d, Option.bind_some, aJ_eq d 92 16 rfl k (by omega) (by decide), tD.2.2 k hk, Option.bind_some]
