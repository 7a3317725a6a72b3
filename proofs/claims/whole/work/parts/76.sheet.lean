/-! sheet -/
def entS (v1 y : Int32) : Int32 := mx 0 (mn 9 (if v1 = 0 then Int8.toInt32 (Int32.toInt8 y) else if v1 = 1 then Int16.toInt32 (Int32.toInt16 y) else y))
theorem entS_C (h : aH) (v1 y : Int32) : fn_X11_entryOfSheet h v1 y = some (entS v1 y) := by
  unfold fn_X11_entryOfSheet entS
  by_cases h0 : v1 = 0
  · simp [h0]
  · by_cases h1 : v1 = 1
    · simp [h1]
    · simp [h0, h1]
theorem entS_M (v1 y : Int32) : ((if v1 = 0 then some (Int8.toInt32 (Int32.toInt8 y)) else if v1 = 1 then some (Int16.toInt32 (Int32.toInt16 y)) else some y) : Option Int32) = some (if v1 = 0 then Int8.toInt32 (Int32.toInt8 y) else if v1 = 1 then Int16.toInt32 (Int32.toInt16 y) else y) := by
  by_cases h0 : v1 = 0
  · simp [h0]
  · by_cases h1 : v1 = 1
    · simp [h1]
    · simp [h0, h1]
theorem entS_v (v1 y : Int32) : ∃ v : Nat, v ≤ 9 ∧ entS v1 y = nI v := clampI 9 (by decide) _
theorem step_mul (p q : Int32) (k : Nat) : p + nI k * q + q = p + nI (k + 1) * q := by
  rw [← nI_1, Int32.add_mul, Int32.one_mul, Int32.add_assoc]
def shT (v1 v2 : Int32) : Int32 := if v1 = 3 then 0 else v2
def shE (v1 v2 p q : Int32) (k : Nat) : Int32 := if nI k < shT v1 v2 then entS v1 (p + nI k * q) else 0
theorem shE_v (v1 v2 p q : Int32) (k : Nat) : ∃ v : Nat, v ≤ 9 ∧ shE v1 v2 p q k = nI v := by
  unfold shE
  split
  · exact entS_v _ _
  · exact ⟨0, by omega, rfl⟩
theorem sheet_lp {N : Net} {sem : Sem} {x : XX} {C M : aH} {B : Nat} (cw : CW N sem x C) (mw : MW N sem x M) (V : NV N) (vs : VS N B x) (v1 v2 p q : Int32) :
    ∃ C1 M1, lp (lb_X11_sheet_44 0 v1 p q (shT v1 v2)) lpN (0, C) = some C1 ∧ lp (lb_X12_sheet_40 86 v1 v2 q) lpN (p, 0, M) = some M1 ∧ Fr (tk 22) C C1 ∧ Fr x87 M M1 ∧ ∃ y, St C1 22 y ∧ XM M1 87 y ∧ VS N B y := by
  have h6 := V.1
  refine lp_two (fun k s t => s.1 = nI k ∧ t.1 = p + nI k * q ∧ t.2.1 = nI k ∧ Fr (tk 22) C s.2 ∧ Fr x87 M t.2.2 ∧ ∃ y, St s.2 22 y ∧ XM t.2.2 87 y ∧ VS N B y) (fun C1 M1 => Fr (tk 22) C C1 ∧ Fr x87 M M1 ∧ ∃ y, St C1 22 y ∧ XM M1 87 y ∧ VS N B y) (N_b N) (by omega) ?_ ?_ ?_
  · intro k s t hk ⟨e1, e2, e3, f, g, y, y1, y2, y3⟩
    have ws := f.wf cw.1
    have wt := g.wf mw.1
    have n1 : hI s.2 3 0 = nI (N_b N) := (f.i 3 0 rfl).trans cw.2.1.1
    have n2 : hI t.2.2 86 1 = nI (N_b N) := (g.i 86 1 rfl).trans mw.2.1.1
    have lt : nI k < nI (N_b N) := nI_lt hk (by omega)
    obtain ⟨u, hu, eu⟩ := shE_v v1 v2 p q k
    refine Or.inl ⟨(nI (k + 1), sI s.2 23 k (nI u)), (p + nI (k + 1) * q, nI (k + 1), sI t.2.2 87 k (nI u)), ?_, ?_, rfl, rfl, rfl, f.sI _ rfl, g.sI _ rfl, va_up y k (nI u), St_lv y1 (by omega) _, XM_up y2 _ _, VS_lv y3 hk h6 hu⟩
    · have ent : ((if nI k < shT v1 v2 then (fn_X11_entryOfSheet s.2 v1 (p + nI k * q)).bind fun x9 => some x9 else some 0) : Option Int32) = some (nI u) := by
        rw [← eu, entS_C, Option.bind_some]
        unfold shE
        split <;> rfl
      unfold lb_X11_sheet_44
      rw [g_0_1 ws, Option.bind_some, w_gI ws 3 0 0 rfl, Option.bind_some, n1, e1, if_pos lt, g_0_7 ws, Option.bind_some, g_22_0 ws, Option.bind_some, ent, Option.bind_some, wI_eq ws 23 6 rfl k (by omega) (by decide), Option.bind_some, nI_1, Option.bind_some]
    · have ent : ((if v1 = 3 then some 0 else if nI k < v2 then some (mx 0 (mn 9 (if v1 = 0 then Int8.toInt32 (Int32.toInt8 (p + nI k * q)) else if v1 = 1 then Int16.toInt32 (Int32.toInt16 (p + nI k * q)) else (p + nI k * q)))) else some 0) : Option Int32) = some (nI u) := by
        rw [← eu]
        unfold shE shT entS
        by_cases h3 : v1 = 3
        · rw [if_pos h3, if_pos h3, if_neg (nI_pos (by omega))]
        · rw [if_neg h3, if_neg h3]
          by_cases h4 : nI k < v2
          · rw [if_pos h4, if_pos h4]
          · rw [if_neg h4, if_neg h4]
      unfold lb_X12_sheet_40
      rw [w_gI wt 86 11 1 rfl, Option.bind_some, n2, e3, e2, if_pos lt, entS_M, Option.bind_some, g_86_0 wt, Option.bind_some, ent, Option.bind_some, wI_eq wt 87 16 rfl k (by omega) (by decide), Option.bind_some, step_mul, Option.bind_some, nI_1, Option.bind_some]
  · intro s t ⟨e1, e2, e3, f, g, y⟩
    have ws := f.wf cw.1
    have wt := g.wf mw.1
    have n1 : hI s.2 3 0 = nI (N_b N) := (f.i 3 0 rfl).trans cw.2.1.1
    have n2 : hI t.2.2 86 1 = nI (N_b N) := (g.i 86 1 rfl).trans mw.2.1.1
    have lt : ¬ nI (N_b N) < nI (N_b N) := nI_nlt (Nat.le_refl _) (by omega)
    refine ⟨s.2, t.2.2, ?_, ?_, f, g, y⟩
    · unfold lb_X11_sheet_44
      rw [g_0_1 ws, Option.bind_some, w_gI ws 3 0 0 rfl, Option.bind_some, n1, e1, if_neg lt]
    · unfold lb_X12_sheet_40
      rw [w_gI wt 86 11 1 rfl, Option.bind_some, n2, e3, if_neg lt]
  · refine ⟨rfl, ?_, rfl, Fr.refl _ _, Fr.refl _ _, x, cw.2.2.1, mw.2.2.1, vs⟩
    show p = p + nI 0 * q
    rw [show nI 0 = 0 from rfl, Int32.zero_mul, Int32.add_zero]
theorem stp_sheet (c : Nat) (v1 v2 p q : Int32) : STEP c (fun C => fn_X11_sheet C 0 v1 v2 p q) (fun M => fn_X12_sheet M 86 v1 v2 p q) := by
  intro C M ⟨N, sem, x, l, r⟩
  have r' : WRL N sem x l c C M := r
  obtain ⟨V, v0, cw, mw, tc, tm, tx, pa, ke, se⟩ := r
  have w := cw.1
  have m := mw.1
  obtain ⟨M0, eM⟩ : ∃ M0, M0 = sI M 86 11 0 := ⟨_, rfl⟩
  have m0 : Wf M0 := by rw [eM]; exact m
  have gM0 : Fr acM M M0 := by rw [eM]; exact (Fr.refl _ M).sI _ rfl
  have hM0 : Fr txM M M0 := by rw [eM]; exact (Fr.refl _ M).sI _ rfl
  have mw0 : MW N sem x M0 := mw.go gM0 acM_k (by rw [eM]; exact mw.2.2.1)
  have th := r'.thr
  rw [← eM] at th
  have no : ∀ k, fn_X11_sheet C 0 v1 v2 p q = some (k, C) → fn_X12_sheet M 86 v1 v2 p q = some (k, M0) → ∃ r C' M', fn_X11_sheet C 0 v1 v2 p q = some (r, C') ∧ fn_X12_sheet M 86 v1 v2 p q = some (r, M') ∧ REL (c + 1) C' M' ∧ Fr cls C C' ∧ Fr mdl M M' :=
    fun k h1 h2 => ⟨k, C, M0, h1, h2, ⟨N, sem, x, l, th.1⟩, Fr.refl _ C, th.2⟩
  have hd : fn_X12_sheet M 86 v1 v2 p q = (fn_X12_in M0 v1 0 3).bind fun x2 => if x2 = 0 then some ((-1), M0) else if v2 ≤ 6 then (if v1 < 3 then (if v2 < 0 then some ((-2), M0) else (lp (lb_X12_sheet_40 86 v1 v2 q) lpN (p, 0, M0)).bind fun o24 => if v1 = 3 then some ((-3), o24) else (gR o24 86 11 0).bind fun a29 => (ck o24 86 11).bind fun u30 => (fn_X12_sumOf o24 86 a29 0).bind fun x31 => some (x31, o24)) else (lp (lb_X12_sheet_40 86 v1 v2 q) lpN (p, 0, M0)).bind fun o15 => if v1 = 3 then some ((-3), o15) else (gR o15 86 11 0).bind fun a20 => (ck o15 86 11).bind fun u21 => (fn_X12_sumOf o15 86 a20 0).bind fun x22 => some (x22, o15)) else some ((-1), M0) := by
    unfold fn_X12_sheet
    rw [w_pI m 86 11 11 _ rfl, ← eM, Option.bind_some]
  rw [in_eq, Option.bind_some] at hd
  have hcl : fn_X11_sheet C 0 v1 v2 p q = if v1 < 0 then some ((-1), C) else if v1 ≤ 3 then (if v2 ≤ 6 then (if v1 < 3 then (if v2 < 0 then some ((-2), C) else (lp (lb_X11_sheet_44 0 v1 p q (shT v1 v2)) lpN (0, C)).bind fun o21 => if v1 = 3 then some ((-3), o21) else (gR o21 0 10 7).bind fun a24 => (ck o21 0 10).bind fun u25 => (fn_X11_together o21 0 a24).bind fun x26 => some (x26, o21)) else (lp (lb_X11_sheet_44 0 v1 p q (shT v1 v2)) lpN (0, C)).bind fun o12 => if v1 = 3 then some ((-3), o12) else (gR o12 0 10 7).bind fun a15 => (ck o12 0 10).bind fun u16 => (fn_X11_together o12 0 a15).bind fun x17 => some (x17, o12)) else some ((-1), C)) else some ((-1), C) := by
    have sT : ((if v1 = 3 then some 0 else some v2) : Option Int32) = some (shT v1 v2) := by
      unfold shT
      split <;> rfl
    unfold fn_X11_sheet
    rw [sT]
    rfl
  by_cases c1 : v1 < 0
  · exact no (-1) (by rw [hcl, if_pos c1]) (by rw [hd, if_pos c1, if_pos rfl])
  by_cases c2 : v1 ≤ 3
  rotate_left
  · exact no (-1) (by rw [hcl, if_neg c1, if_neg c2]) (by rw [hd, if_neg c1, if_neg c2, if_pos rfl])
  rw [if_neg c1, if_pos c2, if_neg one0] at hd
  rw [if_neg c1, if_pos c2] at hcl
  by_cases c3 : v2 ≤ 6
  rotate_left
  · exact no (-1) (by rw [hcl, if_neg c3]) (by rw [hd, if_neg c3])
  rw [if_pos c3] at hd hcl
  obtain ⟨C1, M1, l1, l2, f, g, y, y1, y2, y3⟩ := sheet_lp cw mw0 V v0 v1 v2 p q
  have fC : Fr acC C C1 := f.mono tk22_ac
  have fM : Fr acM M M1 := gM0.trans (g.mono x87_ac)
  have tc1 : ToC C1 l := tc.to f rfl (fun _ => rfl)
  have tm1 : ToM M1 l := (tm.to hM0 rfl (fun _ => rfl)).to g rfl (fun _ => rfl)
  have pa0 : PastR N (300 * c) C M0 := pa.to (Fr.refl txC C) hM0 rfl (fun _ => rfl) (fun a j h1 h2 => by unfold txC; simp; omega) rfl (fun _ => rfl) (Nat.le_refl _)
  have pa1 : PastR N (300 * (c + 1)) C1 M1 := pa0.to f g rfl (fun _ => rfl) (fun a j h1 h2 => by unfold tk; simp; omega) rfl (fun _ => rfl) (by omega)
  have cw1 : CW N sem y C1 := cw.go fC acC_k y1
  have mw1 : MW N sem y M1 := mw.go fM acM_k y2
  have R1 : REL (c + 1) C1 M1 := ⟨N, sem, y, l, r'.act fC fM y1 y2 (VS_mono (by omega) y3) tc1 tm1 pa1⟩
  have w1 := cw1.1
  have m1 := mw1.1
  by_cases c4 : v1 < 3
  · have n3 : ¬ v1 = 3 := fun e => by rw [e] at c4; exact absurd c4 (by decide)
    rw [if_pos c4] at hd hcl
    by_cases c5 : v2 < 0
    · exact no (-2) (by rw [hcl, if_pos c5]) (by rw [hd, if_pos c5])
    rw [if_neg c5, l2, Option.bind_some, if_neg n3, g_86_0 m1, Option.bind_some, k_86 m1, Option.bind_some, sumOf0_eq m1 mw1.2.1 V (Or.inl rfl) y2, Option.bind_some] at hd
    rw [if_neg c5, l1, Option.bind_some, if_neg n3, g_0_7 w1, Option.bind_some, k_0 w1, Option.bind_some, together_eq w1 cw1.2.1 V (Or.inl rfl) y1, Option.bind_some] at hcl
    exact ⟨_, C1, M1, hcl, hd, R1, fC.mono acC_cls, fM.mono acM_mdl⟩
  · have n3 : v1 = 3 := by
      rcases fa_three v1 3 with q1 | q1 | q1
      · exact absurd q1 c4
      · exact q1
      · exact absurd c2 (fa_of_lt q1).2.1
    rw [if_neg c4, l2, Option.bind_some, if_pos n3] at hd
    rw [if_neg c4, l1, Option.bind_some, if_pos n3] at hcl
    exact ⟨_, C1, M1, hcl, hd, R1, fC.mono acC_cls, fM.mono acM_mdl⟩
