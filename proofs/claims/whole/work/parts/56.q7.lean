/-! questions: fits; the code of a state -/
section Q7
variable {N : Net} {sem : Sem} {x : XX} {l : List Int64} {C M : aH}
theorem fitting_eq {n : Nat} {sb so : Nat → Nat} {sv : XX} (w : WW N sem x l C M) (s : SN N n sb so sv C M) : ∃ f C1 M1, fn_X11_fittingSluices C 0 = some (f, C1) ∧ fn_X12_fitting M 86 = some (f, M1) ∧ Fr sc C C1 ∧ Fr sm M M1 ∧ WW N sem x l C1 M1 ∧ SN N n sb so sv C1 M1 ∧ (∃ v : Nat, v < 2 ^ N_s N ∧ f = nI v) := by
  have h8 := w.v.2.1
  have sN : N_s N < 2 ^ 31 := by omega
  obtain ⟨r, q, er, eq, r1, Gr, Hq, wr, sr, hv⟩ : ∃ r q, lp (lb_X11_fittingSluices_4 0) lpN (0, 0, C) = some r ∧ lp (lb_X12_fitting_4 86) lpN (0, 0, M) = some q ∧ (r.1 = q.1 ∧ Fr sc C r.2 ∧ Fr sm M q.2 ∧ WW N sem x l r.2 q.2 ∧ SN N n sb so sv r.2 q.2 ∧ (∃ v : Nat, v < 2 ^ N_s N ∧ r.1 = nI v)) := by
    refine lp_two (fun k s t => s.1 = t.1 ∧ s.2.1 = nI k ∧ t.2.1 = nI k ∧ Fr sc C s.2.2 ∧ Fr sm M t.2.2 ∧ WW N sem x l s.2.2 t.2.2 ∧ SN N n sb so sv s.2.2 t.2.2 ∧ (∃ v : Nat, v < 2 ^ N_s N ∧ s.1 = nI v)) _ (N_s N) (by omega) ?_ ?_ ⟨rfl, rfl, rfl, Fr.refl _ _, Fr.refl _ _, w, s, 0, Nat.two_pow_pos _, rfl⟩
    · rintro k ⟨s1, s2, Ck⟩ ⟨t1, t2, Mk⟩ hk ⟨rfl, rfl, rfl, GC, GM, wk, sk, hv⟩
      dsimp only at GC GM wk sk hv
      obtain ⟨bc, bm⟩ := wk.stuckBit
      have ckk : nI k < nI (N_s N) := nI_lt hk sN
      by_cases st : isBit (x 13) k = true
      · have st' : ¬ ((x 13 >>> (nI k &&& 31)) &&& 1) = 0 := by unfold isBit at st; simpa using st
        refine Or.inl ⟨(s1, nI (k + 1), Ck), (s1, nI (k + 1), Mk), ?_, ?_, rfl, rfl, rfl, GC, GM, wk, sk, hv⟩
        · unfold lb_X11_fittingSluices_4
          simp only [g_0_1 wk.wc, w_gI wk.wc 3 0 1 rfl, wk.cn.2.1, Option.bind_some, if_pos ckk, g_0_7 wk.wc, bc, if_neg st', nI_1]
        · unfold lb_X12_fitting_4
          simp only [w_gI wk.wm 86 11 2 rfl, wk.mn.2.1, Option.bind_some, if_pos ckk, g_86_0 wk.wm, bm, has_eq Mk (x 13) (show k < 31 by omega), st, if_neg (show ¬ b2 true = 0 by decide), or0, nI_1]
      · have st' : ((x 13 >>> (nI k &&& 31)) &&& 1) = 0 := by unfold isBit at st; simpa using st
        have sf : isBit (x 13) k = false := by simpa using st
        obtain ⟨C3, b, f3, G3, w3, hb⟩ := isAsSeen_eq wk sk (o := some k) (fun s h => by cases h; exact hk)
        have s3 := sk.to G3 (Fr.refl sm Mk)
        obtain ⟨M3, b', g3, H3, w4, hb'⟩ := isSeen_eq w3 s3 (o := some k) (fun s h => by cases h; exact hk)
        have s4 := s3.to (Fr.refl sc C3) (H3.mono mh_sm)
        have bb : b' = b := by
          have : b' = true ↔ b = true := hb'.trans hb.symm
          cases b <;> cases b' <;> simp at this ⊢
        subst bb
        have f3' : fn_X11_isAsSeen Ck 0 (1 <<< (nI k &&& 31)) = some (b2 b', C3) := f3
        have g3' : fn_X12_isSeen Mk 86 (nI k) = some (b2 b', M3) := g3
        have G4 := GC.trans G3
        have H4 := GM.trans (H3.mono mh_sm)
        cases b' with
        | false =>
          refine Or.inl ⟨(s1, nI (k + 1), C3), (s1, nI (k + 1), M3), ?_, ?_, rfl, rfl, rfl, G4, H4, w4, s4, hv⟩
          · unfold lb_X11_fittingSluices_4
            simp only [g_0_1 wk.wc, w_gI wk.wc 3 0 1 rfl, wk.cn.2.1, Option.bind_some, if_pos ckk, g_0_7 wk.wc, bc, if_pos st', k_0 wk.wc, f3', if_pos (show b2 false = 0 from rfl), nI_1]
          · unfold lb_X12_fitting_4
            simp only [w_gI wk.wm 86 11 2 rfl, wk.mn.2.1, Option.bind_some, if_pos ckk, g_86_0 wk.wm, bm, has_eq Mk (x 13) (show k < 31 by omega), sf, if_pos (show b2 false = 0 from rfl), k_86 wk.wm, g3', or0, nI_1]
        | true =>
          refine Or.inl ⟨(s1 ||| bitI k, nI (k + 1), C3), (s1 ||| bitI k, nI (k + 1), M3), ?_, ?_, rfl, rfl, rfl, G4, H4, w4, s4, ?_⟩
          · unfold lb_X11_fittingSluices_4
            simp only [g_0_1 wk.wc, w_gI wk.wc 3 0 1 rfl, wk.cn.2.1, Option.bind_some, if_pos ckk, g_0_7 wk.wc, bc, if_pos st', k_0 wk.wc, f3', if_neg (show ¬ b2 true = 0 by decide), nI_1]
            rfl
          · unfold lb_X12_fitting_4
            simp only [w_gI wk.wm 86 11 2 rfl, wk.mn.2.1, Option.bind_some, if_pos ckk, g_86_0 wk.wm, bm, has_eq Mk (x 13) (show k < 31 by omega), sf, if_pos (show b2 false = 0 from rfl), k_86 wk.wm, g3', if_neg (show ¬ b2 true = 0 by decide), nI_1]
            rfl
          · obtain ⟨v, hv1, hv2⟩ := hv
            refine ⟨v ||| 2 ^ k, Nat.or_lt_two_pow hv1 (Nat.pow_lt_pow_right (by decide) hk), ?_⟩
            show s1 ||| bitI k = _
            rw [hv2, bitI_eq' (by omega), fa_or]
    · rintro ⟨s1, s2, Ck⟩ ⟨t1, t2, Mk⟩ ⟨rfl, rfl, rfl, GC, GM, wk, sk, hv⟩
      dsimp only at GC GM wk sk hv
      refine ⟨(s1, Ck), (s1, Mk), ?_, ?_, rfl, GC, GM, wk, sk, hv⟩
      · unfold lb_X11_fittingSluices_4
        simp only [g_0_1 wk.wc, w_gI wk.wc 3 0 1 rfl, wk.cn.2.1, Option.bind_some, if_neg (nI_nlt (Nat.le_refl (N_s N)) sN)]
      · unfold lb_X12_fitting_4
        simp only [w_gI wk.wm 86 11 2 rfl, wk.mn.2.1, Option.bind_some, if_neg (nI_nlt (Nat.le_refl (N_s N)) sN)]
  refine ⟨r.1, r.2, q.2, ?_, ?_, Gr, Hq, wr, sr, hv⟩
  · unfold fn_X11_fittingSluices; rw [er]; rfl
  · unfold fn_X12_fitting; rw [eq, r1]; rfl
theorem q_fits {n : Nat} {sb so : Nat → Nat} {sv : XX} (w : WW N sem x l C M) (s : SN N n sb so sv C M) : QR (fn_X11_fits C 0) (fn_X12_fits M 86) C M := by
  obtain ⟨M1, p1, F1, w1⟩ := w.thr
  have s1 := s.to (Fr.refl sc C) F1
  obtain ⟨f, C2, M2, f2, g2, G2, H2, w2, s2, -⟩ := fitting_eq w1 s1
  obtain ⟨C3, b, f3, G3, w3, hb⟩ := isAsSeen_eq w2 s2 (o := none) (fun s h => by cases h)
  have s3 := s2.to G3 (Fr.refl sm M2)
  obtain ⟨C4, M4, f4, g4, G4, H4, w4⟩ := w3.begin
  obtain ⟨C5, M5, f5, g5, G5, H5, w5⟩ := w4.add (by decide) (Int32.toInt64 (bcI f))
  have s5 := s3.to ((G4.mono stC_sc).trans (G5.mono stC_sc)) ((H4.mono stM_sm).trans (H5.mono stM_sm))
  obtain ⟨M6, b', g6, H6, w6, hb'⟩ := isSeen_eq w5 s5 (o := none) (fun s h => by cases h)
  have bb : b' = b := by
    have : b' = true ↔ b = true := hb'.trans hb.symm
    cases b <;> cases b' <;> simp at this ⊢
  subst bb
  obtain ⟨C7, M7, f7, g7, G7, H7, w7⟩ := w6.add (by simp) (if b' = true then 1 else 0)
  have f3' : fn_X11_isAsSeen C2 0 0 = some (b2 b', C3) := f3
  have g6' : fn_X12_isSeen M5 86 (-1) = some (b2 b', M6) := g6
  have eif : (if b2 b' = 0 then some (0 : Int64) else some 1) = some (if b' = true then 1 else 0) := by cases b' <;> rfl
  refine w7.qr f ?_ ?_ (G2.trans (G3.trans ((G4.mono stC_sc).trans ((G5.mono stC_sc).trans (G7.mono stC_sc))))) (F1.trans (H2.trans ((H4.mono stM_sm).trans ((H5.mono stM_sm).trans ((H6.mono mh_sm).trans (H7.mono stM_sm))))))
  · unfold fn_X11_fits
    simp only [k_0 w1.wc, Option.bind_some, f2, k_0 w2.wc, f3', g_0_11 w3.wc, k_77 w3.wc, f4, g_0_11 w4.wc, bc_eq, k_77 w4.wc, f5, g_0_11 w5.wc, eif, k_77 w5.wc, f7]
  · unfold fn_X12_fits
    simp only [p1, k_86 w1.wm, Option.bind_some, g2, g4, bc_eq, k_86 w4.wm, g5, k_86 w5.wm, g6', eif, k_86 w6.wm, g7]
end Q7
/-- a state's numbers -/
def nv (y : XX) (i : Nat) : Nat := (y i).toNatClampNeg
theorem nv_of {y : XX} {i v : Nat} (e : y i = nI v) (hv : v < 2 ^ 31) : nv y i = v := by
  unfold nv
  rw [e, nI_clamp hv]
theorem VS_nv {N : Net} {B : Nat} {y : XX} (v : VS N B y) (hB : B < 2 ^ 31) (h8 : N_s N ≤ 8) : (∀ i, i < 6 → y i = nI (nv y i) ∧ nv y i ≤ 9 ∧ (N_b N ≤ i → nv y i = 0)) ∧ (y 12 = nI (nv y 12) ∧ nv y 12 < 256) ∧ (y 14 = nI (nv y 14) ∧ nv y 14 ≤ B) := by
  obtain ⟨v1, v2, ⟨o, ho, eo⟩, v4, ⟨t, ht, et⟩, v6⟩ := v
  refine ⟨fun i hi => ?_, ?_, ?_⟩
  · obtain ⟨a, ha, ea, ez⟩ := v1 i hi
    have := nv_of ea (by omega)
    rw [this]
    exact ⟨ea, ha, ez⟩
  · have h256 : o < 256 := Nat.lt_of_lt_of_le ho (Nat.pow_le_pow_right (n := 2) (by decide) h8)
    have := nv_of eo (by omega)
    rw [this]
    exact ⟨eo, h256⟩
  · have := nv_of et (by omega)
    rw [this]
    exact ⟨et, ht⟩
def cdP (p v5 v4 v3 v2 v1 v0 : Nat) : Nat := (((((p * 16 + v5) * 16 + v4) * 16 + v3) * 16 + v2) * 16 + v1) * 16 + v0
def codeN (y : XX) : Nat := cdP (nv y 14 % 4 * 256 + nv y 12) (nv y 5) (nv y 4) (nv y 3) (nv y 2) (nv y 1) (nv y 0)
theorem lsl_nat {a k : Nat} (hk : k < 64) : lsl (lN a) (nI k) = lN (a * 2 ^ k) := by
  unfold lsl
  exact wb_shl a hk
theorem code_eq {N : Net} {B : Nat} {h : aH} {y : XX} (w : Wf h) (S : St h 28 y) (v : VS N B y) (hB : B < 2 ^ 31) (h8 : N_s N ≤ 8) : fn_X7_code h 28 = some (lN (codeN y)) := by
  obtain ⟨a, ⟨eo, ho⟩, ⟨et, ht⟩⟩ := VS_nv v hB h8
  have lv : ∀ i, i < 6 → aI h 29 14 (nI i) = some (nI (nv y i)) := fun i hi => by
    rw [aI_eq w 29 14 6 rfl i hi (by decide)]
    have : hI h 29 i = y i := S.1 i hi
    rw [this, ← (a i hi).1]
  have s8 : ∀ c, lsl (lN c) 8 = lN (c * 256) := fun c => lsl_nat (a := c) (k := 8) (by decide)
  have s4 : ∀ c, lsl (lN c) 4 = lN (c * 16) := fun c => lsl_nat (a := c) (k := 4) (by decide)
  have e0 : (lsl (Int32.toInt64 (y 14 &&& 3)) 8) ||| (Int32.toInt64 (y 12)) = lN (nv y 14 % 4 * 256 + nv y 12) := by
    rw [et, and3, eo, nI_l (by omega), nI_l (by omega), nv_of et (by omega), nv_of eo (by omega), s8]
    exact g_or (k := 8) rfl ho (by omega)
  have stp : ∀ c i, i < 6 → c < 2 ^ 40 → (lsl (lN c) 4) ||| (Int32.toInt64 (nI (nv y i))) = lN (c * 16 + nv y i) := fun c i hi hc => by
    have := (a i hi).2.1
    rw [s4, nI_l (by omega)]
    exact g_or (k := 4) rfl (by omega) (by omega)
  have v5 := (a 5 (by decide)).2.1
  have v4 := (a 4 (by decide)).2.1
  have v3 := (a 3 (by decide)).2.1
  have v2 := (a 2 (by decide)).2.1
  have v1 := (a 1 (by decide)).2.1
  have v0 := (a 0 (by decide)).2.1
  obtain ⟨p, ep⟩ : ∃ p, p = nv y 14 % 4 * 256 + nv y 12 := ⟨_, rfl⟩
  have hp : p < 1024 := by omega
  have loop : lp (lb_X7_code_19 h 28) lpN (lN p, 5) = some (lN (cdP p (nv y 5) (nv y 4) (nv y 3) (nv y 2) (nv y 1) (nv y 0))) := by
    have step : ∀ c i : Nat, i < 6 → c < 2 ^ 40 → lb_X7_code_19 h 28 (lN c, nI i) = some (.inl (lN (c * 16 + nv y i), nI i + (-1))) := fun c i hi hc => by
      unfold lb_X7_code_19
      simp only [if_neg (nI_pos (show i < 2 ^ 31 by omega)), g_28_0 w, Option.bind_some, lv i hi, stp c i hi hc]
    unfold cdP
    show lp (lb_X7_code_19 h 28) (1993 + 7) (lN p, nI 5) = _
    have q5 := step p 5 (by decide) (by omega)
    have q4 := step (p * 16 + nv y 5) 4 (by decide) (by omega)
    have q3 := step ((p * 16 + nv y 5) * 16 + nv y 4) 3 (by decide) (by omega)
    have q2 := step (((p * 16 + nv y 5) * 16 + nv y 4) * 16 + nv y 3) 2 (by decide) (by omega)
    have q1 := step ((((p * 16 + nv y 5) * 16 + nv y 4) * 16 + nv y 3) * 16 + nv y 2) 1 (by decide) (by omega)
    have q0 := step (((((p * 16 + nv y 5) * 16 + nv y 4) * 16 + nv y 3) * 16 + nv y 2) * 16 + nv y 1) 0 (by decide) (by omega)
    have m5 : nI 5 + (-1) = nI 4 := by decide
    have m4 : nI 4 + (-1) = nI 3 := by decide
    have m3 : nI 3 + (-1) = nI 2 := by decide
    have m2 : nI 2 + (-1) = nI 1 := by decide
    have m1 : nI 1 + (-1) = nI 0 := by decide
    have m0 : nI 0 + (-1) < 0 := by decide
    rw [m5] at q5
    rw [m4] at q4
    rw [m3] at q3
    rw [m2] at q2
    rw [m1] at q1
    have qe : ∀ c, lb_X7_code_19 h 28 (c, nI 0 + (-1)) = some (.inr c) := fun c => by
      unfold lb_X7_code_19
      rw [if_pos m0]
    simp only [lp, q5, q4, q3, q2, q1, q0, qe]
  unfold fn_X7_code
  have gi4 : gI h 28 6 4 = some (y 14) := by rw [w_gI w 28 6 4 rfl]; exact congrArg some S.2.2.2.2.1
  have gi2 : gI h 28 6 2 = some (y 12) := by rw [w_gI w 28 6 2 rfl]; exact congrArg some S.2.2.1
  simp only [gi4, gi2, Option.bind_some, e0, ← ep, loop]
  unfold codeN
  rw [ep]
theorem levelOf_eq {N : Net} {B : Nat} {y : XX} (h : aH) (v : VS N B y) (hB : B < 2 ^ 31) (h8 : N_s N ≤ 8) {b : Nat} (hb : b < 6) : fn_X7_levelOf h (lN (codeN y)) (nI b) = some (y b) := by
  obtain ⟨a, ⟨eo, ho⟩, ⟨et, ht⟩⟩ := VS_nv v hB h8
  have v5 := (a 5 (by decide)).2.1
  have v4 := (a 4 (by decide)).2.1
  have v3 := (a 3 (by decide)).2.1
  have v2 := (a 2 (by decide)).2.1
  have v1 := (a 1 (by decide)).2.1
  have v0 := (a 0 (by decide)).2.1
  have hc : codeN y < 2 ^ 62 := by unfold codeN cdP; omega
  have hD : ∀ b, b < 6 → ((((4 : Int32) * nI b).toInt64 &&& 63).toBitVec.smod 64).toNat = 4 * b := by decide +kernel
  unfold fn_X7_levelOf lsr
  rw [pf_shr (hD b hb) hc]
  show some ((Int64.ofNat _).toInt32 &&& 15) = _
  rw [Int64.toInt32_ofNat']
  show some (nI (codeN y / 2 ^ (4 * b)) &&& 15) = _
  have := fa_mask (codeN y / 2 ^ (4 * b)) 4
  rw [show nI (codeN y / 2 ^ (4 * b)) &&& 15 = _ from this, (a b hb).1]
  congr 2
  unfold codeN cdP
  match b, hb with
  | 0, _ => show _ / 1 % 16 = _; omega
  | 1, _ => show _ / 16 % 16 = _; omega
  | 2, _ => show _ / 256 % 16 = _; omega
  | 3, _ => show _ / 4096 % 16 = _; omega
  | 4, _ => show _ / 65536 % 16 = _; omega
  | 5, _ => show _ / 1048576 % 16 = _; omega
theorem sumOfC_eq {N : Net} {B : Nat} {y : XX} (h : aH) (v : VS N B y) (hB : B < 2 ^ 31) (h8 : N_s N ≤ 8) : fn_X7_sumOf h (lN (codeN y)) = some (sumI 6 y) := by
  have loop : lp (lb_X7_sumOf_4 h (lN (codeN y))) lpN (0, 0) = some (sumI 6 y) := by
    refine lp_run (fun i => (sumI i y, nI i)) 6 _ ?_ ?_ (by decide) rfl
    · intro i hi
      unfold lb_X7_sumOf_4
      simp only [if_pos (show nI i < 6 from nI_lt (b := 6) hi (by decide)), levelOf_eq h v hB h8 hi, Option.bind_some, nI_1]
      rfl
    · unfold lb_X7_sumOf_4
      rw [if_neg (show ¬ nI 6 < 6 by decide)]
  unfold fn_X7_sumOf
  rw [loop]
  rfl
/-- levels behind the basins' number are nothing -/
theorem sum6 {N : Net} {B : Nat} {y : XX} (v : VS N B y) (h6 : N_b N ≤ 6) : sumI 6 y = sumI (N_b N) y := by
  have z : ∀ i, i < 6 → N_b N ≤ i → y i = 0 := fun i hi h => by
    obtain ⟨a, -, ea, e0⟩ := v.1 i hi
    rw [ea, e0 h]; rfl
  have add0 : ∀ c : Int32, c + 0 = c := Int32.add_zero
  have : ∀ k, k ≤ 6 - N_b N → sumI (N_b N + k) y = sumI (N_b N) y := by
    intro k
    induction k with
    | zero => intro _; rfl
    | succ k ih =>
      intro hk
      show sumI (N_b N + k) y + y (N_b N + k) = _
      rw [ih (by omega), z (N_b N + k) (by omega) (by omega), add0]
  have := this (6 - N_b N) (Nat.le_refl _)
  rwa [Nat.add_sub_cancel' h6] at this
