/-! a rule: signs behind a thing; the class's whole reading -/
theorem mx_tail : ∀ k, k < 41 → mx 0 (nI k - 1) = nI (k - 1) := by decide +kernel
section STD2
variable {s : CS} {h : aH}
theorem tail_SC {S c : List Nat} (sc : SC S c h) : SC S.tail c (sI h 20 2 (nI (S.length - 1))) := by
  obtain ⟨s1, s2, s3, s4, s5, s6⟩ := sc
  cases S with
  | nil => exact ⟨s1, by rw [hI_row, if_pos rfl]; rfl, trivial, s4, s5, s6⟩
  | cons w R => exact ⟨s1, by rw [hI_row, if_pos rfl]; rfl, s3.2, s4, s5, fun u hu => s6 u (List.mem_cons_of_mem _ hu)⟩
theorem behind_C2 (r : CRel s h) (hd0 : c_d s = 0) (hl : (c_S s).length + (c_c s).length < 40) (hw : c_w s = false) {ch : Nat} (hc : ch < 256) (hd : ¬ isd ch) : match stepC s ch with
    | some s' => ∃ h', fn_X5_standsBehindThing h 20 17 (nI ch) = some (1, h') ∧ Fr rrC h h' ∧ CRel s' h' ∧ (c_S s').length + (c_c s').length ≤ (c_S s).length + (c_c s).length + 1
    | none => ∃ h', fn_X5_standsBehindThing h 20 17 (nI ch) = some (0, h') ∧ Fr rrC h h' := by
  obtain ⟨sc1, cf, cn⟩ := r
  have cf0 := cf
  obtain ⟨f1, f2, f3, f4, f5, f6, f7, f8, f9⟩ := cf0
  have w := sc1.1
  have e41 : nI ch = 41 ↔ ch = 41 := eqc hc 41 (by decide)
  unfold stepC
  rw [if_neg hd, if_neg (by rw [hw]; decide)]
  unfold fn_X5_standsBehindThing
  by_cases c1 : ch = 41
  · rw [if_pos c1, if_pos (e41.mpr c1), k_20 w, Option.bind_some]
    unfold fn_X5_closes
    rw [w_gI w 20 4 3 rfl, Option.bind_some, f1]
    by_cases c2 : c_o s = 0
    · rw [if_pos c2, if_pos (show nI (c_o s) = 0 by rw [c2]; rfl)]
      exact ⟨h, rfl, Fr.refl _ _⟩
    · rw [if_neg c2, if_neg (show ¬ nI (c_o s) = 0 from fun q => c2 ((nI_eq (b := 0) (by omega) (by decide)).mp q))]
      dsimp only
      obtain ⟨h3, e3, F3, S3, g3⟩ := settle_C (b := 1) (by decide) sc1 (by omega)
      have e3' : fn_X5_settle h 20 17 1 = some h3 := e3
      have sl := setl_len 1 (c_S s) (c_c s)
      have tl' : (setl 1 (c_S s) (c_c s)).1.tail.length ≤ (setl 1 (c_S s) (c_c s)).1.length := by rw [List.length_tail]; omega
      generalize setl 1 (c_S s) (c_c s) = z at S3 sl tl' ⊢
      have w3 := S3.1
      have S5 := tail_SC S3
      have w5 := S5.1
      have g53 : hI (sI h3 20 2 (nI (z.1.length - 1))) 20 3 = nI (c_o s) := by rw [hI_row, if_neg (by decide), g3 3 (by decide)]; exact f1
      refine ⟨sI (sI h3 20 2 (nI (z.1.length - 1))) 20 3 (nI (c_o s - 1)), ?_, (F3.sI _ rfl).sI _ rfl, ⟨S5.set20 (by decide) _, ⟨?_, by show c_o s - 1 ≤ 4; omega, fun i hi => ?_, ?_, fun q => absurd rfl q, ?_, by show 0 ≤ 3; decide, fun q => (by cases q), fun q => (by cases q)⟩, fun q => absurd rfl q⟩, ?_⟩
      · simp only [k_20 w, Option.bind_some, e3', w_gI w3 20 4 2 rfl, S3.2.1, mx_tail _ (show z.1.length < 41 by omega), w_pI w3 20 4 2 _ rfl, w_gI w5 20 4 3 rfl, g53, nI_sub1 (show 0 < c_o s by omega), w_pI w5 20 4 3 _ rfl]
        rfl
      · rw [hI_row, if_pos rfl]
      · rw [hI_row, if_neg (by decide), hI_row, if_neg (by decide), g3 4 (by decide)]; exact f3 i hi
      · rw [hI_row, if_neg (by decide), hI_row, if_neg (by decide), g3 5 (by decide), f4, hd0]
      · rw [hI_row, if_neg (by decide), hI_row, if_neg (by decide), g3 7 (by decide), f6, hw]
      · show z.1.tail.length + z.2.length ≤ _
        omega
  · rw [if_neg c1, if_neg (fun q => c1 (e41.mp q))]
    have e2000 : (2000 : Int32) + nI ch = nI (2000 + ch) := nI_add 2000 ch
    have bl := bnd_le (2000 + ch)
    rw [e2000, bindR_C h (by omega), Option.bind_some]
    generalize hb : bnd (2000 + ch) = b at bl ⊢
    have eb0 : nI b = 0 ↔ b = 0 := nI_eq (b := 0) (by omega) (by decide)
    have eb1 : nI b = 1 ↔ b = 1 := nI_eq (b := 1) (by omega) (by decide)
    have t2 : ((if nI b = 1 then (gI h 20 4 4).bind fun x15 => (gI h 20 4 3).bind fun x16 => if ((x15 >>> (x16 &&& 31)) &&& 1) = 0 then some 0 else some 1 else some 0) : Option Int32) = some (b2 (decide (b = 1) && c_p s (c_o s))) := by
      by_cases q : b = 1
      · rw [if_pos (eb1.mpr q), w_gI w 20 4 4 rfl, Option.bind_some, w_gI w 20 4 3 rfl, Option.bind_some, f1, decide_eq_true q, Bool.true_and, ← f3 _ f2]
        unfold isBit
        by_cases z : ((hI h 20 4 >>> (nI (c_o s) &&& 31)) &&& 1) = 0
        · rw [if_pos z, decide_eq_true z]; rfl
        · rw [if_neg z, decide_eq_false z]; rfl
      · rw [if_neg (fun z => q (eb1.mp z)), decide_eq_false q, Bool.false_and]; rfl
    rw [t2, Option.bind_some]
    by_cases c2 : b = 0
    · rw [if_pos (eb0.mpr c2), if_pos (Or.inl c2)]
      exact ⟨h, rfl, Fr.refl _ _⟩
    · rw [if_neg (fun z => c2 (eb0.mp z))]
      by_cases c3 : b = 1 ∧ c_p s (c_o s) = true
      · rw [if_pos (Or.inr c3), c3.2, decide_eq_true c3.1, if_neg (show ¬ b2 (true && true) = 0 by decide)]
        exact ⟨h, rfl, Fr.refl _ _⟩
      · have cz : (decide (b = 1) && c_p s (c_o s)) = false := by
          by_cases q : b = 1
          · cases z : c_p s (c_o s)
            · simp
            · exact absurd ⟨q, z⟩ c3
          · simp [q]
        rw [if_neg (fun z => z.elim c2 c3), cz, if_pos (show b2 false = 0 from rfl), w_gI w 20 4 4 rfl, Option.bind_some]
        dsimp only
        obtain ⟨cv, t4, hbits⟩ : ∃ cv, ((if nI b = 1 then (gI h 20 4 3).bind fun x11 => some (1 <<< (x11 &&& 31)) else some 0) : Option Int32) = some cv ∧ ∀ i, i ≤ 4 → isBit (hI h 20 4 ||| cv) i = (if b = 1 then va_up (c_p s) (c_o s) true else c_p s) i := by
          by_cases q : b = 1
          · refine ⟨bitI (c_o s), ?_, fun i hi => ?_⟩
            · rw [if_pos (eb1.mpr q), w_gI w 20 4 3 rfl, Option.bind_some, f1]; rfl
            · rw [bit_set _ f2 hi, f3 i hi, if_pos q]
              unfold va_up
              by_cases z : i = c_o s
              · rw [if_pos z]; simp [z]
              · rw [if_neg z]; simp [z]
          · refine ⟨0, by rw [if_neg (fun z => q (eb1.mp z))], fun i hi => ?_⟩
            rw [or0, if_neg q]; exact f3 i hi
        rw [t4, Option.bind_some]
        have w5 : Wf (sI h 20 4 (hI h 20 4 ||| cv)) := w
        have S5 := sc1.set20 (j := 4) (by decide) (hI h 20 4 ||| cv)
        obtain ⟨h7, e7, F7, S7, g7⟩ := settle_C (b := b) bl S5 (by omega)
        have sl := setl_len b (c_S s) (c_c s)
        generalize setl b (c_S s) (c_c s) = z at S7 sl ⊢
        have w7 := S7.1
        obtain ⟨h9, e9, F9, S9, g9⟩ := hold_C S7 (by omega) (w := 2000 + ch) (by omega)
        have w9 := S9.1
        have q0 : pZ h9 20 4 7 1 = some (sI h9 20 7 (b2 true)) := pZ20 w9 true
        refine ⟨sI h9 20 7 (b2 true), ?_, (((Fr.refl rrC h).sI _ rfl).trans (F7.trans F9)).sI _ rfl, ⟨S9.set20 (by decide) _, ⟨?_, f2, fun i hi => ?_, ?_, fun q => absurd rfl q, ?_, by show 0 ≤ 3; decide, fun q => (by cases q), fun q => (by cases q)⟩, fun q => absurd rfl q⟩, ?_⟩
        · simp only [w_pI w 20 4 4 _ rfl, Option.bind_some, k_20 w5, e7, k_20 w7, e9, q0]
        · rw [hI_row, if_neg (by decide), g9 3 (by decide), g7 3 (by decide), hI_row, if_neg (by decide)]; exact f1
        · rw [hI_row, if_neg (by decide), g9 4 (by decide), g7 4 (by decide), hI_row, if_pos rfl]; exact hbits i hi
        · rw [hI_row, if_neg (by decide), g9 5 (by decide), g7 5 (by decide), hI_row, if_neg (by decide), f4, hd0]
        · rw [hI_row, if_pos rfl]
        · show ((2000 + ch) :: z.1).length + z.2.length ≤ _
          rw [List.length_cons]; omega
theorem stepC_d (ch : Nat) (hd : ¬ isd ch) : stepC s ch = stepC (c_w s, c_S s, c_c s, c_o s, c_p s, 0, c_n s) ch := by
  unfold stepC
  rw [if_neg hd, if_neg hd]
theorem stands_C (r : CRel s h) (hl : (c_S s).length + (c_c s).length < 40) {ch : Nat} (hc : ch < 256) : match stepC s ch with
    | some s' => ∃ h', fn_X5_stands h 20 17 (nI ch) = some (1, h') ∧ Fr rrC h h' ∧ CRel s' h' ∧ (c_S s').length + (c_c s').length ≤ (c_S s).length + (c_c s).length + 1
    | none => ∃ h', fn_X5_stands h 20 17 (nI ch) = some (0, h') ∧ Fr rrC h h' := by
  have w := r.1.1
  by_cases hd : isd ch
  · have D := digit_C2 r hl hd
    have top : ∀ b h', fn_X5_standsAsDigit h 20 17 (nI (ch - 48)) = some (b2 b, h') → fn_X5_stands h 20 17 (nI ch) = some (b2 b, h') := by
      intro b h' e
      have s48 : nI ch - 48 = nI (ch - 48) := nI_sub (a := ch) (b := 48) hd.1
      unfold fn_X5_stands
      rw [if_neg (show ¬ nI ch < 48 from nI_nlt (b := 48) hd.1 (by omega)), if_pos (show nI ch ≤ 57 from nI_le (b := 57) hd.2 (by decide)), k_20 w, Option.bind_some, s48, e, Option.bind_some, bz_b2]
      rfl
    cases e : stepC s ch with
    | some s' =>
      rw [e] at D
      obtain ⟨h', e1, z⟩ := D
      exact ⟨h', top true h' e1, z⟩
    | none =>
      rw [e] at D
      obtain ⟨h', e1, z⟩ := D
      exact ⟨h', top false h' e1, z⟩
  · obtain ⟨sc1, ⟨f1, f2, f3, f4, f5, f6, f7, f8, f9⟩, cn⟩ := r
    have w1 : Wf (sI h 20 5 0) := w
    have r1 : CRel (c_w s, c_S s, c_c s, c_o s, c_p s, 0, c_n s) (sI h 20 5 0) := by
      refine ⟨sc1.set20 (by decide) _, ⟨?_, f2, fun i hi => ?_, ?_, fun q => absurd rfl q, ?_, by show 0 ≤ 3; decide, fun q => (by cases q), fun q => (by cases q)⟩, fun q => absurd rfl q⟩
      · rw [hI_row, if_neg (by decide)]; exact f1
      · rw [hI_row, if_neg (by decide)]; exact f3 i hi
      · rw [hI_row, if_pos rfl]; rfl
      · rw [hI_row, if_neg (by decide)]; exact f6
    have F0 : Fr rrC h (sI h 20 5 0) := (Fr.refl _ _).sI _ rfl
    have g7 : hI (sI h 20 5 0) 20 7 = b2 (c_w s) := by rw [hI_row, if_neg (by decide)]; exact f6
    have top : ∀ x, ((if b2 (c_w s) = 0 then (fn_X5_standsBehindThing (sI h 20 5 0) 20 17 (nI ch)).bind fun o4 => (bz o4.1).bind fun x5 => some (x5, o4.2) else (fn_X5_standsAheadOfThing (sI h 20 5 0) 20 17 (nI ch)).bind fun o7 => (bz o7.1).bind fun x8 => some (x8, o7.2)) : Option (Int32 × aH)) = x → fn_X5_stands h 20 17 (nI ch) = x := by
      intro x e
      unfold fn_X5_stands
      by_cases c : ch < 48
      · rw [if_pos (show nI ch < 48 from nI_lt (b := 48) c (by decide))]
        simp only [w_pI w 20 4 5 _ rfl, Option.bind_some, w_gI w1 20 4 7 rfl, g7, k_20 w1]
        exact e
      · rw [if_neg (show ¬ nI ch < 48 from nI_nlt (b := 48) (by omega) (by omega)), if_neg (show ¬ nI ch ≤ 57 from nI_ge (a := 57) (by have : ¬ ch ≤ 57 := fun q => hd ⟨by omega, q⟩; omega) (by omega))]
        simp only [w_pI w 20 4 5 _ rfl, Option.bind_some, w_gI w1 20 4 7 rfl, g7, k_20 w1]
        exact e
    rw [stepC_d ch hd]
    cases hw : c_w s with
    | true =>
      rw [hw] at r1 top
      have D := ahead_C2 r1 rfl hl rfl hc hd
      cases e : stepC (true, c_S s, c_c s, c_o s, c_p s, 0, c_n s) ch with
      | some s' =>
        rw [e] at D
        obtain ⟨h', e1, z1, z2⟩ := D
        exact ⟨h', top _ (by rw [if_neg (by decide), e1]; rfl), F0.trans z1, z2⟩
      | none =>
        rw [e] at D
        obtain ⟨h', e1, z1⟩ := D
        exact ⟨h', top _ (by rw [if_neg (by decide), e1]; rfl), F0.trans z1⟩
    | false =>
      rw [hw] at r1 top
      have D := behind_C2 r1 rfl hl rfl hc hd
      cases e : stepC (false, c_S s, c_c s, c_o s, c_p s, 0, c_n s) ch with
      | some s' =>
        rw [e] at D
        obtain ⟨h', e1, z1, z2⟩ := D
        exact ⟨h', top _ (by rw [if_pos (by rfl), e1]; rfl), F0.trans z1, z2⟩
      | none =>
        rw [e] at D
        obtain ⟨h', e1, z1⟩ := D
        exact ⟨h', top _ (by rw [if_pos (by rfl), e1]; rfl), F0.trans z1⟩
/-- the whole reading -/
theorem rn_pre {T : Nat → Nat} {w k : Nat} {s0 s' : CS} (e : rnK T w 0 s0 = some s') (hk : k ≤ w) : ∃ s1, rnK T k 0 s0 = some s1 := by
  rw [show w = k + (w - k) by omega, rnK_add] at e
  cases q : rnK T k 0 s0 with
  | none => rw [q] at e; cases e
  | some s1 => exact ⟨s1, rfl⟩
theorem readC {T : Nat → Nat} {n : Nat} (w : Wf h) (t : TxC T n h) (hn : 0 < n) {o : Option Nat} {code : List Nat} (cr : CRes T n o code) : ∃ h', fn_X5_read h 20 17 = some (wrI o, h') ∧ Fr rrC h h' ∧ (o = none → hI h' 17 2 = nI code.length ∧ CA (hI h' 18) code ∧ code.length ≤ 40) := by
  have n8 := t.1
  obtain ⟨h9, e9⟩ : ∃ h9, h9 = sI (sI (sI (sI (sI (sI h 17 2 0) 20 2 0) 20 3 0) 20 4 0) 20 5 0) 20 7 (b2 true) := ⟨_, rfl⟩
  have w9 : Wf h9 := by rw [e9]; exact w
  have F9 : Fr rrC h h9 := by
    rw [e9]
    exact ((((((Fr.refl rrC h).sI _ rfl).sI _ rfl).sI _ rfl).sI _ rfl).sI _ rfl).sI _ rfl
  have rel0 : CRel s00 h9 := by
    rw [e9]
    refine ⟨⟨w, by simp only [hI_row]; rfl, trivial, ?_, fun i hi => absurd hi (Nat.not_lt_zero _), fun u hu => absurd hu (by show ¬ u ∈ ([] : List Nat); simp)⟩, ⟨by simp only [hI_row]; rfl, by decide, fun i hi => ?_, by simp only [hI_row]; rfl, fun q => absurd rfl q, by simp only [hI_row]; rfl, by decide, fun q => (by cases q), fun q => (by cases q)⟩, fun q => absurd rfl q⟩
    · show hI (sI h 17 2 0) 17 2 = _
      rw [hI_row, if_pos rfl]; rfl
    · simp only [hI_row]
      show isBit 0 i = false
      rw [isBit_bt _ (by omega), b_0]
  have head : ∀ x, (lp (lb_X5_read_47 20 17) lpN (0, h9)).bind (fun o21 => Sum.elim (fun o22 => (ck o22 20 4).bind fun _ => (fn_X5_settle o22 20 17 1).bind fun h26 => (gI h26 20 4 7).bind fun x27 => if x27 = 0 then (gI h26 20 4 3).bind fun x30 => if x30 ≤ 0 then some ((-1), h26) else (gR h26 20 4 0).bind fun a31 => (gI h26 a31 7 1).bind fun x32 => some (x32, h26) else (gR h26 20 4 0).bind fun a28 => (gI h26 a28 7 1).bind fun x29 => some (x29, h26)) (fun o23 => some o23) o21) = x → fn_X5_read h 20 17 = x := by
    intro x e
    unfold fn_X5_read fn_X4_begin
    have q0 : pZ (sI (sI (sI (sI (sI h 17 2 0) 20 2 0) 20 3 0) 20 4 0) 20 5 0) 20 4 7 1 = some h9 := by rw [e9]; exact pZ20 (show Wf (sI (sI (sI (sI (sI h 17 2 0) 20 2 0) 20 3 0) 20 4 0) 20 5 0) from w) true
    have wa : Wf (sI h 17 2 0) := w
    have wb : Wf (sI (sI h 17 2 0) 20 2 0) := w
    have wc : Wf (sI (sI (sI h 17 2 0) 20 2 0) 20 3 0) := w
    have wd : Wf (sI (sI (sI (sI h 17 2 0) 20 2 0) 20 3 0) 20 4 0) := w
    simp only [g_20_0 w, w_gI w 1 7 1 rfl, t.2.1, Option.bind_some]
    rw [if_neg (show ¬ nI n = 0 from fun q => by have := (nI_eq (b := 0) (by omega) (by decide)).mp q; omega)]
    simp only [k_17 w, Option.bind_some, w_pI w 17 3 2 _ rfl, w_pI wa 20 4 2 _ rfl, w_pI wb 20 4 3 _ rfl, w_pI wc 20 4 4 _ rfl, w_pI wd 20 4 5 _ rfl, q0]
    exact e
  have tx : ∀ g, Fr rrC h g → TxC T n g := fun g F => ⟨n8, (F.i 1 1 rfl).trans t.2.1, fun i hi => ⟨(t.2.2 i hi).1, (F.i 2 i rfl).trans (t.2.2 i hi).2⟩⟩
  have body : ∀ g k, Fr rrC h g → k < n → k ≠ 40 → ∀ b g', fn_X5_stands g 20 17 (nI (T k)) = some (b, g') → lb_X5_read_47 20 17 (nI k, g) = if b = 0 then some (.inr (.inr (nI k, g'))) else some (.inl (nI (k + 1), g')) := by
    intro g k F hk h40 b g' e
    have wg := F.wf w
    have tg := tx g F
    unfold lb_X5_read_47
    simp only [g_20_0 wg, w_gI wg 1 7 1 rfl, tg.2.1, Option.bind_some]
    rw [if_pos (nI_lt hk (by omega)), if_neg (show ¬ nI k = 40 from fun q => h40 ((nI_eq (b := 40) (by omega) (by decide)).mp q))]
    simp only [k_1 wg, Option.bind_some, at_C wg tg (show k < 1000 by omega), sg_in hk, k_20 wg, e, nI_1]
  have run : ∀ (W : Nat) (sW : CS) (P : aH ⊕ (Int32 × aH) → Prop), W ≤ n → W ≤ 40 → rnK T W 0 s00 = some sW → (∀ g, Fr rrC h g → CRel sW g → (c_S sW).length + (c_c sW).length ≤ W → ∃ r, lb_X5_read_47 20 17 (nI W, g) = some (.inr r) ∧ P r) → ∃ r, lp (lb_X5_read_47 20 17) lpN (0, h9) = some r ∧ P r := by
    intro W sW P hWn hW40 eW hend
    refine lp_inv (fun k (q : Int32 × aH) => q.1 = nI k ∧ Fr rrC h q.2 ∧ ∃ sk, rnK T k 0 s00 = some sk ∧ CRel sk q.2 ∧ (c_S sk).length + (c_c sk).length ≤ k) P W (by omega) ?_ ?_ ⟨rfl, F9, s00, rfl, rel0, Nat.le_refl _⟩
    · rintro k ⟨q1, g⟩ hk ⟨rfl, F, sk, ek, rk, lk⟩
      dsimp only at F rk
      left
      obtain ⟨s1, e1⟩ := rn_pre eW (show k + 1 ≤ W by omega)
      have e1' := e1
      rw [rnK_add k 1 0 s00, ek, Option.bind_some, Nat.zero_add, rnK_one] at e1'
      have st := stands_C rk (by omega) (ch := T k) (t.2.2 k (by omega)).1
      rw [e1'] at st
      obtain ⟨g', a1, a2, a3, a4⟩ := st
      refine ⟨(nI (k + 1), g'), ?_, rfl, F.trans a2, s1, e1, a3, by omega⟩
      rw [body g k F (by omega) (by omega) 1 g' a1, if_neg one0]
    · rintro ⟨q1, g⟩ ⟨rfl, F, sk, ek, rk, lk⟩
      dsimp only at F rk
      have : sk = sW := Option.some.inj (ek.symm.trans eW)
      subst this
      exact hend g F rk lk
  cases o with
  | some W =>
    obtain ⟨c1, c2, sW, c3, c4⟩ := cr
    rcases c4 with ⟨d1, d2⟩ | ⟨d1, d2, d3⟩ | ⟨d1, d2⟩
    · obtain ⟨r, e, g0, hF, hr⟩ := run W sW (fun r => ∃ g, Fr rrC h g ∧ r = .inr (nI W, g)) c1 c2 c3 (fun g F _ _ => ⟨_, (by
        have wg := F.wf w
        unfold lb_X5_read_47
        simp only [g_20_0 wg, w_gI wg 1 7 1 rfl, (tx g F).2.1, Option.bind_some]
        rw [if_pos (nI_lt d2 (by omega)), if_pos (show nI W = 40 by rw [d1]; rfl)]), g, F, rfl⟩)
      subst hr
      exact ⟨g0, head _ (by rw [e]; rfl), hF, fun q => by cases q⟩
    · obtain ⟨r, e, F, hF, hr⟩ := run W sW (fun r => ∃ g, Fr rrC h g ∧ r = .inr (nI W, g)) c1 c2 c3 (fun g F rk lk => by
        have st := stands_C rk (by omega) (ch := T W) (t.2.2 W d1).1
        rw [d3] at st
        obtain ⟨g', a1, a2⟩ := st
        exact ⟨_, by rw [body g W F d1 (by omega) 0 g' a1, if_pos rfl], g', F.trans a2, rfl⟩)
      subst hr
      exact ⟨F, head _ (by rw [e]; rfl), hF, fun q => by cases q⟩
    · obtain ⟨r, e, g, hF, hR, hl, hr⟩ := run W sW (fun r => ∃ g, Fr rrC h g ∧ CRel sW g ∧ (c_S sW).length + (c_c sW).length ≤ W ∧ r = .inl g) c1 c2 c3 (fun g F rk lk => by
        have wg := F.wf w
        refine ⟨.inl g, ?_, g, F, rk, lk, rfl⟩
        unfold lb_X5_read_47
        simp only [g_20_0 wg, w_gI wg 1 7 1 rfl, (tx g F).2.1, Option.bind_some]
        rw [if_neg (nI_nlt (by omega) (by omega))])
      subst hr
      obtain ⟨g2, e2, F2, S2, k2⟩ := settle_C (b := 1) (by decide) hR.1 (by omega)
      have e2' : fn_X5_settle g 20 17 1 = some g2 := e2
      have wg := hF.wf w
      have wg2 := F2.wf wg
      obtain ⟨f1, f2, f3, f4, f5, f6, f7⟩ := hR.2.1
      have t2 := tx g2 (hF.trans F2)
      refine ⟨g2, head _ ?_, hF.trans F2, fun q => by cases q⟩
      rw [e]
      simp only [Option.bind_some, Sum.elim_inl, k_20 wg, e2', w_gI wg2 20 4 7 rfl, k2 7 (by decide), f6, w_gI wg2 20 4 3 rfl, k2 3 (by decide), f1, g_20_0 wg2, w_gI wg2 1 7 1 rfl, t2.2.1]
      cases hw : c_w sW with
      | true =>
        rw [if_neg (by decide), d1]; rfl
      | false =>
        rcases d2 with z | z
        · rw [hw] at z; cases z
        · rw [if_pos (by rfl), if_neg (show ¬ nI (c_o sW) ≤ 0 from nI_ge (a := 0) z (by omega)), d1]; rfl
  | none =>
    obtain ⟨c1, sW, c3, c4, c5, c6⟩ := cr
    obtain ⟨r, e, g, hF, hR, hl, hr⟩ := run n sW (fun r => ∃ g, Fr rrC h g ∧ CRel sW g ∧ (c_S sW).length + (c_c sW).length ≤ n ∧ r = .inl g) (Nat.le_refl _) c1 c3 (fun g F rk lk => by
      have wg := F.wf w
      refine ⟨.inl g, ?_, g, F, rk, lk, rfl⟩
      unfold lb_X5_read_47
      simp only [g_20_0 wg, w_gI wg 1 7 1 rfl, (tx g F).2.1, Option.bind_some]
      rw [if_neg (nI_nlt (Nat.le_refl _) (by omega))])
    subst hr
    obtain ⟨g2, e2, F2, S2, k2⟩ := settle_C (b := 1) (by decide) hR.1 (by omega)
    have e2' : fn_X5_settle g 20 17 1 = some g2 := e2
    have sl := setl_len 1 (c_S sW) (c_c sW)
    rw [c6] at S2 sl
    have sl : 0 + code.length = (c_S sW).length + (c_c sW).length := sl
    have wg := hF.wf w
    have wg2 := F2.wf wg
    obtain ⟨f1, f2, f3, f4, f5, f6, f7⟩ := hR.2.1
    refine ⟨g2, head _ ?_, hF.trans F2, fun _ => ⟨S2.2.2.2.1, S2.2.2.2.2.1, by omega⟩⟩
    rw [e]
    simp only [Option.bind_some, Sum.elim_inl, k_20 wg, e2', w_gI wg2 20 4 7 rfl, k2 7 (by decide), f6, w_gI wg2 20 4 3 rfl, k2 3 (by decide), f1]
    rw [c4, if_pos (by rfl), c5, if_pos (by decide)]
    rfl
end STD2
