/-! a rule: each sign, on the class's cells -/
def CF (o : Nat) (cp : Nat → Bool) (d num : Nat) (w : Bool) (h : aH) : Prop := hI h 20 3 = nI o ∧ o ≤ 4 ∧ (∀ i, i ≤ 4 → isBit (hI h 20 4) i = cp i) ∧ hI h 20 5 = nI d ∧ (d ≠ 0 → hI h 20 6 = nI num) ∧ hI h 20 7 = b2 w ∧ d ≤ 3 ∧ (d = 1 → num < 10) ∧ (d = 2 → num < 100)
def CRel (s : CS) (h : aH) : Prop := SC (c_S s) (c_c s) h ∧ CF (c_o s) (c_p s) (c_d s) (c_n s) (c_w s) h ∧ (c_d s ≠ 0 → c_c s ≠ [])
theorem CF.to {o d num : Nat} {cp : Nat → Bool} {w : Bool} {h h' : aH} (g : ∀ j, j ≠ 2 → hI h' 20 j = hI h 20 j) (f : CF o cp d num w h) : CF o cp d num w h' := by
  obtain ⟨f1, f2, f3, f4, f5, f6, f7⟩ := f
  refine ⟨(g 3 (by decide)).trans f1, f2, fun i hi => ?_, (g 5 (by decide)).trans f4, fun q => (g 6 (by decide)).trans (f5 q), (g 7 (by decide)).trans f6, f7⟩
  rw [g 4 (by decide)]; exact f3 i hi
theorem bit_one {k i : Nat} (hk : k ≤ 4) (hi : i ≤ 4) : bt (bitI k) i = decide (i = k) := by
  rw [bitI_eq (by omega), bt_nI _ _ (by omega)]
  by_cases e : i = k
  · rw [e, Nat.testBit_two_pow_self]; simp
  · rw [Nat.testBit_two_pow_of_ne (fun q => e q.symm)]; simp [e]
theorem bit_clr (x : Int32) {k i : Nat} (hk : k ≤ 4) (hi : i ≤ 4) : isBit (x &&& (bitI k ^^^ (-1))) i = (isBit x i && !decide (i = k)) := by
  rw [isBit_bt _ (by omega), isBit_bt _ (by omega), b_and, b_xor, bit_one hk hi, b_m1 i (by omega)]
  cases decide (i = k) <;> rfl
theorem bit_set (x : Int32) {k i : Nat} (hk : k ≤ 4) (hi : i ≤ 4) : isBit (x ||| bitI k) i = (isBit x i || decide (i = k)) := by
  rw [isBit_bt _ (by omega), isBit_bt _ (by omega), b_or, bit_one hk hi]
theorem pZ20 {h : aH} (w : Wf h) (b : Bool) : pZ h 20 4 7 (b2 b) = some (sI h 20 7 (b2 b)) := by
  unfold pZ
  rw [k_20 w, Option.bind_some, bz_b2]
  rfl
theorem tenC' : ∀ v, v < 100 → nI v * (10 : Int32) = nI (v * 10) := by decide +kernel
theorem len1 (a : List Nat) (w : Nat) : (a ++ [w]).length = a.length + 1 := by simp
section STD
variable {s : CS} {h : aH}
theorem digit_C2 (r : CRel s h) (hl : (c_S s).length + (c_c s).length < 40) {ch : Nat} (hd : isd ch) : match stepC s ch with
    | some s' => ∃ h', fn_X5_standsAsDigit h 20 17 (nI (ch - 48)) = some (1, h') ∧ Fr rrC h h' ∧ CRel s' h' ∧ (c_S s').length + (c_c s').length ≤ (c_S s).length + (c_c s).length + 1
    | none => ∃ h', fn_X5_standsAsDigit h 20 17 (nI (ch - 48)) = some (0, h') ∧ Fr rrC h h' := by
  obtain ⟨sc1, ⟨f1, f2, f3, f4, f5, f6, f7, f8, f9⟩, cn⟩ := r
  have w := sc1.1
  have h57 := hd.2
  unfold stepC
  rw [if_pos hd]
  unfold fn_X5_standsAsDigit
  rw [w_gI w 20 4 7 rfl, Option.bind_some, f6]
  cases hw : c_w s with
  | true =>
    rw [if_pos rfl, if_neg (show ¬ b2 true = 0 by decide)]
    dsimp only
    have w1 : Wf (sI h 20 7 (b2 false)) := w
    have w2 : Wf (sI (sI h 20 7 (b2 false)) 20 5 1) := w
    have w3 : Wf (sI (sI (sI h 20 7 (b2 false)) 20 5 1) 20 6 (nI (ch - 48))) := w
    have s3 : SC (c_S s) (c_c s) (sI (sI (sI h 20 7 (b2 false)) 20 5 1) 20 6 (nI (ch - 48))) := ((sc1.set20 (by decide) _).set20 (by decide) _).set20 (by decide) _
    obtain ⟨h', e1, F1, S1, g1, -⟩ := addR_C s3 (by omega) (ch - 48)
    have q0 : pZ h 20 4 7 0 = some (sI h 20 7 (b2 false)) := pZ20 w false
    have g6 : hI (sI (sI (sI h 20 7 (b2 false)) 20 5 1) 20 6 (nI (ch - 48))) 20 6 = nI (ch - 48) := by rw [hI_row, if_pos rfl]
    refine ⟨h', ?_, (((Fr.refl rrC h).sI _ rfl).sI _ rfl).sI _ rfl |>.trans F1, ⟨S1, ⟨?_, f2, fun i hi => ?_, ?_, fun _ => ?_, ?_, by show 1 ≤ 3; decide, fun _ => by show ch - 48 < 10; omega, fun q => absurd q (show ¬ 1 = 2 by decide)⟩, fun _ q => ?_⟩, ?_⟩
    · simp only [q0, Option.bind_some, w_pI w1 20 4 5 _ rfl, w_pI w2 20 4 6 _ rfl, w_gI w3 20 4 6 rfl, g6, k_17 w3, e1]
    · rw [g1, hI_row, if_neg (by decide), hI_row, if_neg (by decide), hI_row, if_neg (by decide)]; exact f1
    · rw [g1, hI_row, if_neg (by decide), hI_row, if_neg (by decide), hI_row, if_neg (by decide)]; exact f3 i hi
    · rw [g1, hI_row, if_neg (by decide), hI_row, if_pos rfl]; rfl
    · rw [g1, hI_row, if_pos rfl]
    · rw [g1, hI_row, if_neg (by decide), hI_row, if_neg (by decide), hI_row, if_pos rfl]
    · exact absurd q (by show ¬ (c_c s ++ [ch - 48]) = []; simp)
    · show (c_S s).length + (c_c s ++ [ch - 48]).length ≤ _
      rw [len1]; omega
  | false =>
    rw [if_neg (by decide), if_pos (show b2 false = 0 from rfl), w_gI w 20 4 5 rfl, Option.bind_some, f4]
    by_cases c0 : c_d s = 0
    · rw [if_pos (Or.inl c0), if_pos (show nI (c_d s) = 0 by rw [c0]; rfl)]
      exact ⟨h, rfl, Fr.refl _ _⟩
    · rw [if_neg (show ¬ nI (c_d s) = 0 from fun q => c0 ((nI_eq (b := 0) (by omega) (by decide)).mp q)), Option.bind_some]
      by_cases c3 : c_d s = 3
      · rw [if_pos (Or.inr c3), if_pos (show nI (c_d s) = 3 by rw [c3]; rfl)]
        exact ⟨h, rfl, Fr.refl _ _⟩
      · rw [if_neg (by omega), if_neg (show ¬ nI (c_d s) = 3 from fun q => c3 ((nI_eq (b := 3) (by omega) (by decide)).mp q)), Option.bind_some]
        dsimp only
        have nb : c_n s < 100 := by
          rcases (show c_d s = 1 ∨ c_d s = 2 by omega) with q | q
          · have := f8 q; omega
          · exact f9 q
        have w5 : Wf (sI h 20 5 (nI (c_d s + 1))) := w
        have g6 : hI (sI h 20 5 (nI (c_d s + 1))) 20 6 = nI (c_n s) := by rw [hI_row, if_neg (by decide)]; exact f5 c0
        have w7 : Wf (sI (sI h 20 5 (nI (c_d s + 1))) 20 6 (nI (c_n s * 10 + (ch - 48)))) := w
        have g7 : hI (sI (sI h 20 5 (nI (c_d s + 1))) 20 6 (nI (c_n s * 10 + (ch - 48)))) 20 6 = nI (c_n s * 10 + (ch - 48)) := by rw [hI_row, if_pos rfl]
        have s7 : SC (c_S s) (c_c s) (sI (sI h 20 5 (nI (c_d s + 1))) 20 6 (nI (c_n s * 10 + (ch - 48)))) := (sc1.set20 (by decide) _).set20 (by decide) _
        obtain ⟨h', e1, F1, S1, g1⟩ := lastR_C s7 (by omega) (cn c0) (c_n s * 10 + (ch - 48))
        refine ⟨h', ?_, (((Fr.refl rrC h).sI _ rfl).sI _ rfl).trans F1, ⟨S1, ⟨?_, f2, fun i hi => ?_, ?_, fun _ => ?_, ?_, by show c_d s + 1 ≤ 3; omega, fun q => by have q : c_d s + 1 = 1 := q; omega, fun q => ?_⟩, fun _ q => ?_⟩, ?_⟩
        · simp only [nI_1, w_pI w 20 4 5 _ rfl, Option.bind_some, w_gI w5 20 4 6 rfl, g6, tenC' _ nb, nI_add, w_pI w5 20 4 6 _ rfl, w_gI w7 20 4 6 rfl, g7, k_17 w7, e1]
        · rw [g1, hI_row, if_neg (by decide), hI_row, if_neg (by decide)]; exact f1
        · rw [g1, hI_row, if_neg (by decide), hI_row, if_neg (by decide)]; exact f3 i hi
        · rw [g1, hI_row, if_neg (by decide), hI_row, if_pos rfl]
        · rw [g1, hI_row, if_pos rfl]
        · rw [g1, hI_row, if_neg (by decide), hI_row, if_neg (by decide), f6, hw]
        · have q : c_d s + 1 = 2 := q
          have := f8 (by omega)
          show c_n s * 10 + (ch - 48) < 100
          omega
        · exact absurd q (by show ¬ ((c_c s).dropLast ++ [c_n s * 10 + (ch - 48)]) = []; simp)
        · show (c_S s).length + ((c_c s).dropLast ++ [c_n s * 10 + (ch - 48)]).length ≤ _
          rw [len1, List.length_dropLast]
          omega
theorem thing_C2 (h : aH) : ∀ c, c < 256 → fn_X5_thingOf h (nI c) = some (match ltr c with | some k => nI k | none => -1) := by
  intro c hc
  have : ∀ c, c < 256 → fn_X5_thingOf ([], fun _ _ => 0, fun _ _ => 0, fun _ _ => none) (nI c) = some (match ltr c with | some k => nI k | none => -1) := by decide +kernel
  exact this c hc
/-- ahead of a thing -/
theorem ahead_C2 (r : CRel s h) (hd0 : c_d s = 0) (hl : (c_S s).length + (c_c s).length < 40) (hw : c_w s = true) {ch : Nat} (hc : ch < 256) (hd : ¬ isd ch) : match stepC s ch with
    | some s' => ∃ h', fn_X5_standsAheadOfThing h 20 17 (nI ch) = some (1, h') ∧ Fr rrC h h' ∧ CRel s' h' ∧ (c_S s').length + (c_c s').length ≤ (c_S s).length + (c_c s).length + 1
    | none => ∃ h', fn_X5_standsAheadOfThing h 20 17 (nI ch) = some (0, h') ∧ Fr rrC h h' := by
  obtain ⟨sc1, cf, cn⟩ := r
  have cf0 := cf
  obtain ⟨f1, f2, f3, f4, f5, f6, f7, f8, f9⟩ := cf0
  have w := sc1.1
  rw [hd0] at cf
  have e45 : nI ch = 45 ↔ ch = 45 := eqc hc 45 (by decide)
  have e40 : nI ch = 40 ↔ ch = 40 := eqc hc 40 (by decide)
  unfold stepC
  rw [if_neg hd, if_pos hw]
  unfold fn_X5_standsAheadOfThing
  by_cases c1 : ch = 45
  · rw [if_pos c1, if_pos (e45.mpr c1), k_20 w, Option.bind_some]
    dsimp only
    obtain ⟨h', e1, F1, S1, g1⟩ := hold_C sc1 (by omega) (w := 3000) (by decide)
    have e1' : fn_X5_hold h 20 3000 = some h' := e1
    have cf' := cf.to g1
    rw [hw] at cf'
    obtain ⟨z1, z2, z3, z4, -, z6, z7⟩ := cf'
    refine ⟨h', by rw [e1']; rfl, F1, ⟨S1, ⟨z1, z2, z3, z4, fun q => absurd rfl q, z6, z7.1, fun q => (by cases q), fun q => (by cases q)⟩, fun q => absurd rfl q⟩, ?_⟩
    show (3000 :: c_S s).length + (c_c s).length ≤ _
    rw [List.length_cons]; omega
  · rw [if_neg c1, if_neg (fun q => c1 (e45.mp q))]
    by_cases c2 : ch = 40
    · rw [if_pos c2, if_pos (e40.mpr c2), k_20 w, Option.bind_some]
      unfold fn_X5_opens
      rw [w_gI w 20 4 3 rfl, Option.bind_some, f1]
      by_cases c3 : c_o s = 4
      · rw [if_pos c3, if_pos (show nI (c_o s) = 4 by rw [c3]; rfl)]
        exact ⟨h, rfl, Fr.refl _ _⟩
      · rw [if_neg c3, if_neg (show ¬ nI (c_o s) = 4 from fun q => c3 ((nI_eq (b := 4) (by omega) (by decide)).mp q))]
        dsimp only
        have w3 : Wf (sI h 20 3 (nI (c_o s + 1))) := w
        have g4 : hI (sI h 20 3 (nI (c_o s + 1))) 20 4 = hI h 20 4 := by rw [hI_row, if_neg (by decide)]
        have g3 : hI (sI h 20 3 (nI (c_o s + 1))) 20 3 = nI (c_o s + 1) := by rw [hI_row, if_pos rfl]
        have w6 : Wf (sI (sI h 20 3 (nI (c_o s + 1))) 20 4 (hI h 20 4 &&& (bitI (c_o s + 1) ^^^ (-1)))) := w
        have s6 : SC (c_S s) (c_c s) (sI (sI h 20 3 (nI (c_o s + 1))) 20 4 (hI h 20 4 &&& (bitI (c_o s + 1) ^^^ (-1)))) := (sc1.set20 (by decide) _).set20 (by decide) _
        obtain ⟨h', e1, F1, S1, g1⟩ := hold_C s6 (by omega) (w := 2040) (by decide)
        have e1' : fn_X5_hold (sI (sI h 20 3 (nI (c_o s + 1))) 20 4 (hI h 20 4 &&& (bitI (c_o s + 1) ^^^ (-1)))) 20 2040 = some h' := e1
        refine ⟨h', ?_, (((Fr.refl rrC h).sI _ rfl).sI _ rfl).trans F1, ⟨S1, ⟨?_, by show c_o s + 1 ≤ 4; omega, fun i hi => ?_, ?_, fun q => absurd rfl q, ?_, by show 0 ≤ 3; decide, fun q => (by cases q), fun q => (by cases q)⟩, fun q => absurd rfl q⟩, by show (2040 :: c_S s).length + (c_c s).length ≤ _; rw [List.length_cons]; omega⟩
        · have bb : (1 : Int32) <<< (nI (c_o s + 1) &&& 31) = bitI (c_o s + 1) := rfl
          simp only [Option.bind_some, nI_1, w_pI w 20 4 3 _ rfl, w_gI w3 20 4 4 rfl, g4, w_gI w3 20 4 3 rfl, g3, bb, w_pI w3 20 4 4 _ rfl, k_20 w6, e1']
          rfl
        · rw [g1 3 (by decide), hI_row, if_neg (by decide), g3]
        · rw [g1 4 (by decide), hI_row, if_pos rfl, bit_clr _ (by omega) hi, f3 i hi]
          show _ = va_up (c_p s) (c_o s + 1) false i
          unfold va_up
          by_cases q : i = c_o s + 1
          · rw [if_pos q]; simp [q]
          · rw [if_neg q]; simp [q]
        · rw [g1 5 (by decide), hI_row, if_neg (by decide), hI_row, if_neg (by decide), f4, hd0]
        · rw [g1 7 (by decide), hI_row, if_neg (by decide), hI_row, if_neg (by decide), f6, hw]
    · rw [if_neg c2, if_neg (fun q => c2 (e40.mp q)), thing_C2 h ch hc, Option.bind_some]
      cases e : ltr ch with
      | none => exact ⟨h, by rw [if_pos rfl], Fr.refl _ _⟩
      | some k =>
        obtain ⟨-, -, -, k7⟩ := ltr_n k _ e
        dsimp only
        rw [if_neg (nI_m1 (by omega)), Option.bind_some]
        dsimp only
        obtain ⟨h', e1, F1, S1, g1, -⟩ := addR_C sc1 (by omega) (1000 + k)
        have ek : (1000 : Int32) + nI k = nI (1000 + k) := nI_add 1000 k
        have w' := S1.1
        have q0 : pZ h' 20 4 7 0 = some (sI h' 20 7 (b2 false)) := pZ20 w' false
        refine ⟨sI h' 20 7 (b2 false), ?_, F1.sI _ rfl, ⟨S1.set20 (by decide) _, ⟨?_, f2, fun i hi => ?_, ?_, fun q => absurd rfl q, ?_, by show 0 ≤ 3; decide, fun q => (by cases q), fun q => (by cases q)⟩, fun q => absurd rfl q⟩, by show (c_S s).length + (c_c s ++ [1000 + k]).length ≤ _; rw [len1]; omega⟩
        · simp only [k_17 w, Option.bind_some, ek, e1, q0]
        · rw [hI_row, if_neg (by decide), g1]; exact f1
        · rw [hI_row, if_neg (by decide), g1]; exact f3 i hi
        · rw [hI_row, if_neg (by decide), g1, f4, hd0]
        · rw [hI_row, if_pos rfl]
end STD
