/-! a rule: the class's reading, sign by sign, on its cells -/
def SA (f : Nat → Int32) : List Nat → Prop
  | [] => True
  | w :: R => f R.length = nI w ∧ SA f R
theorem SA_up {f : Nat → Int32} {k : Nat} {v : Int32} : ∀ S : List Nat, S.length ≤ k → SA f S → SA (va_up f k v) S
  | [], _, _ => trivial
  | w :: R, h, ⟨h1, h2⟩ => by
    have h : R.length + 1 ≤ k := h
    refine ⟨?_, SA_up R (by omega) h2⟩
    unfold va_up
    rw [if_neg (by omega)]; exact h1
def CA (f : Nat → Int32) (c : List Nat) : Prop := ∀ i, i < c.length → f i = nI (c.getD i 0)
theorem CA.app {f : Nat → Int32} {c : List Nat} (h : CA f c) (w : Nat) : CA (va_up f c.length (nI w)) (c ++ [w]) := by
  intro i hi
  have hi : i < c.length + 1 := by simpa using hi
  unfold va_up
  rw [List.getD_eq_getElem?_getD]
  by_cases e : i = c.length
  · rw [if_pos e, e]; simp
  · rw [if_neg e, List.getElem?_append_left (by omega), ← List.getD_eq_getElem?_getD]
    exact h i (by omega)
theorem len_pos {c : List Nat} (hc : c ≠ []) : 0 < c.length := by
  cases c with
  | nil => exact absurd rfl hc
  | cons a b => simp
theorem CA.last {f : Nat → Int32} {c : List Nat} (h : CA f c) (hc : c ≠ []) (w : Nat) : CA (va_up f (c.length - 1) (nI w)) (c.dropLast ++ [w]) := by
  have hl : 0 < c.length := len_pos hc
  intro i hi
  have hi : i < c.length := by
    have : i < c.dropLast.length + 1 := by simpa using hi
    rw [List.length_dropLast] at this
    omega
  unfold va_up
  rw [List.getD_eq_getElem?_getD]
  by_cases e : i = c.length - 1
  · have : c.dropLast.length = i := by rw [List.length_dropLast]; omega
    rw [if_pos e, ← this]; simp
  · rw [if_neg e, List.getElem?_append_left (by rw [List.length_dropLast]; omega), List.getElem?_dropLast, if_pos (by omega), ← List.getD_eq_getElem?_getD]
    exact h i hi
def SC (S c : List Nat) (h : aH) : Prop := Wf h ∧ hI h 20 2 = nI S.length ∧ SA (hI h 21) S ∧ hI h 17 2 = nI c.length ∧ CA (hI h 18) c ∧ ∀ w, w ∈ S → w < 4000
def rrC (a j : Nat) : Bool := a == 20 || (a == 21 || ((a == 17 && j == 2) || a == 18))
theorem rrC_sc (a j : Nat) (e : sc a j = false) : rrC a j = false := by
  unfold sc at e; unfold rrC; simp at e ⊢; omega
section RC2
variable {S c : List Nat} {h : aH}
theorem SC.set20 (s : SC S c h) {j : Nat} (hj : j ≠ 2) (v : Int32) : SC S c (sI h 20 j v) := by
  obtain ⟨s1, s2, s3, s4, s5, s6⟩ := s
  exact ⟨s1, by rw [hI_row, if_neg (fun q => hj q.symm)]; exact s2, s3, s4, s5, s6⟩
theorem hold_C (s : SC S c h) (hl : S.length < 40) {w : Nat} (hw : w < 4000) : ∃ h', fn_X5_hold h 20 (nI w) = some h' ∧ Fr rrC h h' ∧ SC (w :: S) c h' ∧ ∀ j, j ≠ 2 → hI h' 20 j = hI h 20 j := by
  obtain ⟨s1, s2, s3, s4, s5, s6⟩ := s
  have w4 : Wf (sI h 21 S.length (nI w)) := s1
  have g4 : hI (sI h 21 S.length (nI w)) 20 2 = nI S.length := s2
  refine ⟨sI (sI h 21 S.length (nI w)) 20 2 (nI (S.length + 1)), ?_, ((Fr.refl _ _).sI _ rfl).sI _ rfl, ⟨s1, by rw [hI_row, if_pos rfl]; rfl, ⟨?_, ?_⟩, s4, s5, fun u hu => ?_⟩, fun j hj => ?_⟩
  · unfold fn_X5_hold
    simp only [w_gI s1 20 4 2 rfl, s2, Option.bind_some, if_pos (show nI S.length < 40 from nI_lt (b := 40) hl (by decide)), g_20_1 s1, wI_eq s1 21 40 rfl S.length hl (by decide), w_gI w4 20 4 2 rfl, g4, nI_1, w_pI w4 20 4 2 _ rfl]
  · show va_up (hI h 21) S.length (nI w) S.length = nI w
    unfold va_up; rw [if_pos rfl]
  · exact SA_up S (Nat.le_refl _) s3
  · rcases List.mem_cons.mp hu with e | e
    · rw [e]; exact hw
    · exact s6 u e
  · rw [hI_row, if_neg hj]
    rfl
theorem addR_C (s : SC S c h) (hl : c.length < 40) (w : Nat) : ∃ h', fn_X4_add h 17 (nI w) = some h' ∧ Fr rrC h h' ∧ SC S (c ++ [w]) h' ∧ hI h' 20 = hI h 20 ∧ hI h' 21 = hI h 21 := by
  obtain ⟨s1, s2, s3, s4, s5, s6⟩ := s
  have w4 : Wf (sI h 18 c.length (nI w)) := s1
  have g4 : hI (sI h 18 c.length (nI w)) 17 2 = nI c.length := s4
  refine ⟨sI (sI h 18 c.length (nI w)) 17 2 (nI (c.length + 1)), ?_, ((Fr.refl _ _).sI _ rfl).sI _ rfl, ⟨s1, s2, s3, by rw [hI_row, if_pos rfl]; simp, s5.app w, s6⟩, rfl, rfl⟩
  unfold fn_X4_add
  simp only [w_gI s1 17 3 2 rfl, s4, Option.bind_some, if_pos (show nI c.length < 40 from nI_lt (b := 40) hl (by decide)), g_17_0 s1, wI_eq s1 18 40 rfl c.length hl (by decide), w_gI w4 17 3 2 rfl, g4, nI_1, w_pI w4 17 3 2 _ rfl]
theorem lastR_C (s : SC S c h) (hl : c.length ≤ 40) (hc : c ≠ []) (w : Nat) : ∃ h', fn_X4_changeLast h 17 (nI w) = some h' ∧ Fr rrC h h' ∧ SC S (c.dropLast ++ [w]) h' ∧ hI h' 20 = hI h 20 := by
  obtain ⟨s1, s2, s3, s4, s5, s6⟩ := s
  have hp : 0 < c.length := len_pos hc
  refine ⟨sI h 18 (c.length - 1) (nI w), ?_, (Fr.refl _ _).sI _ rfl, ⟨s1, s2, s3, ?_, s5.last hc w, s6⟩, rfl⟩
  · unfold fn_X4_changeLast
    simp only [w_gI s1 17 3 2 rfl, s4, Option.bind_some, if_neg (show ¬ nI c.length ≤ 0 from nI_ge (a := 0) hp (by omega)), g_17_0 s1, nI_sub1 hp, wI_eq s1 18 40 rfl (c.length - 1) (by omega) (by decide)]
  · show hI h 17 2 = _
    rw [s4]
    congr 1
    simp
    omega
def BI (x : Int32) : Int32 := if x = 2042 then 3 else if x = 2043 then 2 else if x = 2045 then 2 else if x = 2047 then 3 else if x = 2060 then 1 else if x = 2061 then 1 else if x = 2062 then 1 else if x = 3000 then 4 else 0
theorem bindR_C (h : aH) {w : Nat} (hw : w < 4000) : fn_X5_bindingOf h (nI w) = some (nI (bnd w)) := by
  have e0 : fn_X5_bindingOf h (nI w) = some (BI (nI w)) := ite_some (ite_some (ite_some (ite_some (ite_some (ite_some (ite_some (ite_some rfl)))))))
  rw [e0]
  congr 1
  have k : ∀ b, b < 4000 → (nI w = nI b ↔ w = b) := fun b hb => nI_eq (by omega) (by omega)
  have k1 : nI w = 2042 ↔ w = 2042 := k 2042 (by decide)
  have k2 : nI w = 2043 ↔ w = 2043 := k 2043 (by decide)
  have k3 : nI w = 2045 ↔ w = 2045 := k 2045 (by decide)
  have k4 : nI w = 2047 ↔ w = 2047 := k 2047 (by decide)
  have k5 : nI w = 2060 ↔ w = 2060 := k 2060 (by decide)
  have k6 : nI w = 2061 ↔ w = 2061 := k 2061 (by decide)
  have k7 : nI w = 2062 ↔ w = 2062 := k 2062 (by decide)
  have k8 : nI w = 3000 ↔ w = 3000 := k 3000 (by decide)
  unfold BI bnd
  simp only [k1, k2, k3, k4, k5, k6, k7, k8]
  by_cases c1 : w = 2042
  · rw [if_pos c1, if_pos c1]; rfl
  rw [if_neg c1, if_neg c1]
  by_cases c2 : w = 2043
  · rw [if_pos c2, if_pos c2]; rfl
  rw [if_neg c2, if_neg c2]
  by_cases c3 : w = 2045
  · rw [if_pos c3, if_pos c3]; rfl
  rw [if_neg c3, if_neg c3]
  by_cases c4 : w = 2047
  · rw [if_pos c4, if_pos c4]; rfl
  rw [if_neg c4, if_neg c4]
  by_cases c5 : w = 2060
  · rw [if_pos c5, if_pos c5]; rfl
  rw [if_neg c5, if_neg c5]
  by_cases c6 : w = 2061
  · rw [if_pos c6, if_pos c6]; rfl
  rw [if_neg c6, if_neg c6]
  by_cases c7 : w = 2062
  · rw [if_pos c7, if_pos c7]; rfl
  rw [if_neg c7, if_neg c7]
  by_cases c8 : w = 3000
  · rw [if_pos c8, if_pos c8]; rfl
  rw [if_neg c8, if_neg c8]; rfl
theorem bnd_le (w : Nat) : bnd w ≤ 4 := by
  unfold bnd
  repeat (first | omega | split)
theorem setl_len (b : Nat) : ∀ S c : List Nat, (setl b S c).1.length + (setl b S c).2.length = S.length + c.length
  | [], c => rfl
  | w :: R, c => by
    by_cases q : bnd w < b
    · have e : setl b (w :: R) c = (w :: R, c) := by show (if bnd w < b then _ else _) = _; rw [if_pos q]
      rw [e]
    · rw [setl_pop q, setl_len b R (c ++ [w])]
      simp
      omega
theorem settle_lp {b : Nat} (hb : b ≤ 4) : ∀ (S c : List Nat) (h : aH) (M : Nat), S.length < M → SC S c h → S.length + c.length ≤ 40 → ∃ h', lp (lb_X5_settle_0 20 17 (nI b)) M h = some h' ∧ Fr rrC h h' ∧ SC (setl b S c).1 (setl b S c).2 h' ∧ ∀ j, j ≠ 2 → hI h' 20 j = hI h 20 j
  | [], c, h, M, hM, s, hl => by
    obtain ⟨M, rfl⟩ : ∃ k, M = k + 1 := ⟨M - 1, by omega⟩
    refine ⟨h, ?_, Fr.refl _ _, s, fun _ _ => rfl⟩
    have e : lb_X5_settle_0 20 17 (nI b) h = some (.inr h) := by
      unfold lb_X5_settle_0
      simp only [w_gI s.1 20 4 2 rfl, s.2.1, Option.bind_some]
      rw [if_pos (show nI ([] : List Nat).length ≤ 0 by decide)]
    simp only [lp, e]
  | w :: R, c, h, M, hM, s, hl => by
    have hl : R.length + 1 + c.length ≤ 40 := hl
    have hM : R.length + 1 < M := hM
    obtain ⟨M, rfl⟩ : ∃ k, M = k + 1 := ⟨M - 1, by omega⟩
    have s0 := s
    obtain ⟨s1, s2, ⟨s31, s32⟩, s4, s5, s6⟩ := s0
    have s2 : hI h 20 2 = nI (R.length + 1) := s2
    have hw := s6 w (List.mem_cons_self ..)
    have bl := bnd_le w
    have rs : nI (R.length + 1) - 1 = nI R.length := by rw [nI_sub1 (by omega), Nat.add_sub_cancel]
    have a21 : aI h 21 14 (nI R.length) = some (nI w) := by rw [aI_eq s1 21 14 40 rfl R.length (by omega) (by decide), s31]
    by_cases q : bnd w < b
    · have e1 : setl b (w :: R) c = (w :: R, c) := by show (if bnd w < b then _ else _) = _; rw [if_pos q]
      rw [e1]
      refine ⟨h, ?_, Fr.refl _ _, s, fun _ _ => rfl⟩
      have e : lb_X5_settle_0 20 17 (nI b) h = some (.inr h) := by
        unfold lb_X5_settle_0
        simp only [w_gI s1 20 4 2 rfl, s2, Option.bind_some, g_20_1 s1, rs, a21, bindR_C h hw]
        rw [if_neg (show ¬ nI (R.length + 1) ≤ 0 from nI_ge (a := 0) (by omega) (by omega)), if_pos (nI_lt q (by omega))]
      simp only [lp, e]
    · rw [setl_pop q]
      have w7 : Wf (sI h 20 2 (nI R.length)) := s1
      have s7 : SC R c (sI h 20 2 (nI R.length)) := ⟨s1, by rw [hI_row, if_pos rfl], s32, s4, s5, fun u hu => s6 u (List.mem_cons_of_mem _ hu)⟩
      obtain ⟨h12, e12, F12, S12, g20, g21⟩ := addR_C s7 (by omega) w
      obtain ⟨h', e', F', S', g'⟩ := settle_lp hb R (c ++ [w]) h12 M (by omega) S12 (by simp; omega)
      refine ⟨h', ?_, ((Fr.refl rrC h).sI (a := 20) (j := 2) (nI R.length) rfl).trans (F12.trans F'), S', fun j hj => ?_⟩
      · have e : lb_X5_settle_0 20 17 (nI b) h = some (.inl h12) := by
          unfold lb_X5_settle_0
          have a21' : aI (sI h 20 2 (nI R.length)) 21 14 (nI R.length) = some (nI w) := by rw [aI_eq w7 21 14 40 rfl R.length (by omega) (by decide)]; exact congrArg some s31
          have g7 : hI (sI h 20 2 (nI R.length)) 20 2 = nI R.length := by rw [hI_row, if_pos rfl]
          simp only [w_gI s1 20 4 2 rfl, s2, Option.bind_some, g_20_1 s1, rs, a21, bindR_C h hw]
          rw [if_neg (show ¬ nI (R.length + 1) ≤ 0 from nI_ge (a := 0) (by omega) (by omega)), if_neg (nI_nlt (by omega) (by omega))]
          simp only [w_pI s1 20 4 2 _ rfl, Option.bind_some, g_20_1 w7, w_gI w7 20 4 2 rfl, g7, a21', k_17 w7, e12]
        simp only [lp, e]
        exact e'
      · rw [g' j hj, g20, hI_row, if_neg hj]
theorem settle_C {b : Nat} (hb : b ≤ 4) (s : SC S c h) (hl : S.length + c.length ≤ 40) : ∃ h', fn_X5_settle h 20 17 (nI b) = some h' ∧ Fr rrC h h' ∧ SC (setl b S c).1 (setl b S c).2 h' ∧ ∀ j, j ≠ 2 → hI h' 20 j = hI h 20 j := by
  obtain ⟨h', e, F, S', g⟩ := settle_lp hb S c h lpN (by show _ < 2000; omega) s hl
  refine ⟨h', ?_, F, S', g⟩
  unfold fn_X5_settle
  rw [e]
  rfl
end RC2
