/-! reading a text: the class by places, the reference by a place that moves -/
def sg (T : Nat → Nat) (n i : Nat) : Int32 := if i < n then nI (T i) else -1
def TxC (T : Nat → Nat) (n : Nat) (h : aH) : Prop := n ≤ 80 ∧ hI h 1 1 = nI n ∧ ∀ i, i < n → T i < 256 ∧ hI h 2 i = nI (T i)
theorem at_C {T : Nat → Nat} {n : Nat} {h : aH} (w : Wf h) (t : TxC T n h) {i : Nat} (hi : i < 1000) : fn_X8_at h 1 (nI i) = some (sg T n i) := by
  obtain ⟨t1, t2, t3⟩ := t
  unfold fn_X8_at sg
  rw [if_neg (nI_pos (by omega)), w_gI w 1 7 1 rfl, Option.bind_some, t2]
  by_cases c : i < n
  · rw [if_pos (nI_lt c (by omega)), if_pos c, g_1_0 w, Option.bind_some, aI_eq w 2 13 80 rfl i (by omega) (by decide), (t3 i c).2, Option.bind_some]
  · rw [if_neg (nI_nlt (by omega) (by omega)), if_neg c]
def isDg (T : Nat → Nat) (n i : Nat) : Bool := decide (i < n ∧ 48 ≤ T i ∧ T i ≤ 57)
def dg (T : Nat → Nat) (n i : Nat) : Nat := if isDg T n i = true then T i - 48 else 0
theorem dg_le (T : Nat → Nat) (n i : Nat) : dg T n i ≤ 9 := by
  unfold dg isDg
  split
  · rename_i h; simp at h; omega
  · omega
theorem isDigit_C {T : Nat → Nat} {n : Nat} {h : aH} (w : Wf h) (t : TxC T n h) {i : Nat} (hi : i < 1000) : fn_X8_isDigit h 1 (nI i) = some (b2 (isDg T n i)) := by
  unfold fn_X8_isDigit
  rw [k_1 w, Option.bind_some, at_C w t hi, Option.bind_some]
  unfold sg isDg
  by_cases c : i < n
  · have l := (t.2.2 i c).1
    rw [if_pos c]
    by_cases c1 : T i < 48
    · rw [if_pos (show nI (T i) < 48 from nI_lt (b := 48) c1 (by decide)), decide_eq_false (by omega)]; rfl
    · rw [if_neg (show ¬ nI (T i) < 48 from nI_nlt (b := 48) (by omega) (by omega))]
      by_cases c2 : T i ≤ 57
      · rw [if_pos (show nI (T i) ≤ 57 from nI_le (b := 57) c2 (by decide)), decide_eq_true (by omega)]; rfl
      · rw [if_neg (show ¬ nI (T i) ≤ 57 from nI_ge (a := 57) (by omega) (by omega)), decide_eq_false (by omega)]; rfl
  · rw [if_neg c, if_pos (by decide), decide_eq_false (by omega)]; rfl
theorem digit_C {T : Nat → Nat} {n : Nat} {h : aH} (w : Wf h) (t : TxC T n h) {i : Nat} (hi : i < 1000) : fn_X8_digit h 1 (nI i) = some (nI (dg T n i)) := by
  unfold fn_X8_digit dg
  rw [k_1 w, Option.bind_some, isDigit_C w t hi, Option.bind_some]
  cases e : isDg T n i with
  | false => rfl
  | true =>
    have e' := e
    unfold isDg at e'
    simp at e'
    rw [if_neg (by decide), Option.bind_some, at_C w t hi, Option.bind_some, if_pos rfl]
    unfold sg
    rw [if_pos e'.1, show (48 : Int32) = nI 48 from rfl, nI_sub e'.2.1]
/-- the reference's reading -/
def wrI (o : Option Nat) : Int32 := match o with
  | none => -1
  | some p => nI p
def RD (a : Nat) (T : Nat → Nat) (n top at' : Nat) (wr : Option Nat) (h : aH) : Prop :=
  Wf h ∧ hR h 86 12 = some a ∧ hI h 86 13 = nI n ∧ hI h 86 14 = nI top ∧ hI h 86 15 = nI at' ∧ hI h 86 16 = wrI wr ∧ n ≤ 80 ∧ top ≤ 80 ∧ at' ≤ 500 ∧ (∀ p, wr = some p → p ≤ 500) ∧ (∃ na, SH[a]? = some (12, na) ∧ n ≤ na ∧ na ≤ 80) ∧ a ≠ 86 ∧ ∀ i, i < n → T i < 256 ∧ hI h a i &&& 255 = nI (T i) ∧ (T i < 128 → hI h a i = nI (T i))
def rdS (a j : Nat) : Bool := a == 86 && (j == 15 || j == 16)
theorem gR_86 {h : aH} (w : Wf h) {j v : Nat} (e : hR h 86 j = some v) : gR h 86 11 j = some v := by
  unfold gR
  rw [k_86 w]
  exact e
theorem fine_M {a : Nat} {T : Nat → Nat} {n top p : Nat} {wr : Option Nat} {h : aH} (r : RD a T n top p wr h) : fn_X12_fine h 86 = some (b2 wr.isNone) := by
  unfold fn_X12_fine
  rw [w_gI r.1 86 11 16 rfl, Option.bind_some, r.2.2.2.2.2.1]
  cases wr with
  | none => rfl
  | some q =>
    have := r.2.2.2.2.2.2.2.2.2.1 q rfl
    show (if nI q = -1 then some 1 else some 0) = some 0
    rw [if_neg (nI_m1 (by omega))]
theorem here_M {a : Nat} {T : Nat → Nat} {n top p : Nat} {wr : Option Nat} {h : aH} (r : RD a T n top p wr h) : fn_X12_here h 86 = some (sg T (min n top) p) := by
  obtain ⟨w, r1, r2, r3, r4, r5, r6, r7, r8, r9, ⟨na, ra, rb, rc⟩, r10, r11⟩ := r
  unfold fn_X12_here sg
  rw [w_gI w 86 11 15 rfl, Option.bind_some, w_gI w 86 11 13 rfl, Option.bind_some, r4, r2]
  by_cases c : p < n
  · rw [if_pos (nI_lt c (by omega)), Option.bind_some, w_gI w 86 11 14 rfl, Option.bind_some, r3]
    by_cases c2 : p < top
    · rw [if_pos (nI_lt c2 (by omega)), if_pos (by omega), gR_86 w r1, Option.bind_some, Option.bind_some, aI_eq w a 12 na ra p (by omega) (by omega), Option.bind_some, (r11 p c).2.1]
    · rw [if_neg (nI_nlt (by omega) (by omega)), if_neg (by omega)]
  · rw [if_neg (nI_nlt (by omega) (by omega)), if_neg (by omega)]
theorem RD.at {a : Nat} {T : Nat → Nat} {n top p : Nat} {wr : Option Nat} {h : aH} (r : RD a T n top p wr h) {q : Nat} (hq : q ≤ 500) : RD a T n top q wr (sI h 86 15 (nI q)) := by
  obtain ⟨w, r1, r2, r3, r4, r5, r6, r7, r8, r9, ra, r10, r11⟩ := r
  refine ⟨w, r1, ?_, ?_, ?_, ?_, r6, r7, hq, r9, ra, r10, fun i hi => ?_⟩
  · rw [hI_sI]; simp [r2]
  · rw [hI_sI]; simp [r3]
  · rw [hI_sI]; simp
  · rw [hI_sI]; simp [r5]
  · rw [hI_sI_r, if_neg r10]; exact r11 i hi
theorem RD.wrong {a : Nat} {T : Nat → Nat} {n top p : Nat} {wr : Option Nat} {h : aH} (r : RD a T n top p wr h) {q : Nat} (hq : q ≤ 500) : RD a T n top p (some q) (sI h 86 16 (nI q)) := by
  obtain ⟨w, r1, r2, r3, r4, r5, r6, r7, r8, r9, ra, r10, r11⟩ := r
  refine ⟨w, r1, ?_, ?_, ?_, ?_, r6, r7, r8, fun s e => ?_, ra, r10, fun i hi => ?_⟩
  · rw [hI_sI]; simp [r2]
  · rw [hI_sI]; simp [r3]
  · rw [hI_sI]; simp [r4]
  · rw [hI_sI]; simp [wrI]
  · cases e; exact hq
  · rw [hI_sI_r, if_neg r10]; exact r11 i hi
theorem RD.to {S : Nat → Nat → Bool} {a : Nat} {T : Nat → Nat} {n top p : Nat} {wr : Option Nat} {h h1 : aH} (r : RD a T n top p wr h) (f : Fr S h h1) (e1 : ∀ j, 12 ≤ j → j < 17 → S 86 j = false) (e2 : ∀ j, S a j = false) : RD a T n top p wr h1 := by
  obtain ⟨w, r1, r2, r3, r4, r5, r6, r7, r8, r9, ra, r10, r11⟩ := r
  refine ⟨f.wf w, (f.r 86 12 (Or.inl (e1 _ (by omega) (by omega)))).trans r1, (f.i 86 13 (e1 _ (by omega) (by omega))).trans r2, (f.i 86 14 (e1 _ (by omega) (by omega))).trans r3, (f.i 86 15 (e1 _ (by omega) (by omega))).trans r4, (f.i 86 16 (e1 _ (by omega) (by omega))).trans r5, r6, r7, r8, r9, ra, r10, fun i hi => ?_⟩
  rw [f.i a i (e2 i)]; exact r11 i hi
def flt (wr : Option Nat) (p : Nat) : Option Nat := match wr with
  | none => some p
  | some q => some q
theorem fault_M {a : Nat} {T : Nat → Nat} {n top p : Nat} {wr : Option Nat} {h : aH} (r : RD a T n top p wr h) {q : Nat} (hq : q ≤ 500) : ∃ h', fn_X12_fault h 86 (nI q) = some h' ∧ RD a T n top p (flt wr q) h' ∧ Fr rdS h h' := by
  unfold fn_X12_fault
  rw [k_86 r.1, Option.bind_some, fine_M r, Option.bind_some]
  cases wr with
  | none =>
    refine ⟨sI h 86 16 (nI q), ?_, r.wrong hq, (Fr.refl _ h).sI _ rfl⟩
    rw [if_neg (by decide), w_pI r.1 86 11 16 _ rfl, Option.bind_some]
  | some s => exact ⟨h, by rw [if_pos (by rfl)], r, Fr.refl _ h⟩
/-- one of many signs -/
theorem oneOf_M {a : Nat} {T : Nat → Nat} {n top p : Nat} {wr : Option Nat} {h : aH} (r : RD a T n top p wr h) {f m : Nat} (hf : f + m ≤ 128) (hp : p < 400) (hm : 1 ≤ m) : ∃ h' v, fn_X12_oneOf h 86 (nI f) (nI m) = some (nI v, h') ∧ Fr rdS h h' ∧
    ((wr = none ∧ p < min n top ∧ f ≤ T p ∧ T p < f + m ∧ v = T p - f ∧ RD a T n top (p + 1) none h') ∨ (wr = none ∧ ¬ (p < min n top ∧ f ≤ T p ∧ T p < f + m) ∧ v = 0 ∧ RD a T n top p (some p) h') ∨ (wr ≠ none ∧ v = 0 ∧ h' = h)) := by
  have w := r.1
  unfold fn_X12_oneOf
  rw [k_86 w, Option.bind_some, fine_M r, Option.bind_some]
  cases wr with
  | some s => exact ⟨h, 0, by rw [if_pos (by rfl)]; rfl, Fr.refl _ h, Or.inr (Or.inr ⟨by simp, rfl, rfl⟩)⟩
  | none =>
    have lim : nI f + nI m - 1 = nI (f + m - 1) := by
      obtain ⟨m', rfl⟩ : ∃ m', m = m' + 1 := ⟨m - 1, by omega⟩
      rw [nI_add, show f + (m' + 1) = (f + m') + 1 by omega, nI_pred]
      rfl
    rw [if_neg (by decide), Option.bind_some, here_M r, Option.bind_some, in_eq, Option.bind_some, lim]
    by_cases c : p < min n top ∧ f ≤ T p ∧ T p < f + m
    · have e : sg T (min n top) p = nI (T p) := if_pos c.1
      obtain ⟨-, q2, q3⟩ := r.2.2.2.2.2.2.2.2.2.2.2.2 p (by omega)
      have r' := r.at (q := p + 1) (by omega)
      have w' := r'.1
      obtain ⟨na, ra, rb, rc⟩ := r.2.2.2.2.2.2.2.2.2.2.1
      refine ⟨sI h 86 15 (nI (p + 1)), T p - f, ?_, (Fr.refl _ h).sI _ rfl, Or.inl ⟨rfl, c.1, c.2.1, c.2.2, rfl, r'⟩⟩
      rw [e, if_neg (nI_nlt c.2.1 (by omega)), if_pos (nI_le (by omega) (by omega)), if_neg one0, w_gI w 86 11 15 rfl, Option.bind_some, r.2.2.2.2.1, nI_1, w_pI w 86 11 15 _ rfl, Option.bind_some, gR_86 w' r'.2.1, Option.bind_some, w_gI w' 86 11 15 rfl, Option.bind_some, r'.2.2.2.2.1, nI_pred, aI_eq w' a 12 na ra p (by omega) (by omega), Option.bind_some, hI_sI_r, if_neg r.2.2.2.2.2.2.2.2.2.2.2.1, q3 (by omega), nI_sub c.2.1]
    · obtain ⟨h', g1, g2, g3⟩ := fault_M r (q := p) (by omega)
      refine ⟨h', 0, ?_, g3, Or.inr (Or.inl ⟨rfl, c, rfl, g2⟩)⟩
      have z : (if sg T (min n top) p < nI f then (0 : Int32) else if sg T (min n top) p ≤ nI (f + m - 1) then 1 else 0) = 0 := by
        unfold sg
        by_cases c1 : p < min n top
        · rw [if_pos c1]
          have l := (r.2.2.2.2.2.2.2.2.2.2.2.2 p (by omega)).1
          by_cases c2 : T p < f
          · rw [if_pos (nI_lt c2 (by omega))]
          · rw [if_neg (nI_nlt (by omega) (by omega)), if_neg (nI_ge (by omega) (by omega))]
        · rw [if_neg c1, if_pos]
          exact fa_lt _ _ |>.mpr (by rw [nI_toInt (by omega)]; have : (-1 : Int32).toInt = -1 := rfl; omega)
      rw [z, if_pos rfl, w_gI w 86 11 15 rfl, Option.bind_some, r.2.2.2.2.1, Option.bind_some, g1, Option.bind_some]
      rfl
