/-! a line of a basin, a line of a sluice: the reference -/
section LineM
variable {T : Nat → Nat} {n : Nat} {h : aH}
/-- a number is read and put among what comes -/
theorem put93 {top p : Nat} {wr : Option Nat} (r : RD 91 T n top p wr h) {f m k : Nat} (hf : f + m ≤ 128) (hp : p < 400) (hm : 1 ≤ m) (hk : k < 24) : ∃ o h' v, fn_X12_oneOf h 86 (nI f) (nI m) = some o ∧ wI o.2 93 (nI k) o.1 = some h' ∧ Fr rdL h h' ∧ (∀ j, j ≠ k → hI h' 93 j = hI h 93 j) ∧ hI h' 93 k = nI v ∧ Wf h' ∧
    ((wr = none ∧ p < min n top ∧ f ≤ T p ∧ T p < f + m ∧ v = T p - f ∧ RD 91 T n top (p + 1) none h') ∨ (wr = none ∧ ¬ (p < min n top ∧ f ≤ T p ∧ T p < f + m) ∧ RD 91 T n top p (some p) h') ∨ (wr ≠ none ∧ RD 91 T n top p wr h')) := by
  obtain ⟨h1, v, e1, F1, I⟩ := oneOf_M r hf hp hm
  have w1 := F1.wf r.1
  refine ⟨(nI v, h1), sI h1 93 k (nI v), v, e1, wI_eq w1 93 24 rfl k hk (by decide) _, (F1.mono rdS_L).sI _ rfl, fun j hj => ?_, by rw [hI_row, if_pos rfl], w1, ?_⟩
  · rw [hI_row, if_neg hj, F1.i 93 j rfl]
  · rcases I with ⟨a, b, c, d, e, g⟩ | ⟨a, b, c, d⟩ | ⟨a, b, c⟩
    · exact Or.inl ⟨a, b, c, d, e, g.set93 (by decide) _ _⟩
    · exact Or.inr (Or.inl ⟨a, b, d.set93 (by decide) _ _⟩)
    · right; right
      subst c
      exact ⟨a, r.set93 (by decide) _ _⟩
def QB (T : Nat → Nat) (n nb K : Nat) (h : aH) : Prop := hI h 86 1 = nI nb ∧ ∀ j, j < K → hI h 93 (3 * j) = nI (dg T n (4 * j)) ∧ hI h 93 (3 * j + 1) = nI (dg T n (4 * j + 1)) ∧ hI h 93 (3 * j + 2) = b2 (decide (T (4 * j + 2) = 33))
theorem QB.to {nb K : Nat} {h' : aH} (F : Fr rdS h h') (q : QB T n nb K h) : QB T n nb K h' := by
  refine ⟨(F.i 86 1 rfl).trans q.1, fun j hj => ?_⟩
  rw [F.i 93 _ rfl, F.i 93 _ rfl, F.i 93 _ rfl]
  exact q.2 j hj
def blkB (h : aH) (s1 : Int32) : Option aH :=
  (gI h 86 11 1).bind fun x7 =>
  if (x7 + s1) = 6 then
    (gI h 86 11 15).bind fun x41 => (ck h 86 11).bind fun _ => (fn_X12_fault h 86 x41).bind fun h43 => some h43
  else
    (gR h 86 11 17).bind fun a12 => (ck h 86 11).bind fun _ => (fn_X12_oneOf h 86 48 10).bind fun o14 => (wI o14.2 a12 (3 * s1) o14.1).bind fun h15 =>
    (gR h15 86 11 17).bind fun a16 => (ck h15 86 11).bind fun _ => (fn_X12_oneOf h15 86 48 10).bind fun o18 => (wI o18.2 a16 ((3 * s1) + 1) o18.1).bind fun h19 =>
    (gR h19 86 11 17).bind fun a20 => (ck h19 86 11).bind fun _ => (fn_X12_here h19 86).bind fun x22 =>
    ((if x22 = 33 then some 1 else some 0) : Option Int32).bind fun t23 => (wI h19 a20 ((3 * s1) + 2) t23).bind fun h24 =>
    (ck h24 86 11).bind fun _ => (fn_X12_fine h24 86).bind fun x26 =>
    ((if x26 = 0 then some h24 else (ck h24 86 11).bind fun _ => (fn_X12_here h24 86).bind fun x31 => if x31 = 33 then some h24 else (ck h24 86 11).bind fun _ => (fn_X12_here h24 86).bind fun x33 => if x33 = 46 then some h24 else (gI h24 86 11 15).bind fun x34 => (ck h24 86 11).bind fun _ => (fn_X12_fault h24 86 x34).bind fun h36 => some h36) : Option aH).bind fun t27 =>
    (gI t27 86 11 15).bind fun x28 => (pI t27 86 11 15 (x28 + 1)).bind fun h29 => some h29
theorem lbB (s : Int32 × Int32 × aH) : lb_X12_basins_24 86 s = lnG blkB s := by
  unfold lb_X12_basins_24 lnG blkB
  by_cases c : s.2.1 = 0
  · rw [if_pos c, if_pos c]
  · rw [if_neg c, if_neg c]
    simp only [Option.bind_assoc]
theorem blkB_ok {nb K : Nat} (hnb : nb ≤ 6) (hK : K ≤ 6 - nb) (h4 : 4 * K ≤ n) (r : RD 91 T n 23 (4 * K) none h) (q : QB T n nb K h) : ∃ t8, blkB h (nI K) = some t8 ∧ LnR T n 23 (6 - nb) (stB T n) (QB T n nb) K h t8 := by
  have w := r.1
  unfold blkB
  rw [w_gI w 86 11 1 rfl, Option.bind_some, q.1, nI_add]
  by_cases c : nb + K = 6
  · obtain ⟨h', e1, r', F⟩ := fault_M r (q := 4 * K) (by omega)
    refine ⟨h', ?_, F.mono rdS_L, Or.inr ⟨4 * K, 4 * K, by omega, r', h4, Nat.le_refl _, by omega, fun p a b => by omega, fun hw => ?_⟩⟩
    · rw [if_pos (show nI (nb + K) = 6 by rw [c]; rfl), w_gI w 86 11 15 rfl, Option.bind_some, r.2.2.2.2.1, k_86 w, Option.bind_some, e1, Option.bind_some]
    · cases e : bad (stB T n) 23 (6 - nb) (4 * K)
      · rw [bad_f] at e
        have := e.2.1 (by omega)
        omega
      · rfl
  · rw [if_neg (show ¬ nI (nb + K) = 6 from fun q => c ((nI_eq (b := 6) (by omega) (by decide)).mp q))]
    have hKr : K < 6 - nb := by omega
    have okp : ∀ p, 4 * K ≤ p → p ≤ 4 * K + 2 → stB T n p = true → bad (stB T n) 23 (6 - nb) p = false := fun p a b s => by
      rw [bad_f]
      exact ⟨by omega, fun _ => by omega, s⟩
    have nok : ∀ p, stB T n p = false → bad (stB T n) 23 (6 - nb) p = true := fun p s => by
      cases e : bad (stB T n) 23 (6 - nb) p
      · rw [bad_f] at e; rw [s] at e; exact absurd e.2.2 (by decide)
      · rfl
    have st0 : stB T n (4 * K) = isDg T n (4 * K) := if_pos (by omega)
    have st1 : stB T n (4 * K + 1) = isDg T n (4 * K + 1) := if_pos (by omega)
    have st2 : stB T n (4 * K + 2) = (decide (T (4 * K + 2) = 46) || decide (T (4 * K + 2) = 33)) := by unfold stB; rw [if_neg (by omega), if_pos (by omega)]
    have dgt : ∀ p, p < 23 → (p < min n 23 ∧ 48 ≤ T p ∧ T p < 48 + 10 ↔ isDg T n p = true) := by
      intro p hp
      unfold isDg
      simp
      omega
    obtain ⟨o14, h15, v1, a1, a2, a3, a4, a5, w15, A⟩ := put93 r (f := 48) (m := 10) (k := 3 * K) (by decide) (by omega) (by decide) (by omega)
    have a1' : fn_X12_oneOf h 86 48 10 = some o14 := a1
    obtain ⟨pB, wrB, rB, pBe⟩ : ∃ pB wrB, RD 91 T n 23 pB wrB h15 ∧ ((wrB = none ∧ pB = 4 * K + 1 ∧ isDg T n (4 * K) = true ∧ v1 = T (4 * K) - 48) ∨ (wrB = some (4 * K) ∧ pB = 4 * K ∧ isDg T n (4 * K) = false)) := by
      rcases A with ⟨-, z2, z3, z4, z5, z6⟩ | ⟨-, z2, z3⟩ | ⟨z1, -⟩
      · exact ⟨_, _, z6, Or.inl ⟨rfl, rfl, (dgt _ (by omega)).mp ⟨z2, z3, z4⟩, z5⟩⟩
      · refine ⟨_, _, z3, Or.inr ⟨rfl, rfl, ?_⟩⟩
        cases e : isDg T n (4 * K)
        · rfl
        · exact absurd ((dgt _ (by omega)).mpr e) z2
      · exact absurd rfl z1
    obtain ⟨o18, h19, v2, b1, b2', b3, b4, b5, w19, B⟩ := put93 rB (f := 48) (m := 10) (k := 3 * K + 1) (by decide) (by omega) (by decide) (by omega)
    have b1' : fn_X12_oneOf h15 86 48 10 = some o18 := b1
    obtain ⟨pC, wrC, rC, pCe⟩ : ∃ pC wrC, RD 91 T n 23 pC wrC h19 ∧ ((wrC = none ∧ pC = 4 * K + 2 ∧ isDg T n (4 * K) = true ∧ v1 = T (4 * K) - 48 ∧ isDg T n (4 * K + 1) = true ∧ v2 = T (4 * K + 1) - 48) ∨ (wrC = some (4 * K + 1) ∧ pC = 4 * K + 1 ∧ isDg T n (4 * K) = true ∧ isDg T n (4 * K + 1) = false) ∨ (wrC = some (4 * K) ∧ pC = 4 * K ∧ isDg T n (4 * K) = false)) := by
      rcases pBe with ⟨rfl, rfl, x1, x2⟩ | ⟨rfl, rfl, x1⟩
      · rcases B with ⟨-, z2, z3, z4, z5, z6⟩ | ⟨-, z2, z3⟩ | ⟨z1, -⟩
        · exact ⟨_, _, z6, Or.inl ⟨rfl, rfl, x1, x2, (dgt _ (by omega)).mp ⟨z2, z3, z4⟩, z5⟩⟩
        · refine ⟨_, _, z3, Or.inr (Or.inl ⟨rfl, rfl, x1, ?_⟩)⟩
          cases e : isDg T n (4 * K + 1)
          · rfl
          · exact absurd ((dgt _ (by omega)).mpr e) z2
        · exact absurd rfl z1
      · rcases B with ⟨z1, -⟩ | ⟨z1, -⟩ | ⟨-, z2⟩
        · cases z1
        · cases z1
        · exact ⟨_, _, z2, Or.inr (Or.inr ⟨rfl, rfl, x1⟩)⟩
    have pC5 : pC < 400 := by rcases pCe with ⟨-, z, -⟩ | ⟨-, z, -⟩ | ⟨-, z, -⟩ <;> omega
    obtain ⟨t23, et, et2⟩ : ∃ t, ((if sg T (min n 23) pC = 33 then some 1 else some 0) : Option Int32) = some t ∧ t = b2 (decide (sg T (min n 23) pC = 33)) := by
      by_cases q : sg T (min n 23) pC = 33
      · exact ⟨1, by rw [if_pos q], by rw [decide_eq_true q]; rfl⟩
      · exact ⟨0, by rw [if_neg q], by rw [decide_eq_false q]; rfl⟩
    have c3 : wI h19 93 (nI (3 * K + 2)) t23 = some (sI h19 93 (3 * K + 2) t23) := wI_eq w19 93 24 rfl (3 * K + 2) (by omega) (by decide) _
    have rD := rC.set93 (by decide) (3 * K + 2) t23
    have w24 := rD.1
    have FD24 : Fr rdL h (sI h19 93 (3 * K + 2) t23) := (a3.trans b3).sI _ rfl
    have fin : ∀ h27 wr, RD 91 T n 23 pC wr h27 → ((if b2 wrC.isNone = 0 then some (sI h19 93 (3 * K + 2) t23) else if sg T (min n 23) pC = 33 then some (sI h19 93 (3 * K + 2) t23) else if sg T (min n 23) pC = 46 then some (sI h19 93 (3 * K + 2) t23) else (fn_X12_fault (sI h19 93 (3 * K + 2) t23) 86 (nI pC)).bind fun h36 => some h36) : Option aH) = some h27 → ((gR h 86 11 17).bind fun a12 => (ck h 86 11).bind fun _ => (fn_X12_oneOf h 86 48 10).bind fun o14 => (wI o14.2 a12 (3 * nI K) o14.1).bind fun h15 =>
    (gR h15 86 11 17).bind fun a16 => (ck h15 86 11).bind fun _ => (fn_X12_oneOf h15 86 48 10).bind fun o18 => (wI o18.2 a16 ((3 * nI K) + 1) o18.1).bind fun h19 =>
    (gR h19 86 11 17).bind fun a20 => (ck h19 86 11).bind fun _ => (fn_X12_here h19 86).bind fun x22 =>
    ((if x22 = 33 then some 1 else some 0) : Option Int32).bind fun t23 => (wI h19 a20 ((3 * nI K) + 2) t23).bind fun h24 =>
    (ck h24 86 11).bind fun _ => (fn_X12_fine h24 86).bind fun x26 =>
    ((if x26 = 0 then some h24 else (ck h24 86 11).bind fun _ => (fn_X12_here h24 86).bind fun x31 => if x31 = 33 then some h24 else (ck h24 86 11).bind fun _ => (fn_X12_here h24 86).bind fun x33 => if x33 = 46 then some h24 else (gI h24 86 11 15).bind fun x34 => (ck h24 86 11).bind fun _ => (fn_X12_fault h24 86 x34).bind fun h36 => some h36) : Option aH).bind fun t27 =>
    (gI t27 86 11 15).bind fun x28 => (pI t27 86 11 15 (x28 + 1)).bind fun h29 => some h29) = some (sI h27 86 15 (nI (pC + 1))) ∧ RD 91 T n 23 (pC + 1) wr (sI h27 86 15 (nI (pC + 1))) := by
      intro h27 wr r27 e27
      refine ⟨?_, r27.at (by omega)⟩
      have e3' : (3 : Int32) * nI K = nI (3 * K) := three K (by omega)
      have e31 : (nI (3 * K) : Int32) + 1 = nI (3 * K + 1) := nI_1 _
      have e32 : (nI (3 * K) : Int32) + 2 = nI (3 * K + 2) := nI_add _ 2
      simp only [g_86_17 w, k_86 w, Option.bind_some, a1', e3', a2, g_86_17 w15, k_86 w15, b1', e31, b2', g_86_17 w19, k_86 w19, here_M rC, et, e32, c3, k_86 w24, fine_M rD, here_M rD, w_gI w24 86 11 15 rfl, rD.2.2.2.2.1]
      rw [e27, Option.bind_some, w_gI r27.1 86 11 15 rfl, Option.bind_some, r27.2.2.2.2.1, nI_1, w_pI r27.1 86 11 15 _ rfl, Option.bind_some]
    rcases pCe with ⟨rfl, rfl, x1, x2, x3, x4⟩ | ⟨rfl, rfl, x1, x2⟩ | ⟨rfl, rfl, x1⟩
    · have k33 : sg T (min n 23) (4 * K + 2) = 33 ↔ 4 * K + 2 < min n 23 ∧ T (4 * K + 2) = 33 := here_is rC (c := 33) (by decide)
      have k46 : sg T (min n 23) (4 * K + 2) = 46 ↔ 4 * K + 2 < min n 23 ∧ T (4 * K + 2) = 46 := here_is rC (c := 46) (by decide)
      have x1' : 4 * K < n := by unfold isDg at x1; simp at x1; omega
      have x3' : 4 * K + 1 < n := by unfold isDg at x3; simp at x3; omega
      by_cases good : 4 * K + 2 < n ∧ (T (4 * K + 2) = 46 ∨ T (4 * K + 2) = 33)
      · obtain ⟨f1, f2⟩ := fin _ none rD (by
          rw [if_neg (by decide)]
          by_cases z : sg T (min n 23) (4 * K + 2) = 33
          · rw [if_pos z]
          · rw [if_neg z, if_pos (k46.mpr ⟨by omega, good.2.resolve_right (fun q => z (k33.mpr ⟨by omega, q⟩))⟩)])
        refine ⟨_, f1, FD24.sI _ rfl, Or.inl ⟨hKr, f2, by omega, ⟨by rw [st0]; exact x1, by rw [st1]; exact x3, ?_⟩, ?_, fun j hj => ?_⟩⟩
        · rw [st2]; rcases good.2 with z | z <;> simp [z]
        · rw [hI_sI_r, if_pos rfl]
          show (if 1 = 15 then _ else _) = _
          rw [if_neg (by decide), hI_sI_r, if_neg (by decide), b3.i 86 1 rfl, a3.i 86 1 rfl, q.1]
        · have hr : ∀ i, hI (sI (sI h19 93 (3 * K + 2) t23) 86 15 (nI (4 * K + 2 + 1))) 93 i = if i = 3 * K + 2 then t23 else hI h19 93 i := fun i => by rw [hI_sI_r, if_neg (by decide), hI_row]
          rw [hr, hr, hr]
          by_cases c4 : j = K
          · subst c4
            rw [if_neg (by omega), if_neg (by omega), if_pos rfl, b4 (3 * j) (by omega), a5, b5]
            refine ⟨?_, ?_, ?_⟩
            · unfold dg; rw [if_pos x1, x2]
            · unfold dg; rw [if_pos x3, x4]
            · rw [et2]
              congr 1
              by_cases z : T (4 * j + 2) = 33
              · rw [decide_eq_true z, decide_eq_true (k33.mpr ⟨by omega, z⟩)]
              · rw [decide_eq_false z, decide_eq_false (fun y => z (k33.mp y).2)]
          · rw [if_neg (by omega), if_neg (by omega), if_neg (by omega), b4 _ (by omega), b4 _ (by omega), b4 _ (by omega), a4 _ (by omega), a4 _ (by omega), a4 _ (by omega)]
            exact q.2 j (by omega)
      · obtain ⟨h36, e36, r36, F36⟩ := fault_M rD (q := 4 * K + 2) (by omega)
        obtain ⟨f1, f2⟩ := fin h36 (some (4 * K + 2)) r36 (by
          rw [if_neg (by decide), if_neg (fun z => good ⟨by have := (k33.mp z).1; omega, Or.inr (k33.mp z).2⟩), if_neg (fun z => good ⟨by have := (k46.mp z).1; omega, Or.inl (k46.mp z).2⟩), e36]; rfl)
        refine ⟨_, f1, (FD24.trans (F36.mono rdS_L)).sI _ rfl, Or.inr ⟨4 * K + 2, _, by omega, f2, by omega, by omega, Nat.le_refl _, fun p a b => ?_, fun hw => nok _ ?_⟩⟩
        · refine okp p a (by omega) ?_
          rcases (show p = 4 * K ∨ p = 4 * K + 1 by omega) with rfl | rfl
          · rw [st0]; exact x1
          · rw [st1]; exact x3
        · rw [st2]
          have z1 : ¬ T (4 * K + 2) = 46 := fun z => good ⟨hw, Or.inl z⟩
          have z2 : ¬ T (4 * K + 2) = 33 := fun z => good ⟨hw, Or.inr z⟩
          simp [z1, z2]
    · have x1' : 4 * K < n := by unfold isDg at x1; simp at x1; omega
      obtain ⟨f1, f2⟩ := fin _ _ rD (by rw [if_pos (by rfl)])
      refine ⟨_, f1, FD24.sI _ rfl, Or.inr ⟨4 * K + 1, _, by omega, f2, by omega, by omega, by omega, fun p a b => ?_, fun hw => nok _ (by rw [st1]; exact x2)⟩⟩
      obtain rfl : p = 4 * K := by omega
      exact okp _ a (by omega) (by rw [st0]; exact x1)
    · obtain ⟨f1, f2⟩ := fin _ _ rD (by rw [if_pos (by rfl)])
      exact ⟨_, f1, FD24.sI _ rfl, Or.inr ⟨4 * K, _, by omega, f2, h4, Nat.le_refl _, by omega, fun p a b => by omega, fun hw => nok _ (by rw [st0]; exact x1)⟩⟩
end LineM
