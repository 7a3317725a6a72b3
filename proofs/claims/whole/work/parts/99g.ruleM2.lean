/-! a rule: the reference's things -/
section RM2
variable {a n : Nat} {T : Nat → Nat} {y : Nat → Int32}
theorem ten : ∀ v, v < 100 → (10 : Int32) * nI v = nI (10 * v) := by decide +kernel
theorem in_dg {p : Nat} {wr : Option Nat} {h : aH} (r : RD a T n 40 p wr h) (h0 : aH) : fn_X12_in h0 (sg T (min n 40) p) 48 57 = some (b2 (isDg T (min n 40) p)) := by
  rw [in_eq]
  unfold sg isDg
  by_cases c : p < min n 40
  · have l := r.lim (i := p) (by omega)
    rw [if_pos c]
    by_cases c1 : T p < 48
    · rw [if_pos (show nI (T p) < 48 from nI_lt (b := 48) c1 (by decide)), decide_eq_false (by omega)]; rfl
    · rw [if_neg (show ¬ nI (T p) < 48 from nI_nlt (b := 48) (by omega) (by omega))]
      by_cases c2 : T p ≤ 57
      · rw [if_pos (show nI (T p) ≤ 57 from nI_le (b := 57) c2 (by decide)), decide_eq_true (by omega)]; rfl
      · rw [if_neg (show ¬ nI (T p) ≤ 57 from nI_ge (a := 57) (by omega) (by omega)), decide_eq_false (by omega)]; rfl
  · rw [if_neg c, if_pos (by decide), decide_eq_false (by omega)]; rfl
theorem one_dg {p : Nat} {h : aH} (r : RD a T n 40 p none h) (hp : p < 100) (hd : isDg T (min n 40) p = true) : ∃ h', fn_X12_oneOf h 86 48 10 = some (nI (T p - 48), h') ∧ Fr rdS h h' ∧ RD a T n 40 (p + 1) none h' := by
  obtain ⟨d1, d2⟩ := isDg_iff.mp hd
  obtain ⟨h', v, e1, F, I⟩ := oneOf_M r (f := 48) (m := 10) (by decide) (by omega) (by decide)
  rcases I with ⟨-, -, -, -, z5, z6⟩ | ⟨-, z2, -⟩ | ⟨z1, -⟩
  · subst z5; exact ⟨h', e1, F, z6⟩
  · exact absurd ⟨d1, d2.1, by have := d2.2; omega⟩ z2
  · exact absurd rfl z1
theorem num_more {p k v : Nat} {h : aH} (r : RD a T n 40 p none h) (hp : p < 100) (hk : k < 3) (hv : v < 100) (hd : isDg T (min n 40) p = true) : ∃ h', lb_X12_number_11 86 3 (nI v, nI k, h) = some (.inl (nI (10 * v + (T p - 48)), nI (k + 1), h')) ∧ Fr rdS h h' ∧ RD a T n 40 (p + 1) none h' := by
  obtain ⟨h', e1, F, R⟩ := one_dg r hp hd
  refine ⟨h', ?_, F, R⟩
  unfold lb_X12_number_11
  simp only [if_pos (show nI k < 3 from nI_lt (b := 3) hk (by decide)), k_86 r.1, Option.bind_some, fine_M r, here_M r, in_dg r, hd, e1, ten v hv, nI_add, nI_1]
  rw [if_neg (by decide), if_neg (by decide)]
theorem num_stop {p k v : Nat} {h : aH} (r : RD a T n 40 p none h) (hk : k ≤ 3) (hd : k < 3 → isDg T (min n 40) p = false) : lb_X12_number_11 86 3 (nI v, nI k, h) = some (.inr (nI v, h)) := by
  unfold lb_X12_number_11
  by_cases c : k < 3
  · simp only [if_pos (show nI k < 3 from nI_lt (b := 3) c (by decide)), k_86 r.1, Option.bind_some, fine_M r, here_M r, in_dg r, hd c]
    rw [if_neg (by decide), if_pos (by rfl)]
  · have : k = 3 := by omega
    subst this
    rw [if_neg (show ¬ nI 3 < 3 by decide)]
theorem number_M {p : Nat} {h : aH} (r : RD a T n 40 p none h) (hd : isDg T (min n 40) p = true) : ∃ h', fn_X12_number h 86 3 = some (nI (pnum T (min n 40) p).1, h') ∧ Fr rdS h h' ∧ RD a T n 40 (pnum T (min n 40) p).2 none h' ∧ (pnum T (min n 40) p).1 < 1000 := by
  obtain ⟨d1, d2⟩ := isDg_iff.mp hd
  obtain ⟨h1, e1, F1, R1⟩ := one_dg r (by omega) hd
  have top : ∀ v h', lp (lb_X12_number_11 86 3) lpN (nI (T p - 48), nI 1, h1) = some (nI v, h') → fn_X12_number h 86 3 = some (nI v, h') := by
    intro v h' e
    have e' : lp (lb_X12_number_11 86 3) lpN (nI (T p - 48), 1, h1) = some (nI v, h') := e
    unfold fn_X12_number
    simp only [k_86 r.1, Option.bind_some, e1, e']
  have l0 := d2.2
  unfold pnum
  by_cases c1 : isDg T (min n 40) (p + 1) = true
  · obtain ⟨d3, d4⟩ := isDg_iff.mp c1
    have l1 := d4.2
    rw [if_pos c1]
    obtain ⟨h2, e2, F2, R2⟩ := num_more (k := 1) (v := T p - 48) R1 (by omega) (by decide) (by omega) c1
    by_cases c2 : isDg T (min n 40) (p + 2) = true
    · obtain ⟨d5, d6⟩ := isDg_iff.mp c2
      have l2 := d6.2
      rw [if_pos c2]
      obtain ⟨h3, e3, F3, R3⟩ := num_more (k := 2) (v := 10 * (T p - 48) + (T (p + 1) - 48)) R2 (by omega) (by decide) (by omega) c2
      refine ⟨h3, top _ _ ?_, F1.trans (F2.trans F3), R3, by show 10 * (10 * (T p - 48) + (T (p + 1) - 48)) + (T (p + 2) - 48) < 1000; omega⟩
      refine lp_run (fun k => if k = 0 then (nI (T p - 48), nI 1, h1) else if k = 1 then (nI (10 * (T p - 48) + (T (p + 1) - 48)), nI 2, h2) else (nI (10 * (10 * (T p - 48) + (T (p + 1) - 48)) + (T (p + 2) - 48)), nI 3, h3)) 2 _ ?_ ?_ (by decide) rfl
      · intro k hk
        rcases (show k = 0 ∨ k = 1 by omega) with rfl | rfl
        · exact e2
        · exact e3
      · exact num_stop R3 (Nat.le_refl _) (fun z => absurd z (by decide))
    · rw [if_neg c2]
      refine ⟨h2, top _ _ ?_, F1.trans F2, R2, by show 10 * (T p - 48) + (T (p + 1) - 48) < 1000; omega⟩
      refine lp_run (fun k => if k = 0 then (nI (T p - 48), nI 1, h1) else (nI (10 * (T p - 48) + (T (p + 1) - 48)), nI 2, h2)) 1 _ ?_ ?_ (by decide) rfl
      · intro k hk
        obtain rfl : k = 0 := by omega
        exact e2
      · refine num_stop R2 (by decide) (fun _ => ?_)
        cases q : isDg T (min n 40) (p + 1 + 1)
        · rfl
        · exact absurd q c2
  · rw [if_neg c1]
    refine ⟨h1, top _ _ ?_, F1, R1, by show T p - 48 < 1000; omega⟩
    refine lp_run (fun k => (nI (T p - 48), nI 1, h1)) 0 _ (fun k hk => absurd hk (Nat.not_lt_zero _)) ?_ (by decide) rfl
    refine num_stop R1 (by decide) (fun _ => ?_)
    cases q : isDg T (min n 40) (p + 1)
    · rfl
    · exact absurd q c1
theorem letter_M (h : aH) : ∀ c, c < 256 → fn_X12_letterOf h (nI c) = some (match ltr c with | some k => nI k | none => -1) := by
  intro c hc
  have : ∀ c, c < 256 → fn_X12_letterOf ([], fun _ _ => 0, fun _ _ => 0, fun _ _ => none) (nI c) = some (match ltr c with | some k => nI k | none => -1) := by decide +kernel
  exact this c hc
theorem heldM {p0 deep : Nat} {th : aH → Nat → Int32 → Option (Int32 × aH)} {it : Nat → PR} (H0 : THM a T n y p0 (fun h => th h 86 (nI deep)) it) (p : Nat) (h : aH) (hp : p0 ≤ p) (hL : p ≤ min n 40) (r0 : RD a T n 40 p none h) (k : AKD y h) : ∃ u h', fn_X12_held th h 86 (nI deep) = some (u, h') ∧ SIM a T n y h (pheld T (min n 40) it p) u h' := by
  have H := sumM H0
  obtain ⟨u, h1, e1, S1, S2, S3⟩ := H.1 p h hp hL r0 k
  have pr := H.2 p hp hL
  have e1' : fn_X12_sum th h 86 (nI deep) = some (u, h1) := e1
  have H1 : ∀ p h, p0 ≤ p → p ≤ min n 40 → RD a T n 40 p none h → AKD y h → ∃ u h', fn_X12_sum th h 86 (nI deep) = some (u, h') ∧ SIM a T n y h (psum T (min n 40) it p) u h' := H.1
  unfold pheld
  generalize psum T (min n 40) it p = r at S2 S3 pr ⊢
  have w1 := S2.1
  by_cases c : r.2.2 = none ∧ r.2.1 < min n 40 ∧ (T r.2.1 = 60 ∨ T r.2.1 = 62 ∨ T r.2.1 = 61)
  · rw [if_pos c]
    obtain ⟨c1, c2, c3⟩ := c
    rw [c1] at S2
    obtain ⟨pr1, pr2⟩ := pr c1
    have pas : ∀ ch, ch < 256 → T r.2.1 = ch → ∃ h2, fn_X12_passes h1 86 (nI ch) = some (1, h2) ∧ Fr rdS h1 h2 ∧ RD a T n 40 (r.2.1 + 1) none h2 := by
      intro ch hch e
      rcases passes_M S2 (by omega) hch with ⟨-, -, -, z⟩ | ⟨z, -⟩
      · exact z
      · exact absurd ⟨rfl, c2, e⟩ z
    have nas : ∀ ch, ch < 256 → T r.2.1 ≠ ch → fn_X12_passes h1 86 (nI ch) = some (0, h1) := by
      intro ch hch e
      rcases passes_M S2 (by omega) hch with ⟨-, -, z, -⟩ | ⟨-, z⟩
      · exact absurd z e
      · exact z
    have sec : ∀ h2, Fr rdS h1 h2 → RD a T n 40 (r.2.1 + 1) none h2 → ∃ u2 h3, fn_X12_sum th h2 86 (nI deep) = some (u2, h3) ∧ SIM a T n y h (r.1 ++ (psum T (min n 40) it (r.2.1 + 1)).1 ++ [2000 + T r.2.1], (psum T (min n 40) it (r.2.1 + 1)).2) (jn (2000 + T r.2.1) u u2) h3 := by
      intro h2 F2 R2
      obtain ⟨u2, h3, e3, Z1, Z2, Z3⟩ := H1 (r.2.1 + 1) h2 (by omega) (by omega) R2 ((k.to S1).to F2)
      have tw : 2000 + T r.2.1 ≠ 3000 := by have := S2.lim (i := r.2.1) (by omega); omega
      refine ⟨u2, h3, e3, S1.trans (F2.trans Z1), Z2, fun q1 q2 => (S3 q1 c1).bin (Z3 ?_ q2) (by omega) tw⟩
      rw [F2.i 86 21 rfl, S1.i 86 21 rfl]; exact q1
    rcases c3 with e | e | e
    · obtain ⟨h2, p1, F2, R2⟩ := pas 60 (by decide) e
      obtain ⟨u2, h3, e3, Z⟩ := sec h2 F2 R2
      refine ⟨_, h3, ?_, Z⟩
      have p1' : fn_X12_passes h1 86 60 = some (1, h2) := p1
      unfold fn_X12_held
      simp only [k_86 r0.1, Option.bind_some, e1', k_86 w1, p1', k_86 R2.1, e3]
      rw [if_neg one0, e]
      show (if u < u2 then some ((1 : Int32), h3) else some (0, h3)) = some ((if u < u2 then 1 else 0), h3)
      by_cases z : u < u2
      · rw [if_pos z, if_pos z]
      · rw [if_neg z, if_neg z]
    · obtain ⟨h2, p1, F2, R2⟩ := pas 62 (by decide) e
      obtain ⟨u2, h3, e3, Z⟩ := sec h2 F2 R2
      refine ⟨_, h3, ?_, Z⟩
      have p0' : fn_X12_passes h1 86 60 = some (0, h1) := nas 60 (by decide) (by omega)
      have p1' : fn_X12_passes h1 86 62 = some (1, h2) := p1
      unfold fn_X12_held
      simp only [k_86 r0.1, Option.bind_some, e1', k_86 w1, p0', p1', k_86 R2.1, e3, if_true]
      rw [if_neg one0, e]
      show (if u ≤ u2 then some ((0 : Int32), h3) else some (1, h3)) = some ((if u ≤ u2 then 0 else 1), h3)
      by_cases z : u ≤ u2
      · rw [if_pos z, if_pos z]
      · rw [if_neg z, if_neg z]
    · obtain ⟨h2, p1, F2, R2⟩ := pas 61 (by decide) e
      obtain ⟨u2, h3, e3, Z⟩ := sec h2 F2 R2
      refine ⟨_, h3, ?_, Z⟩
      have p0' : fn_X12_passes h1 86 60 = some (0, h1) := nas 60 (by decide) (by omega)
      have p2' : fn_X12_passes h1 86 62 = some (0, h1) := nas 62 (by decide) (by omega)
      have p1' : fn_X12_passes h1 86 61 = some (1, h2) := p1
      unfold fn_X12_held
      simp only [k_86 r0.1, Option.bind_some, e1', k_86 w1, p0', p2', p1', k_86 R2.1, e3, if_true]
      rw [if_neg one0, e]
      show (if u = u2 then some ((1 : Int32), h3) else some (0, h3)) = some ((if u = u2 then 1 else 0), h3)
      by_cases z : u = u2
      · rw [if_pos z, if_pos z]
      · rw [if_neg z, if_neg z]
  · rw [if_neg c]
    have nas : ∀ ch, ch < 256 → (ch = 60 ∨ ch = 62 ∨ ch = 61) → fn_X12_passes h1 86 (nI ch) = some (0, h1) := by
      intro ch hch e
      cases q : r.2.2 with
      | some w =>
        rw [q] at S2
        unfold fn_X12_passes
        simp only [k_86 w1, Option.bind_some, fine_M S2]
        rfl
      | none =>
        rw [q] at S2
        obtain ⟨pr1, pr2⟩ := pr q
        rcases passes_M S2 (by omega) hch with ⟨-, z1, z2, -⟩ | ⟨-, z⟩
        · exact absurd ⟨q, z1, by rw [z2]; exact e⟩ c
        · exact z
    refine ⟨u, h1, ?_, S1, S2, S3⟩
    have p0' : fn_X12_passes h1 86 60 = some (0, h1) := nas 60 (by decide) (Or.inl rfl)
    have p1' : fn_X12_passes h1 86 62 = some (0, h1) := nas 62 (by decide) (Or.inr (Or.inl rfl))
    have p2' : fn_X12_passes h1 86 61 = some (0, h1) := nas 61 (by decide) (Or.inr (Or.inr rfl))
    unfold fn_X12_held
    simp only [k_86 r0.1, Option.bind_some, e1', k_86 w1, p0', p1', p2', if_true]
/-- what stands ahead: neither a minus nor a bracket that opens -/
theorem plainM {p deep : Nat} {h : aH} (r : RD a T n 40 p none h) (k : AKD y h) (hp : p ≤ min n 40) (hT : ∀ i, i < min n 40 → T i < 256) : ∃ u h', ((fn_X12_in h (sg T (min n 40) p) 48 57).bind fun x7 => if x7 = 0 then (fn_X12_letterOf h (sg T (min n 40) p)).bind fun x8 => if x8 = (-1) then (gI h 86 11 15).bind fun x16 => (fn_X12_fault h 86 x16).bind fun h18 => some (0, h18) else (gI h 86 11 15).bind fun x9 => (pI h 86 11 15 (x9 + 1)).bind fun h10 => (gI h10 86 11 21).bind fun x11 => if x11 = 0 then some (0, h10) else (gR h10 86 11 22).bind fun a12 => (fn_X12_letterOf h10 (sg T (min n 40) p)).bind fun x13 => (aI h10 a12 14 x13).bind fun x14 => some (x14, h10) else (fn_X12_number h 86 3).bind fun o21 => some (o21.1, o21.2)) = some (u, h') ∧ SIM a T n y h (if isDg T (min n 40) p = true then ([(pnum T (min n 40) p).1], (pnum T (min n 40) p).2, none) else if p < min n 40 then (match ltr (T p) with
      | some k => ([1000 + k], p + 1, none)
      | none => ([], p, some p)) else ([], p, some p)) u h' := by
  rw [in_dg r, Option.bind_some]
  obtain ⟨g1, g2, R1, F1⟩ := r.adv (by omega)
  have flt : ∃ h', fn_X12_fault h 86 (nI p) = some h' ∧ RD a T n 40 p (some p) h' ∧ Fr rdS h h' := fault_M r (q := p) (by omega)
  by_cases c3 : isDg T (min n 40) p = true
  · obtain ⟨h', e1, F, R, lt⟩ := number_M r c3
    have vl : VAL y [(pnum T (min n 40) p).1] (nI (pnum T (min n 40) p).1) := fun st => by
      show ex1 y st (pnum T (min n 40) p).1 = _
      unfold ex1
      rw [if_pos (by omega), if_neg (by omega)]
    refine ⟨nI (pnum T (min n 40) p).1, h', ?_, ?_⟩
    · rw [c3, if_neg (by decide), e1]
      rfl
    · rw [if_pos c3]
      exact ⟨F, R, fun _ _ => vl⟩
  · have c3' : isDg T (min n 40) p = false := by
      cases q : isDg T (min n 40) p
      · rfl
      · exact absurd q c3
    rw [if_neg c3, c3', if_pos (show b2 false = 0 from rfl)]
    by_cases c4 : p < min n 40
    · rw [if_pos c4, show sg T (min n 40) p = nI (T p) from sg_in c4, letter_M h _ (hT p c4), Option.bind_some]
      cases e : ltr (T p) with
      | none =>
        obtain ⟨h', f1, f2, f3⟩ := flt
        refine ⟨0, h', ?_, f3, f2, fun _ z => by cases z⟩
        dsimp only
        rw [if_pos rfl, g1, Option.bind_some, f1]
        rfl
      | some j =>
        obtain ⟨-, -, -, j7⟩ := ltr_n j _ e
        have lm := letter_M (sI h 86 15 (nI (p + 1))) _ (hT p c4)
        rw [e] at lm
        dsimp only at lm ⊢
        rw [if_neg (nI_m1 (by omega)), g1, Option.bind_some, g2, Option.bind_some, w_gI R1.1 86 11 21 rfl, Option.bind_some, F1.i 86 21 rfl]
        rcases k with k0 | ⟨k1, k2⟩
        · refine ⟨0, sI h 86 15 (nI (p + 1)), by rw [k0, if_pos rfl], F1, R1, fun z => ?_⟩
          rw [k0] at z
          exact absurd z (by decide)
        · refine ⟨y j, sI h 86 15 (nI (p + 1)), ?_, F1, R1, fun _ _ st => ?_⟩
          · rw [k1, if_neg one0, g_86_22 R1.1, Option.bind_some, lm, Option.bind_some, aI_eq R1.1 96 14 7 rfl j j7 (by decide), F1.i 96 j rfl, k2 j j7]
            rfl
          · show ex1 y st (1000 + j) = _
            unfold ex1
            rw [if_pos (by omega), if_pos ⟨by omega, by omega⟩, Nat.add_sub_cancel_left]
    · rw [if_neg c4, show sg T (min n 40) p = -1 from if_neg c4]
      obtain ⟨h', f1, f2, f3⟩ := flt
      refine ⟨0, h', ?_, f3, f2, fun _ z => by cases z⟩
      rw [show fn_X12_letterOf h (-1) = some (-1) from rfl, Option.bind_some, if_pos rfl, g1, Option.bind_some, f1]
      rfl
theorem thgM (hT : ∀ i, i < min n 40 → T i < 256) : ∀ g deep p h, 41 < g + p → p ≤ min n 40 → deep ≤ 4 → RD a T n 40 p none h → AKD y h → ∃ u h', fn_X12_thing g h 86 (nI deep) = some (u, h') ∧ SIM a T n y h (pthg T (min n 40) g deep p) u h' := by
  intro g
  induction g with
  | zero => intro deep p h hg hp; omega
  | succ g ih =>
    intro deep p h hg hp hd r k
    have w := r.1
    show ∃ u h', fnF_X12_thing (fn_X12_thing g) h 86 (nI deep) = some (u, h') ∧ SIM a T n y h (pthg T (min n 40) (g + 1) deep p) u h'
    unfold pthg
    by_cases c1 : p < min n 40 ∧ T p = 45
    · rw [if_pos c1]
      rcases passes_M r (by omega) (c := 45) (by decide) with ⟨-, -, -, h1, e1, F1, R1⟩ | ⟨z, -⟩
      · obtain ⟨u, h2, e2, S1, S2, S3⟩ := ih deep (p + 1) h1 (by omega) (by omega) hd R1 (k.to F1)
        have e1' : fn_X12_passes h 86 45 = some (1, h1) := e1
        refine ⟨-u, h2, ?_, F1.trans S1, S2, fun q1 q2 => (S3 ?_ q2).neg⟩
        · unfold fnF_X12_thing
          simp only [k_86 w, Option.bind_some, e1', k_86 R1.1, e2]
          rw [if_neg one0]
        · rw [F1.i 86 21 rfl]; exact q1
      · exact absurd ⟨rfl, c1⟩ z
    · rw [if_neg c1]
      have e1' : fn_X12_passes h 86 45 = some (0, h) := by
        rcases passes_M r (by omega) (c := 45) (by decide) with ⟨-, z1, z2, -⟩ | ⟨-, z⟩
        · exact absurd ⟨z1, z2⟩ c1
        · exact z
      have k40 : sg T (min n 40) p = 40 ↔ p < min n 40 ∧ T p = 40 := here_is r (c := 40) (by decide)
      obtain ⟨g1, g2, R1, F1⟩ := r.adv (by omega)
      by_cases c2 : p < min n 40 ∧ T p = 40 ∧ deep < 4
      · rw [if_pos c2]
        obtain ⟨a1, a2, a3⟩ := c2
        have TH : THM a T n y (p + 1) (fun h => fn_X12_thing g h 86 (nI (deep + 1))) (pthg T (min n 40) g (deep + 1)) := by
          refine ⟨fun p' h' q1 q2 q3 q4 => ih (deep + 1) p' h' (by omega) q2 (by omega) q3 q4, fun p' q1 q2 e => ?_⟩
          obtain ⟨z1, z2, -⟩ := (thgC (T := T) (L := min n 40) (by omega) hT g (deep + 1) p' (true, [], [], deep + 1, fun _ => false, 0, 0) (by omega) q2 (by omega) rfl rfl).1 e
          exact ⟨z1, z2⟩
        obtain ⟨u, h2, e2, S1, S2, S3⟩ := heldM TH (p + 1) _ (Nat.le_refl _) (by omega) R1 (k.to F1)
        have prg : (pheld T (min n 40) (pthg T (min n 40) g (deep + 1)) (p + 1)).2.2 = none → (pheld T (min n 40) (pthg T (min n 40) g (deep + 1)) (p + 1)).2.1 ≤ min n 40 := fun e =>
          ((heldC (T := T) (L := min n 40) (deep := deep + 1) (p0 := p + 1) (it := pthg T (min n 40) g (deep + 1)) (by omega) hT (fun p' s' q1 q2 q3 q4 => thgC (by omega) hT g (deep + 1) p' s' (by omega) q2 (by omega) q3 q4) (p + 1) (true, [], [], deep + 1, fun _ => false, 0, 0) (Nat.le_refl _) (by omega) rfl rfl (fun w R e => by cases e) rfl).1 e).2.1
        generalize pheld T (min n 40) (pthg T (min n 40) g (deep + 1)) (p + 1) = rr at S2 S3 prg ⊢
        have top : ∀ h4, fn_X12_need h2 86 41 = some h4 → fnF_X12_thing (fn_X12_thing g) h 86 (nI deep) = some (u, h4) := by
          intro h4 e4
          have d1 : nI deep + 1 = nI (deep + 1) := nI_1 _
          unfold fnF_X12_thing
          simp only [k_86 w, Option.bind_some, e1', fine_M r, here_M r]
          rw [if_pos trivial, if_neg (by decide), if_pos (k40.mpr ⟨a1, a2⟩), if_pos (show nI deep < 4 from nI_lt (b := 4) a3 (by decide))]
          simp only [g1, g2, Option.bind_some, k_86 R1.1, d1, e2, k_86 S2.1, e4]
        have w2 := S2.1
        have e21 : hI (sI h 86 15 (nI (p + 1))) 86 21 = hI h 86 21 := F1.i 86 21 rfl
        by_cases e : rr.2.2 = none
        · rw [if_pos e]
          rw [e] at S2
          have le := prg e
          by_cases e3 : rr.2.1 < min n 40 ∧ T rr.2.1 = 41
          · rw [if_pos e3]
            rcases passes_M S2 (by omega) (c := 41) (by decide) with ⟨-, -, -, h4, f1, f2, f3⟩ | ⟨z, -⟩
            · have f1' : fn_X12_passes h2 86 41 = some (1, h4) := f1
              refine ⟨u, h4, top h4 ?_, F1.trans (S1.trans f2), f3, fun q1 _ => S3 (e21.trans q1) e⟩
              unfold fn_X12_need
              simp only [k_86 w2, Option.bind_some, f1']
              rw [if_neg one0]
            · exact absurd ⟨rfl, e3⟩ z
          · rw [if_neg e3]
            have f1' : fn_X12_passes h2 86 41 = some (0, h2) := by
              rcases passes_M S2 (by omega) (c := 41) (by decide) with ⟨-, z1, z2, -⟩ | ⟨-, z⟩
              · exact absurd ⟨z1, z2⟩ e3
              · exact z
            obtain ⟨h4, f1, f2, f3⟩ := fault_M S2 (q := rr.2.1) (by omega)
            refine ⟨u, h4, top h4 ?_, F1.trans (S1.trans f3), f2, fun _ z => by cases z⟩
            unfold fn_X12_need
            simp only [k_86 w2, Option.bind_some, f1', w_gI w2 86 11 15 rfl, S2.2.2.2.2.1, f1]
            rw [if_pos trivial]
        · rw [if_neg e]
          obtain ⟨x, ex'⟩ : ∃ x, rr.2.2 = some x := by
            cases q : rr.2.2 with
            | none => exact absurd q e
            | some x => exact ⟨x, rfl⟩
          have S2' := S2
          rw [ex'] at S2'
          have f1' : fn_X12_passes h2 86 41 = some (0, h2) := by
            unfold fn_X12_passes
            simp only [k_86 w2, Option.bind_some, fine_M S2']
            rfl
          obtain ⟨h4, f1, f2, f3⟩ := fault_M S2' (q := rr.2.1) S2'.2.2.2.2.2.2.2.2.1
          refine ⟨u, h4, top h4 ?_, F1.trans (S1.trans f3), by rw [ex']; exact f2, fun _ z => absurd z e⟩
          unfold fn_X12_need
          simp only [k_86 w2, Option.bind_some, f1', w_gI w2 86 11 15 rfl, S2'.2.2.2.2.1, f1]
          rw [if_pos trivial]
      · rw [if_neg c2]
        obtain ⟨u, h', e, S⟩ := plainM (deep := deep) r k hp hT
        refine ⟨u, h', ?_, S⟩
        unfold fnF_X12_thing
        simp only [k_86 w, Option.bind_some, e1', fine_M r, here_M r]
        rw [if_pos trivial, if_neg (by decide)]
        by_cases q : sg T (min n 40) p = 40
        · have q4 : ¬ nI deep < 4 := fun z => by
            have : ¬ deep < 4 := fun z2 => c2 ⟨(k40.mp q).1, (k40.mp q).2, z2⟩
            exact nI_nlt (a := deep) (b := 4) (by omega) (by omega) z
          rw [if_pos q, if_neg q4]
          have kk : ∀ x, pI h 86 11 15 x = some (sI h 86 15 x) := fun x => w_pI w 86 11 15 x rfl
          exact e
        · rw [if_neg q]
          exact e
end RM2
