/-! a thing of a rule -/
section THG
variable {T : Nat → Nat} {L : Nat}
theorem isDg_iff {p : Nat} : isDg T L p = true ↔ p < L ∧ isd (T p) := by
  unfold isDg
  simp
theorem ltr_n (k : Nat) (ch : Nat) (h : ltr ch = some k) : ¬ isd ch ∧ ch ≠ 45 ∧ ch ≠ 40 ∧ k < 7 := by
  unfold ltr at h
  by_cases c1 : ch = 97
  · rw [if_pos c1] at h; cases h; subst c1; exact ⟨by unfold isd; omega, by decide, by decide, by decide⟩
  rw [if_neg c1] at h
  by_cases c2 : ch = 98
  · rw [if_pos c2] at h; cases h; subst c2; exact ⟨by unfold isd; omega, by decide, by decide, by decide⟩
  rw [if_neg c2] at h
  by_cases c3 : ch = 109
  · rw [if_pos c3] at h; cases h; subst c3; exact ⟨by unfold isd; omega, by decide, by decide, by decide⟩
  rw [if_neg c3] at h
  by_cases c4 : ch = 107
  · rw [if_pos c4] at h; cases h; subst c4; exact ⟨by unfold isd; omega, by decide, by decide, by decide⟩
  rw [if_neg c4] at h
  by_cases c5 : ch = 115
  · rw [if_pos c5] at h; cases h; subst c5; exact ⟨by unfold isd; omega, by decide, by decide, by decide⟩
  rw [if_neg c5] at h
  by_cases c6 : ch = 116
  · rw [if_pos c6] at h; cases h; subst c6; exact ⟨by unfold isd; omega, by decide, by decide, by decide⟩
  rw [if_neg c6] at h
  by_cases c7 : ch = 110
  · rw [if_pos c7] at h; cases h; subst c7; exact ⟨by unfold isd; omega, by decide, by decide, by decide⟩
  rw [if_neg c7] at h
  cases h
theorem step_d0 {s : CS} {ch : Nat} (hw : c_w s = false) (hd : c_d s = 0 ∨ c_d s = 3) (h : isd ch) : stepC s ch = none := by
  unfold stepC
  rw [if_pos h, if_neg (by rw [hw]; decide), if_pos hd]
theorem one_step {p : Nat} {s s2 : CS} (e : stepC s (T p) = some s2) : rnK T (p + 1 - p) p s = some s2 := by
  rw [show p + 1 - p = 1 by omega, rnK_one]; exact e
theorem step_more {S c : List Nat} {o d v ch : Nat} {cp : Nat → Bool} (h : isd ch) (hd : ¬ (d = 0 ∨ d = 3)) : stepC (false, S, c ++ [v], o, cp, d, v) ch = some (false, S, c ++ [10 * v + (ch - 48)], o, cp, d + 1, 10 * v + (ch - 48)) := by
  unfold stepC
  rw [if_pos h]
  show (if false = true then _ else if d = 0 ∨ d = 3 then none else some (false, S, (c ++ [v]).dropLast ++ [v * 10 + (ch - 48)], o, cp, d + 1, v * 10 + (ch - 48))) = _
  rw [if_neg (by decide), if_neg hd, List.dropLast_concat, Nat.mul_comm]
theorem numC {deep p : Nat} {s : CS} (hd : isDg T L p = true) (hw : c_w s = true) (ho : c_o s = deep) : SPC T L deep 4 (fun _ => True) s p ([(pnum T L p).1], (pnum T L p).2, none) := by
  refine ⟨fun _ => ?_, fun w e => by cases e⟩
  obtain ⟨h1, h2⟩ := isDg_iff.mp hd
  have st1 : stepC s (T p) = some (false, c_S s, c_c s ++ [T p - 48], c_o s, c_p s, 1, T p - 48) := by
    unfold stepC
    rw [if_pos h2, if_pos hw]
  have r1 := one_step st1
  unfold pnum
  by_cases d1 : isDg T L (p + 1) = true
  · obtain ⟨h3, h4⟩ := isDg_iff.mp d1
    rw [if_pos d1]
    have st2 : stepC (false, c_S s, c_c s ++ [T p - 48], c_o s, c_p s, 1, T p - 48) (T (p + 1)) = some (false, c_S s, c_c s ++ [10 * (T p - 48) + (T (p + 1) - 48)], c_o s, c_p s, 2, 10 * (T p - 48) + (T (p + 1) - 48)) := step_more h4 (by decide)
    have r2 := rnK_step (by omega) r1 st2
    by_cases d2 : isDg T L (p + 2) = true
    · obtain ⟨h5, h6⟩ := isDg_iff.mp d2
      rw [if_pos d2]
      have st3 : stepC (false, c_S s, c_c s ++ [10 * (T p - 48) + (T (p + 1) - 48)], c_o s, c_p s, 2, 10 * (T p - 48) + (T (p + 1) - 48)) (T (p + 1 + 1)) = some (false, c_S s, c_c s ++ [10 * (10 * (T p - 48) + (T (p + 1) - 48)) + (T (p + 2) - 48)], c_o s, c_p s, 3, 10 * (10 * (T p - 48) + (T (p + 1) - 48)) + (T (p + 2) - 48)) := step_more h6 (by decide)
      have r3 := rnK_step (by omega) r2 st3
      exact ⟨by show p < p + 3; omega, by show p + 3 ≤ L; omega, fun _ => trivial, _, r3, rfl, ho, fun i hi => rfl, rfl, fun _ h => step_d0 rfl (Or.inr rfl) h⟩
    · rw [if_neg d2]
      exact ⟨by show p < p + 2; omega, by show p + 2 ≤ L; omega, fun _ => trivial, _, r2, rfl, ho, fun i hi => rfl, rfl, fun q h => absurd (isDg_iff.mpr ⟨q, h⟩) d2⟩
  · rw [if_neg d1]
    exact ⟨by show p < p + 1; omega, by show p + 1 ≤ L; omega, fun _ => trivial, _, r1, rfl, ho, fun i hi => rfl, rfl, fun q h => absurd (isDg_iff.mpr ⟨q, h⟩) d1⟩
theorem thgC (hL : L ≤ 40) (hT : ∀ i, i < L → T i < 256) : ∀ g deep p s, 41 < g + p → p ≤ L → deep ≤ 4 → c_w s = true → c_o s = deep → SPC T L deep 4 (fun _ => True) s p (pthg T L g deep p) := by
  intro g
  induction g with
  | zero => intro deep p s h hp; omega
  | succ g ih =>
    intro deep p s hg hp hd hw ho
    unfold pthg
    by_cases c1 : p < L ∧ T p = 45
    · rw [if_pos c1]
      obtain ⟨a, b⟩ := c1
      have st : stepC s (T p) = some (true, 3000 :: c_S s, c_c s, c_o s, c_p s, 0, c_n s) := by
        unfold stepC
        rw [b, if_neg (by decide), if_pos hw, if_pos rfl]
      have r1 := one_step st
      have sp := ih deep (p + 1) (true, 3000 :: c_S s, c_c s, c_o s, c_p s, 0, c_n s) (by omega) (by omega) hd rfl ho
      generalize pthg T L g deep (p + 1) = r at sp ⊢
      refine ⟨fun e => ?_, fun w e => (sp.2 w e).pre (by omega) r1⟩
      obtain ⟨a1, a2, a3, s1, a4, a5, a6, a7, a8, a9⟩ := sp.1 e
      refine ⟨by show p < r.2.1; omega, a2, a3, s1, rnK_to (q := p + 1) (r := r.2.1) (by omega) (by omega) r1 a4, a5, a6, a7, ?_, a9⟩
      rw [a8]
      show setl 4 (3000 :: c_S s) (c_c s ++ r.1) = setl 4 (c_S s) (c_c s ++ (r.1 ++ [3000]))
      rw [setl_pop (by decide), List.append_assoc]
    · rw [if_neg c1]
      by_cases c2 : p < L ∧ T p = 40 ∧ deep < 4
      · rw [if_pos c2]
        obtain ⟨a, b, cc⟩ := c2
        obtain ⟨s2, hs2⟩ : ∃ s2 : CS, s2 = (true, 2040 :: c_S s, c_c s, deep + 1, va_up (c_p s) (deep + 1) false, 0, c_n s) := ⟨_, rfl⟩
        have st : stepC s (T p) = some s2 := by
          unfold stepC
          rw [b, if_neg (by decide), if_pos hw, if_neg (by decide), if_pos rfl, ho, if_neg (by omega), hs2]
        have r1 := one_step st
        have hd := heldC (deep := deep + 1) (p0 := p + 1) (it := pthg T L g (deep + 1)) hL hT (fun p' s' q1 q2 q3 q4 => ih (deep + 1) p' s' (by omega) q2 (by omega) q3 q4) (p + 1) s2 (Nat.le_refl _) (by omega) (by rw [hs2]) (by rw [hs2]) (by rw [hs2]; exact TOP.cons (by decide)) (by rw [hs2]; show va_up (c_p s) (deep + 1) false (deep + 1) = false; unfold va_up; rw [if_pos rfl])
        generalize pheld T L (pthg T L g (deep + 1)) (p + 1) = r at hd ⊢
        by_cases e : r.2.2 = none
        · rw [if_pos e]
          obtain ⟨a1, a2, s1, a4, a5, a6, a7, a8, a9⟩ := hd.1 e
          have r2 := rnK_to (q := p + 1) (r := r.2.1) (by omega) (by omega) r1 a4
          by_cases e2 : r.2.1 < L ∧ T r.2.1 = 41
          · rw [if_pos e2]
            have a8' : setl 1 (c_S s1) (c_c s1) = (2040 :: c_S s, c_c s ++ r.1) := by
              rw [a8, hs2]
              exact setl_top (TOP.cons (by decide))
            have st2 : stepC s1 (T r.2.1) = some (false, c_S s, c_c s ++ r.1, deep, c_p s1, 0, c_n s1) := by
              unfold stepC
              rw [e2.2, if_neg (by decide), if_neg (by rw [a5]; decide), if_pos rfl, a6, if_neg (by omega), a8']
              rfl
            have r3 := rnK_step (by omega) r2 st2
            refine ⟨fun _ => ⟨by show p < r.2.1 + 1; omega, by show r.2.1 + 1 ≤ L; omega, fun _ => trivial, _, r3, rfl, rfl, fun i hi => ?_, rfl, fun _ h => step_d0 rfl (Or.inl rfl) h⟩, fun w e => by cases e⟩
            show c_p s1 i = c_p s i
            rw [a7 i (by omega), hs2]
            show va_up (c_p s) (deep + 1) false i = _
            unfold va_up; rw [if_neg (by omega)]
          · rw [if_neg e2]
            refine ⟨fun e => (by cases e), fun w ew => ?_⟩
            cases ew
            exact ⟨by omega, a2, s1, r2, fun q => a9 q (fun z => e2 ⟨q, z⟩), fun _ => Or.inr (by rw [a6]; omega)⟩
        · rw [if_neg e]
          exact ⟨fun z => absurd z e, fun w ew => (hd.2 w ew).pre (by omega) r1⟩
      · rw [if_neg c2]
        by_cases c3 : isDg T L p = true
        · rw [if_pos c3]
          exact numC c3 hw ho
        · rw [if_neg c3]
          by_cases c4 : p < L
          · rw [if_pos c4]
            have nd : ¬ isd (T p) := fun z => c3 (isDg_iff.mpr ⟨c4, z⟩)
            have n45 : T p ≠ 45 := fun z => c1 ⟨c4, z⟩
            cases e : ltr (T p) with
            | some k =>
              obtain ⟨-, -, q3, -⟩ := ltr_n k _ e
              have st : stepC s (T p) = some (false, c_S s, c_c s ++ [1000 + k], c_o s, c_p s, 0, c_n s) := by
                unfold stepC
                rw [if_neg nd, if_pos hw, if_neg n45, if_neg q3, e]
                rfl
              have r1 := one_step st
              exact ⟨fun _ => ⟨by show p < p + 1; omega, by show p + 1 ≤ L; omega, fun _ => trivial, _, r1, rfl, ho, fun i hi => rfl, rfl, fun _ h => step_d0 rfl (Or.inl rfl) h⟩, fun w e => by cases e⟩
            | none =>
              refine ⟨fun z => (by cases z), fun w ew => ?_⟩
              cases ew
              refine ⟨Nat.le_refl _, hp, s, by rw [Nat.sub_self]; rfl, fun _ => ?_, fun z => by omega⟩
              unfold stepC
              rw [if_neg nd, if_pos hw, if_neg n45]
              by_cases q : T p = 40
              · have : deep = 4 := by
                  by_cases z : deep < 4
                  · exact absurd ⟨c4, q, z⟩ c2
                  · omega
                rw [if_pos q, ho, if_pos this]
              · rw [if_neg q, e]; rfl
          · rw [if_neg c4]
            refine ⟨fun z => (by cases z), fun w ew => ?_⟩
            cases ew
            exact ⟨Nat.le_refl _, hp, s, by rw [Nat.sub_self]; rfl, fun z => absurd z c4, fun _ => Or.inl hw⟩
/-- what the class finds -/
def s00 : CS := (true, [], [], 0, fun _ => false, 0, 0)
def CRes (T : Nat → Nat) (n : Nat) (o : Option Nat) (code : List Nat) : Prop := match o with
  | some w => w ≤ n ∧ w ≤ 40 ∧ ∃ s', rnK T w 0 s00 = some s' ∧ ((w = 40 ∧ w < n) ∨ (w < n ∧ w < 40 ∧ stepC s' (T w) = none) ∨ (w = n ∧ (c_w s' = true ∨ 0 < c_o s')))
  | none => n ≤ 40 ∧ ∃ s', rnK T n 0 s00 = some s' ∧ c_w s' = false ∧ c_o s' = 0 ∧ setl 1 (c_S s') (c_c s') = ([], code)
/-- what the reading by parts finds -/
def prs (T : Nat → Nat) (n : Nat) : PR := pheld T (min n 40) (pthg T (min n 40) 60 0) 0
def pw (T : Nat → Nat) (n : Nat) : Option Nat := match (prs T n).2.2 with
  | some w => some w
  | none => if (prs T n).2.1 < n then some (prs T n).2.1 else none
theorem read_agree {n : Nat} (hT : ∀ i, i < n → T i < 256) (hn : 0 < n) : CRes T n (pw T n) (prs T n).1 ∧ (pw T n = none → (prs T n).2.1 = n ∧ n ≤ 40) := by
  have h := heldC (T := T) (L := min n 40) (deep := 0) (p0 := 0) (it := pthg T (min n 40) 60 0) (by omega) (fun i hi => hT i (by omega)) (fun p s q1 q2 q3 q4 => thgC (by omega) (fun i hi => hT i (by omega)) 60 0 p s (by omega) q2 (by omega) q3 q4) 0 s00 (Nat.le_refl _) (by omega) rfl rfl (fun w R e => by cases e) rfl
  have h : HLD T (min n 40) 0 s00 0 (prs T n) := h
  unfold pw
  generalize prs T n = r at h ⊢
  cases e : r.2.2 with
  | some w =>
    obtain ⟨b1, b2, s', b3, b4, b5⟩ := h.2 w e
    rw [Nat.sub_zero] at b3
    refine ⟨⟨by omega, by omega, s', b3, ?_⟩, fun z => by cases z⟩
    by_cases c : w < min n 40
    · exact Or.inr (Or.inl ⟨by omega, by omega, b4 c⟩)
    · have ew : w = min n 40 := by omega
      by_cases c2 : w < n
      · exact Or.inl ⟨by omega, c2⟩
      · exact Or.inr (Or.inr ⟨by omega, b5 ew⟩)
  | none =>
    obtain ⟨a1, a2, s1, a4, a5, a6, a7, a8, a9⟩ := h.1 e
    rw [Nat.sub_zero] at a4
    dsimp only
    by_cases c : r.2.1 < n
    · rw [if_pos c]
      refine ⟨⟨by omega, by omega, s1, a4, ?_⟩, fun z => by cases z⟩
      by_cases c2 : r.2.1 < min n 40
      · refine Or.inr (Or.inl ⟨c, by omega, ?_⟩)
        by_cases c3 : T r.2.1 = 41
        · unfold stepC
          rw [c3, if_neg (by decide), if_neg (by rw [a5]; decide), if_pos rfl, if_pos a6]
        · exact a9 c2 c3
      · exact Or.inl ⟨by omega, c⟩
    · rw [if_neg c]
      have en : r.2.1 = n := by omega
      refine ⟨⟨by omega, s1, by rw [← en]; exact a4, a5, a6, ?_⟩, fun _ => ⟨en, by omega⟩⟩
      rw [a8]
      rfl
end THG
