/-! a rule: what was read is good; the reference's readRule -/
def GDP (r : PR) : Prop := (∀ w, w ∈ r.1 → w < 4000) ∧ (r.2.2 = none → ∀ q, ∃ v, VAL q r.1 v)
section GD
variable {T : Nat → Nat} {L : Nat}
theorem ploop_good (hT : ∀ i, i < L → T i < 256) {o1 o2 : Nat} {it : Nat → PR} (hit : ∀ p, GDP (it p)) : ∀ f r, GDP r → GDP (ploop T L o1 o2 it f r) := by
  intro f
  induction f with
  | zero => intro r h; exact h
  | succ f ih =>
    intro r h
    show GDP (if r.2.2 = none ∧ r.2.1 < L ∧ (T r.2.1 = o1 ∨ T r.2.1 = o2) then ploop T L o1 o2 it f (r.1 ++ (it (r.2.1 + 1)).1 ++ [2000 + T r.2.1], (it (r.2.1 + 1)).2) else r)
    by_cases c : r.2.2 = none ∧ r.2.1 < L ∧ (T r.2.1 = o1 ∨ T r.2.1 = o2)
    · rw [if_pos c]
      have t := hT _ c.2.1
      refine ih _ ⟨fun w hw => ?_, fun e q => ?_⟩
      · rcases List.mem_append.mp hw with z | z
        · rcases List.mem_append.mp z with y | y
          · exact h.1 w y
          · exact (hit _).1 w y
        · have : w = 2000 + T r.2.1 := by simpa using z
          omega
      · obtain ⟨a, ha⟩ := h.2 c.1 q
        obtain ⟨b, hb⟩ := (hit (r.2.1 + 1)).2 e q
        exact ⟨_, ha.bin hb (by omega) (by omega)⟩
    · rw [if_neg c]; exact h
theorem pheld_good (hT : ∀ i, i < L → T i < 256) {it : Nat → PR} (hit : ∀ p, GDP (it p)) (p : Nat) : GDP (pheld T L it p) := by
  have pp : ∀ p, GDP (pprod T L it p) := fun p => ploop_good hT hit 100 (it p) (hit p)
  have ps : ∀ p, GDP (psum T L it p) := fun p => ploop_good hT pp 100 (pprod T L it p) (pp p)
  unfold pheld
  by_cases c : (psum T L it p).2.2 = none ∧ (psum T L it p).2.1 < L ∧ (T (psum T L it p).2.1 = 60 ∨ T (psum T L it p).2.1 = 62 ∨ T (psum T L it p).2.1 = 61)
  · rw [if_pos c]
    have t := hT _ c.2.1
    refine ⟨fun w hw => ?_, fun e q => ?_⟩
    · rcases List.mem_append.mp hw with z | z
      · rcases List.mem_append.mp z with y | y
        · exact (ps p).1 w y
        · exact (ps _).1 w y
      · have : w = 2000 + T (psum T L it p).2.1 := by simpa using z
        omega
    · obtain ⟨a, ha⟩ := (ps p).2 c.1 q
      obtain ⟨b, hb⟩ := (ps ((psum T L it p).2.1 + 1)).2 e q
      exact ⟨_, ha.bin hb (by omega) (by omega)⟩
  · rw [if_neg c]; exact ps p
theorem pthg_good (hT : ∀ i, i < L → T i < 256) : ∀ g deep p, GDP (pthg T L g deep p) := by
  intro g
  induction g with
  | zero => intro deep p; exact ⟨fun w hw => absurd hw (by show ¬ w ∈ ([] : List Nat); simp), fun e => by cases e⟩
  | succ g ih =>
    intro deep p
    unfold pthg
    by_cases c1 : p < L ∧ T p = 45
    · rw [if_pos c1]
      refine ⟨fun w hw => ?_, fun e q => ?_⟩
      · rcases List.mem_append.mp hw with z | z
        · exact (ih _ _).1 w z
        · have : w = 3000 := by simpa using z
          omega
      · obtain ⟨a, ha⟩ := (ih deep (p + 1)).2 e q
        exact ⟨_, ha.neg⟩
    · rw [if_neg c1]
      have ph := pheld_good hT (ih (deep + 1)) (p + 1)
      by_cases c2 : p < L ∧ T p = 40 ∧ deep < 4
      · rw [if_pos c2]
        generalize pheld T L (pthg T L g (deep + 1)) (p + 1) = r at ph ⊢
        by_cases e : r.2.2 = none
        · rw [if_pos e]
          by_cases e2 : r.2.1 < L ∧ T r.2.1 = 41
          · rw [if_pos e2]; exact ⟨ph.1, fun _ => ph.2 e⟩
          · rw [if_neg e2]; exact ⟨ph.1, fun z => by cases z⟩
        · rw [if_neg e]; exact ph
      · rw [if_neg c2]
        by_cases c3 : isDg T L p = true
        · rw [if_pos c3]
          have lt : (pnum T L p).1 < 1000 := by
            obtain ⟨-, d2⟩ := isDg_iff.mp c3
            have := d2.2
            unfold pnum
            by_cases e1 : isDg T L (p + 1) = true
            · rw [if_pos e1]
              have := (isDg_iff.mp e1).2.2
              by_cases e2 : isDg T L (p + 2) = true
              · rw [if_pos e2]
                have := (isDg_iff.mp e2).2.2
                show 10 * (10 * (T p - 48) + (T (p + 1) - 48)) + (T (p + 2) - 48) < 1000
                omega
              · rw [if_neg e2]
                show 10 * (T p - 48) + (T (p + 1) - 48) < 1000
                omega
            · rw [if_neg e1]
              show T p - 48 < 1000
              omega
          refine ⟨fun w hw => ?_, fun _ q => ⟨nI (pnum T L p).1, fun st => ?_⟩⟩
          · have : w = (pnum T L p).1 := by simpa using hw
            omega
          · show ex1 q st (pnum T L p).1 = _
            unfold ex1
            rw [if_pos (by omega), if_neg (by omega)]
        · rw [if_neg c3]
          have bad : GDP ([], p, some p) := ⟨fun w hw => absurd hw (by show ¬ w ∈ ([] : List Nat); simp), fun e => by cases e⟩
          by_cases c4 : p < L
          · rw [if_pos c4]
            cases e : ltr (T p) with
            | none => exact bad
            | some k =>
              obtain ⟨-, -, -, k7⟩ := ltr_n k _ e
              refine ⟨fun w hw => ?_, fun _ q => ⟨q k, fun st => ?_⟩⟩
              · have : w = 1000 + k := by simpa using hw
                omega
              · show ex1 q st (1000 + k) = _
                unfold ex1
                rw [if_pos (by omega), if_pos ⟨by omega, by omega⟩, Nat.add_sub_cancel_left]
          · rw [if_neg c4]; exact bad
theorem prs_good {n : Nat} (hT : ∀ i, i < n → T i < 256) : GDP (prs T n) := pheld_good (fun i hi => hT i (by omega)) (pthg_good (fun i hi => hT i (by omega)) 60 0) 0
theorem pw_none {n : Nat} (e : pw T n = none) : (prs T n).2.2 = none := by
  unfold pw at e
  cases q : (prs T n).2.2 with
  | none => rfl
  | some w => rw [q] at e; cases e
end GD
/-- the reference reads a rule from any of its texts -/
theorem heldTop {a n : Nat} {T : Nat → Nat} {y : Nat → Int32} {h : aH} (r : RD a T n 40 0 none h) (hT : ∀ i, i < n → T i < 256) (k : AKD y h) : ∃ u h', fn_X12_held (fn_X12_thing 60) h 86 0 = some (u, h') ∧ SIM a T n y h (prs T n) u h' := by
  have TH : THM a T n y 0 (fun h => fn_X12_thing 60 h 86 (nI 0)) (pthg T (min n 40) 60 0) := by
    refine ⟨fun p' h' q1 q2 q3 q4 => thgM (fun i hi => hT i (by omega)) 60 0 p' h' (by omega) q2 (by decide) q3 q4, fun p' q1 q2 e => ?_⟩
    obtain ⟨z1, z2, -⟩ := (thgC (T := T) (L := min n 40) (by omega) (fun i hi => hT i (by omega)) 60 0 p' (true, [], [], 0, fun _ => false, 0, 0) (by omega) q2 (by omega) rfl rfl).1 e
    exact ⟨z1, z2⟩
  exact heldM (deep := 0) TH 0 h (Nat.le_refl _) (by omega) r k
def rlM (a j : Nat) : Bool := noM a j || ((a == 86 && (j == 20 || j == 21)) || (a == 94 || a == 95))
theorem noM_rl (a j : Nat) (e : rlM a j = false) : noM a j = false := by unfold rlM at e; simp at e; simp [e]
theorem rdS_rl (a j : Nat) (e : rlM a j = false) : rdS a j = false := rdS_no a j (noM_rl a j e)
def rrM (a j : Nat) : Bool := noM a j || (a == 86 && j == 21)
theorem noM_rr (a j : Nat) (e : rrM a j = false) : noM a j = false := by unfold rrM at e; simp at e; simp [e]
theorem rdS_rr (a j : Nat) (e : rrM a j = false) : rdS a j = false := rdS_no a j (noM_rr a j e)
theorem rrM_rl (a j : Nat) (e : rlM a j = false) : rrM a j = false := by unfold rlM at e; unfold rrM; simp at e ⊢; exact ⟨e.1, by omega⟩
theorem readRule_M {n : Nat} {T : Nat → Nat} {M : aH} (m : Wf M) (e8 : hI M 86 8 = nI n) (hn : n ≤ 80) (tT : ∀ i, i < n → T i < 256 ∧ hI M 91 i &&& 255 = nI (T i) ∧ (T i < 128 → hI M 91 i = nI (T i))) :
    ∃ b h', fn_X12_readRule M 86 = some (b2 b, h') ∧ Fr rrM M h' ∧ hI h' 86 8 = 0 ∧ ((b = true ∧ (n = 0 ∨ (0 < n ∧ pw T n = none))) ∨ (b = false ∧ 0 < n ∧ ∃ w, pw T n = some w ∧ gI h' 86 11 16 = some (nI w))) := by
  obtain ⟨M1, b1, r1, b3, b4⟩ := beginText_M (T := T) (n := n) (top := 40) m e8 hn (by decide) tT
  have b1' : fn_X12_beginText M 86 40 = some M1 := b1
  have m1 := r1.1
  have z1 : pZ M1 86 11 21 0 = some (sI M1 86 21 (b2 false)) := pZ21 m1 false
  have m2 : Wf (sI M1 86 21 (b2 false)) := m1
  have r2 : RD 91 T n 40 0 none (sI M1 86 21 (b2 false)) := by
    refine r1.to (S := fun a j => a == 86 && j == 21) ((Fr.refl _ _).sI _ rfl) (fun j h1 h2 => ?_) (fun _ => rfl)
    have : (j == 21) = false := by simp; omega
    simp [this]
  have g13 : gI (sI M1 86 21 (b2 false)) 86 11 13 = some (nI n) := by rw [w_gI m2 86 11 13 rfl, r2.2.2.1]
  have F2 : Fr rrM M (sI M1 86 21 (b2 false)) := (b3.mono (fun a j e => btM_no a j (noM_rr a j e))).sI _ rfl
  have k8 : hI (sI M1 86 21 (b2 false)) 86 8 = 0 := by rw [hI_row, if_neg (by decide)]; exact b4
  by_cases n0 : n = 0
  · refine ⟨true, sI M1 86 21 (b2 false), ?_, F2, k8, Or.inl ⟨rfl, Or.inl n0⟩⟩
    have wr : fn_X12_wasRight (sI M1 86 21 (b2 false)) 86 = some (1, sI M1 86 21 (b2 false)) := by
      rcases wasRight_M r2 with ⟨-, -, e⟩ | ⟨h', x, -, e, -⟩
      · exact e
      · have := e rfl; omega
    unfold fn_X12_readRule
    simp only [k_86 m, Option.bind_some, b1', z1, g13]
    rw [if_pos (show nI n ≤ 0 by rw [n0]; decide), Option.bind_some, k_86 m2, Option.bind_some, wr]
    rfl
  · obtain ⟨u, h3, e3, S1, S2, -⟩ := heldTop (y := fun _ => 0) r2 (fun i hi => (tT i hi).1) (Or.inl (by rw [hI_row, if_pos rfl]; rfl))
    have m3 := S2.1
    have top : ∀ b h', fn_X12_wasRight h3 86 = some (b2 b, h') → fn_X12_readRule M 86 = some (b2 b, h') := by
      intro b h' e
      unfold fn_X12_readRule
      simp only [k_86 m, Option.bind_some, b1', z1, g13]
      rw [if_neg (show ¬ nI n ≤ 0 from nI_ge (a := 0) (by omega) (by omega))]
      simp only [k_86 m2, Option.bind_some, e3, k_86 m3, e, bz_b2]
    have F3 : Fr rrM M h3 := F2.trans (S1.mono rdS_rr)
    have k83 : hI h3 86 8 = 0 := by rw [S1.i 86 8 rfl]; exact k8
    rcases wasRight_M S2 with ⟨q1, q2, q3⟩ | ⟨h', x, q1, q2, q3, q4, q5⟩
    · refine ⟨true, h3, top true h3 q3, F3, k83, Or.inl ⟨rfl, Or.inr ⟨by omega, ?_⟩⟩⟩
      unfold pw
      rw [q1]
      dsimp only
      rw [if_neg (by omega)]
    · refine ⟨false, h', top false h' q3, F3.trans (q5.mono rdS_rr), by rw [q5.i 86 8 rfl]; exact k83, Or.inr ⟨rfl, by omega, x, ?_, ?_⟩⟩
      · unfold pw
        cases e : (prs T n).2.2 with
        | some w =>
          rw [e] at q1
          exact q1
        | none =>
          rw [e] at q1
          dsimp only
          rw [if_pos (q2 e)]
          exact q1
      · rw [w_gI q4.1 86 11 16 rfl, q4.2.2.2.2.2.1]
        rfl
/-- a rule's copy in the reference's cells, and what it is worth -/
theorem RuleM_of {n q : Nat} {T : Nat → Nat} {h : aH} (hq : q = 94 ∨ q = 95) (h18 : hR h 86 18 = some q) (h20 : hI h 86 20 = nI n) (hn : 0 < n) (hn40 : n ≤ 40) (tT : ∀ i, i < n → T i < 256 ∧ hI h q i &&& 255 = nI (T i) ∧ (T i < 128 → hI h q i = nI (T i))) (ok : pw T n = none) : RuleM h q (semOf (prs T n).1) := by
  refine ⟨h18, hq, Or.inr ⟨by rw [h20]; exact nI_ge (a := 0) hn (by omega), fun h' y w a1 a2 a3 a4 a5 a6 a7 a8 a9 => ?_⟩⟩
  have r : RD q T n 40 0 none h' := by
    refine ⟨w, a4, a5.trans h20, a6, a7, a8, by omega, by decide, by decide, (fun p e => by cases e), ?_, ?_, fun i hi => ?_⟩
    · rcases hq with rfl | rfl
      · exact ⟨40, rfl, hn40, by decide⟩
      · exact ⟨40, rfl, hn40, by decide⟩
    · rcases hq with rfl | rfl <;> decide
    · rw [a1]; exact tT i hi
  obtain ⟨u, h'', e, S1, S2, S3⟩ := heldTop r (fun i hi => (tT i hi).1) (Or.inr ⟨a3, a9⟩)
  refine ⟨h'', ?_, S1⟩
  have v := S3 a3 (pw_none ok)
  have : semOf (prs T n).1 y = u := by
    unfold semOf
    rw [v []]
    rfl
  rw [this]; exact e
