/-! the signs of a night, read by the reference -/
def rdA (a j : Nat) : Bool := rdS a j || a == 101
theorem rdS_A (a j : Nat) (e : rdA a j = false) : rdS a j = false := by unfold rdA at e; simp at e; simp [e]
section NightM
variable {T : Nat → Nat} {n : Nat} {h : aH}
theorem RD.w101 {a top p : Nat} {wr : Option Nat} (r : RD a T n top p wr h) (ha : a ≠ 101) (j : Nat) (x : Int32) : RD a T n top p wr (sI h 101 j x) :=
  r.to (S := fun a j => a == 101) ((Fr.refl _ h).sI _ rfl) (fun _ _ _ => rfl) (fun _ => by simp [ha])
/-- a digit read and written at its place -/
theorem sec_eq {p : Nat} {wr : Option Nat} (r : RD 91 T n 60 p wr h) {f m k : Nat} (hf : f + m ≤ 128) (hm : 1 ≤ m) (hp : p < 400) (hk : k < 240) (g : Int32 → Int32) : ∃ h' v, ((gR h 86 11 30).bind fun a => (ck h 86 11).bind fun _ => (fn_X12_oneOf h 86 (nI f) (nI m)).bind fun o => (wI o.2 a (nI k) (g o.1)).bind fun h2 => some h2) = some h' ∧ Fr rdA h h' ∧ (∀ j, j ≠ k → hI h' 101 j = hI h 101 j) ∧ hI h' 101 k = g (nI v) ∧
    ((wr = none ∧ p < min n 60 ∧ f ≤ T p ∧ T p < f + m ∧ v = T p - f ∧ RD 91 T n 60 (p + 1) none h') ∨ (wr = none ∧ ¬ (p < min n 60 ∧ f ≤ T p ∧ T p < f + m) ∧ RD 91 T n 60 p (some p) h') ∨ (wr ≠ none ∧ RD 91 T n 60 p wr h')) := by
  have w := r.1
  obtain ⟨h1, v, e1, f1, cs⟩ := oneOf_M r hf hp hm
  have w1 := f1.wf w
  have e101 : hI h1 101 = hI h 101 := f1.row 101 fun _ => rfl
  refine ⟨sI h1 101 k (g (nI v)), v, ?_, (f1.mono rdS_A).sI _ rfl, fun j hj => ?_, ?_, ?_⟩
  · rw [g_86_30 w, Option.bind_some, k_86 w, Option.bind_some, e1, Option.bind_some, wI_eq w1 101 240 rfl k hk (by decide), Option.bind_some]
  · rw [hI_sI, if_neg (fun q => hj q.2), e101]
  · rw [hI_sI, if_pos ⟨rfl, rfl⟩]
  · rcases cs with ⟨c1, c2, c3, c4, c5, c6⟩ | ⟨c1, c2, -, c4⟩ | ⟨c1, -, c3⟩
    · exact Or.inl ⟨c1, c2, c3, c4, c5, c6.w101 (by decide) _ _⟩
    · exact Or.inr (Or.inl ⟨c1, c2, c4.w101 (by decide) _ _⟩)
    · subst c3
      exact Or.inr (Or.inr ⟨c1, r.w101 (by decide) _ _⟩)
def tlA (h : aH) (p1 x2 : Int32) : Option aH :=
  (gI h 86 11 15).bind fun x3 => (pI h 86 11 15 (x3 + 1)).bind fun h4 => (gR h4 86 11 30).bind fun a5 => (wI h4 a5 p1 x2).bind fun h6 =>
  (gR h6 86 11 30).bind fun a7 => (ck h6 86 11).bind fun u8 => (fn_X12_oneOf h6 86 48 10).bind fun o9 => (wI o9.2 a7 (p1 + 1) o9.1).bind fun h10 =>
  ((if x2 = 112 then (gR h10 86 11 30).bind fun a17 => (ck h10 86 11).bind fun u18 => (fn_X12_oneOf h10 86 49 9).bind fun o19 => (wI o19.2 a17 (p1 + 2) (o19.1 + 1)).bind fun h20 => some h20
    else if x2 = 108 then (gR h10 86 11 30).bind fun a21 => (ck h10 86 11).bind fun u22 => (fn_X12_oneOf h10 86 49 9).bind fun o23 => (wI o23.2 a21 (p1 + 2) (o23.1 + 1)).bind fun h24 => some h24 else some h10) : Option aH).bind fun t11 =>
  if x2 = 109 then (gR t11 86 11 30).bind fun a12 => (ck t11 86 11).bind fun u13 => (fn_X12_oneOf t11 86 48 10).bind fun o14 => (wI o14.2 a12 (p1 + 2) o14.1).bind fun h15 => some h15 else some t11
theorem readAct_eq (w : Wf h) (p1 : Int32) : fn_X12_readAct h 86 p1 = (fn_X12_here h 86).bind fun x2 => if x2 = 110 then tlA h p1 x2 else if x2 = 112 then tlA h p1 x2 else if x2 = 108 then tlA h p1 x2 else if x2 = 98 then tlA h p1 x2 else if x2 = 107 then tlA h p1 x2 else if x2 = 109 then tlA h p1 x2 else (gI h 86 11 15).bind fun x147 => (ck h 86 11).bind fun u148 => (fn_X12_fault h 86 x147).bind fun h149 => some h149 := by
  unfold fn_X12_readAct
  rw [k_86 w, Option.bind_some]
  rfl
/-- what reading an act leaves -/
def ActR (T : Nat → Nat) (n p k : Nat) (h h' : aH) : Prop :=
  Fr rdA h h' ∧ (∀ j, j < 3 * k → hI h' 101 j = hI h 101 j) ∧
  ((aw T (min n 60) p = none ∧ RD 91 T n 60 (p + sl (T p)) none h' ∧ hI h' 101 (3 * k) = nI (T p) ∧ hI h' 101 (3 * k + 1) = nI (dg T n (p + 1)) ∧ (sl (T p) = 3 → hI h' 101 (3 * k + 2) = nI (dg T n (p + 2)))) ∨ ∃ x q, aw T (min n 60) p = some x ∧ x ≤ 500 ∧ RD 91 T n 60 q (some x) h')
theorem tlA_eq {p : Nat} (r : RD 91 T n 60 p none h) (hp : p < min n 60) (hc : 0 < sl (T p)) {k : Nat} (hk : k < 80) : ∃ h', tlA h (nI (3 * k)) (nI (T p)) = some h' ∧ ActR T n p k h h' := by
  have w := r.1
  have hn := r.2.2.2.2.2.2.1
  have tp := (r.2.2.2.2.2.2.2.2.2.2.2.2 p (by omega)).1
  have r4 := r.at (q := p + 1) (by omega)
  obtain ⟨h4, e4⟩ : ∃ h4, h4 = sI h 86 15 (nI (p + 1)) := ⟨_, rfl⟩
  rw [← e4] at r4
  have w4 := r4.1
  have f4 : Fr rdA h h4 := by rw [e4]; exact (Fr.refl _ h).sI _ rfl
  obtain ⟨h6, e6⟩ : ∃ h6, h6 = sI h4 101 (3 * k) (nI (T p)) := ⟨_, rfl⟩
  have r6 : RD 91 T n 60 (p + 1) none h6 := by rw [e6]; exact r4.w101 (by decide) _ _
  have w6 := r6.1
  have f6 : Fr rdA h h6 := by rw [e6]; exact f4.sI _ rfl
  have g4 : hI h4 101 = hI h 101 := by rw [e4]; rfl
  have a6 : hI h6 101 (3 * k) = nI (T p) := by rw [e6, hI_sI, if_pos ⟨rfl, rfl⟩]
  have b6 : ∀ j, j ≠ 3 * k → hI h6 101 j = hI h 101 j := fun j hj => by rw [e6, hI_sI, if_neg (fun q => hj q.2), g4]
  obtain ⟨h10, v, q1, q2, q3, q4, cs⟩ := sec_eq r6 (f := 48) (m := 10) (k := 3 * k + 1) (by decide) (by decide) (by omega) (by omega) (fun x => x)
  have w10 := (q2.trans (Fr.refl _ h10)).wf w6
  have f10 : Fr rdA h h10 := f6.trans q2
  have head : tlA h (nI (3 * k)) (nI (T p)) = (((if nI (T p) = 112 then (gR h10 86 11 30).bind fun a17 => (ck h10 86 11).bind fun u18 => (fn_X12_oneOf h10 86 (nI 49) (nI 9)).bind fun o19 => (wI o19.2 a17 (nI (3 * k + 2)) (o19.1 + 1)).bind fun h20 => some h20 else if nI (T p) = 108 then (gR h10 86 11 30).bind fun a21 => (ck h10 86 11).bind fun u22 => (fn_X12_oneOf h10 86 (nI 49) (nI 9)).bind fun o23 => (wI o23.2 a21 (nI (3 * k + 2)) (o23.1 + 1)).bind fun h24 => some h24 else some h10) : Option aH).bind fun t11 => if nI (T p) = 109 then (gR t11 86 11 30).bind fun a12 => (ck t11 86 11).bind fun u13 => (fn_X12_oneOf t11 86 (nI 48) (nI 10)).bind fun o14 => (wI o14.2 a12 (nI (3 * k + 2)) o14.1).bind fun h15 => some h15 else some t11) := by
    have s1 : nI (3 * k) + 1 = nI (3 * k + 1) := nI_1 _
    have s2 : nI (3 * k) + 2 = nI (3 * k + 2) := nI_add (3 * k) 2
    unfold tlA
    rw [w_gI w 86 11 15 rfl, Option.bind_some, r.2.2.2.2.1, nI_1, w_pI w 86 11 15 _ rfl, Option.bind_some, ← e4, g_86_30 w4, Option.bind_some, wI_eq w4 101 240 rfl (3 * k) (by omega) (by decide), Option.bind_some, ← e6, s1, s2]
    have q1' : ((gR h6 86 11 30).bind fun a7 => (ck h6 86 11).bind fun u8 => (fn_X12_oneOf h6 86 48 10).bind fun o9 => wI o9.2 a7 (nI (3 * k + 1)) o9.1) = some h10 := by
      have : ∀ z : Option aH, (z.bind fun h2 => some h2) = z := fun z => by cases z <;> rfl
      simp only [this] at q1
      exact q1
    rw [g_86_30 w6, Option.bind_some, k_86 w6, Option.bind_some] at q1' ⊢
    obtain ⟨o, eo⟩ : ∃ o, fn_X12_oneOf h6 86 48 10 = some o := by
      cases e : fn_X12_oneOf h6 86 48 10 with
      | none => rw [e] at q1'; cases q1'
      | some o => exact ⟨o, rfl⟩
    rw [eo, Option.bind_some] at q1' ⊢
    rw [q1', Option.bind_some]
    rfl
  have c12 : nI (T p) = 112 ↔ T p = 112 := nI_eq (b := 112) (by omega) (by decide)
  have c08 : nI (T p) = 108 ↔ T p = 108 := nI_eq (b := 108) (by omega) (by decide)
  have c09 : nI (T p) = 109 ↔ T p = 109 := nI_eq (b := 109) (by omega) (by decide)
  have k10 : ∀ j, j < 3 * k → hI h10 101 j = hI h 101 j := fun j hj => (q3 j (by omega)).trans (b6 j (by omega))
  have a10 : hI h10 101 (3 * k) = nI (T p) := (q3 _ (by omega)).trans a6
  -- what a third sign does
  have third : ∀ (f m : Nat) (g : Int32 → Int32), sl (T p) = 3 → f + m ≤ 128 → 1 ≤ m → (∀ q, q < n → T q < 256 → ((isDg T (min n 60) (p + 2) && (decide (T p = 109) || !decide (T (p + 2) = 48))) = true ↔ (p + 2 < min n 60 ∧ f ≤ T (p + 2) ∧ T (p + 2) < f + m))) → (f ≤ T (p + 2) → T (p + 2) < f + m → g (nI (T (p + 2) - f)) = nI (dg T n (p + 2)) ∨ ¬ p + 2 < n) →
      ∃ h', ((gR h10 86 11 30).bind fun a => (ck h10 86 11).bind fun _ => (fn_X12_oneOf h10 86 (nI f) (nI m)).bind fun o => (wI o.2 a (nI (3 * k + 2)) (g o.1)).bind fun h2 => some h2) = some h' ∧ ActR T n p k h h' := by
    intro f m g s3 hf hm hd hg
    have hd := hd p (by omega) tp
    rcases cs with ⟨-, c2, c3, c4, c5, c6⟩ | ⟨-, c2, c6⟩ | ⟨c1, -⟩
    · have d1 : isDg T (min n 60) (p + 1) = true := by unfold isDg; rw [decide_eq_true]; omega
      obtain ⟨h', v', z1, z2, z3, z4, zs⟩ := sec_eq c6 (f := f) (m := m) (k := 3 * k + 2) hf hm (by omega) (by omega) g
      refine ⟨h', z1, f10.trans z2, fun j hj => (z3 j (by omega)).trans (k10 j hj), ?_⟩
      rcases zs with ⟨-, y2, y3, y4, y5, y6⟩ | ⟨-, y2, y6⟩ | ⟨y1, -⟩
      · refine Or.inl ⟨?_, by rw [s3]; exact y6, (z3 _ (by omega)).trans a10, ?_, fun _ => ?_⟩
        · unfold aw dg2
          rw [if_pos ⟨hp, hc⟩, if_pos d1, if_neg (by omega), if_pos (hd.mpr ⟨y2, y3, y4⟩)]
        · rw [z3 _ (by omega), q4, c5]
          have : dg T n (p + 1) = T (p + 1) - 48 := by unfold dg; rw [if_pos]; unfold isDg; rw [decide_eq_true]; omega
          rw [this]
        · rw [z4, y5]
          rcases hg y3 y4 with q | q
          · exact q
          · exact absurd y2 (by omega)
      · refine Or.inr ⟨p + 2, p + 2, ?_, by omega, y6⟩
        unfold aw dg2
        rw [if_pos ⟨hp, hc⟩, if_pos d1, if_neg (by omega), if_neg (fun q => y2 (hd.mp q))]
      · exact absurd rfl y1
    · obtain ⟨h', v', z1, z2, z3, z4, zs⟩ := sec_eq c6 (f := f) (m := m) (k := 3 * k + 2) hf hm (by omega) (by omega) g
      refine ⟨h', z1, f10.trans z2, fun j hj => (z3 j (by omega)).trans (k10 j hj), Or.inr ⟨p + 1, p + 1, ?_, by omega, ?_⟩⟩
      · unfold aw
        rw [if_pos ⟨hp, hc⟩, if_neg]
        unfold isDg
        simp
        omega
      · rcases zs with ⟨y1, -⟩ | ⟨y1, -⟩ | ⟨-, y1⟩
        · cases y1
        · cases y1
        · exact y1
    · exact absurd rfl c1
  rw [head]
  by_cases s3 : sl (T p) = 3
  · have pl : T p ≠ 109 → (∀ q, q < n → T q < 256 → ((isDg T (min n 60) (p + 2) && (decide (T p = 109) || !decide (T (p + 2) = 48))) = true ↔ (p + 2 < min n 60 ∧ 49 ≤ T (p + 2) ∧ T (p + 2) < 49 + 9))) := by
      intro h9 q _ _
      unfold isDg
      simp [h9]
      omega
    have plg : 49 ≤ T (p + 2) → T (p + 2) < 49 + 9 → nI (T (p + 2) - 49) + 1 = nI (dg T n (p + 2)) ∨ ¬ p + 2 < n := by
      intro y3 y4
      by_cases y2 : p + 2 < n
      · left
        have : dg T n (p + 2) = T (p + 2) - 49 + 1 := by unfold dg; rw [if_pos]; omega; unfold isDg; rw [decide_eq_true]; omega
        rw [this, nI_1]
      · exact Or.inr y2
    by_cases h12 : T p = 112
    · obtain ⟨h', z1, z2⟩ := third 49 9 (fun x => x + 1) s3 (by decide) (by decide) (pl (by omega)) plg
      refine ⟨h', ?_, z2⟩
      rw [if_pos (c12.mpr h12), z1, Option.bind_some, if_neg (fun q => absurd (c09.mp q) (by omega))]
    · rw [if_neg (fun q => h12 (c12.mp q))]
      by_cases h08 : T p = 108
      · obtain ⟨h', z1, z2⟩ := third 49 9 (fun x => x + 1) s3 (by decide) (by decide) (pl (by omega)) plg
        refine ⟨h', ?_, z2⟩
        rw [if_pos (c08.mpr h08), z1, Option.bind_some, if_neg (fun q => absurd (c09.mp q) (by omega))]
      · have h09 : T p = 109 := by
          unfold sl at s3
          split at s3
          · omega
          · split at s3 <;> omega
        obtain ⟨h', z1, z2⟩ := third 48 10 (fun x => x) s3 (by decide) (by decide) (by
          intro q _ _
          unfold isDg
          simp [h09]
          omega) (by
          intro y3 y4
          by_cases y2 : p + 2 < n
          · left
            have : dg T n (p + 2) = T (p + 2) - 48 := by unfold dg; rw [if_pos]; unfold isDg; rw [decide_eq_true]; omega
            rw [this]
          · exact Or.inr y2)
        refine ⟨h', ?_, z2⟩
        rw [if_neg (fun q => h08 (c08.mp q)), Option.bind_some, if_pos (c09.mpr h09)]
        exact z1
  · have h3 : T p ≠ 112 ∧ T p ≠ 108 ∧ T p ≠ 109 := by
      refine ⟨fun q => s3 ?_, fun q => s3 ?_, fun q => s3 ?_⟩ <;> rw [q] <;> decide
    have s2 : sl (T p) = 2 := by have := sl_01 (T p); omega
    refine ⟨h10, ?_, f10, k10, ?_⟩
    · rw [if_neg (fun q => h3.1 (c12.mp q)), if_neg (fun q => h3.2.1 (c08.mp q)), Option.bind_some, if_neg (fun q => h3.2.2 (c09.mp q))]
    · rcases cs with ⟨-, c2, c3, c4, c5, c6⟩ | ⟨-, c2, c6⟩ | ⟨c1, -⟩
      · have d1 : isDg T (min n 60) (p + 1) = true := by unfold isDg; rw [decide_eq_true]; omega
        refine Or.inl ⟨?_, by rw [s2]; exact c6, a10, ?_, fun q => absurd q s3⟩
        · unfold aw
          rw [if_pos ⟨hp, hc⟩, if_pos d1, if_pos s2]
        · rw [q4, c5]
          have : dg T n (p + 1) = T (p + 1) - 48 := by unfold dg; rw [if_pos]; unfold isDg; rw [decide_eq_true]; omega
          rw [this]
      · refine Or.inr ⟨p + 1, p + 1, ?_, by omega, c6⟩
        unfold aw
        rw [if_pos ⟨hp, hc⟩, if_neg]
        unfold isDg
        simp
        omega
      · exact absurd rfl c1
end NightM
