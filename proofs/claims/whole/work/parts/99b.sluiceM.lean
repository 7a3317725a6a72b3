/-! a line of a sluice: the reference -/
section SlM
variable {T : Nat → Nat} {n : Nat} {h : aH}
theorem oneOf0 {a top p : Nat} (r : RD a T n top p none h) (hp : p < 400) : ∃ h', fn_X12_oneOf h 86 (nI 48) (nI 0) = some (nI 0, h') ∧ Fr rdS h h' ∧ RD a T n top p (some p) h' := by
  have w := r.1
  obtain ⟨h', g1, g2, g3⟩ := fault_M r (q := p) (by omega)
  refine ⟨h', ?_, g3, g2⟩
  unfold fn_X12_oneOf
  rw [k_86 w, Option.bind_some, fine_M r, Option.bind_some, if_neg (by decide), Option.bind_some, here_M r, Option.bind_some, in_eq, Option.bind_some]
  have z : (if sg T (min n top) p < nI 48 then (0 : Int32) else if sg T (min n top) p ≤ nI 48 + nI 0 - 1 then 1 else 0) = 0 := by
    rw [show nI 48 + nI 0 - 1 = nI 47 from rfl]
    unfold sg
    by_cases c1 : p < min n top
    · rw [if_pos c1]
      have l := r.lim (i := p) (by omega)
      by_cases c2 : T p < 48
      · rw [if_pos (nI_lt c2 (by omega))]
      · rw [if_neg (nI_nlt (by omega) (by omega)), if_neg (nI_ge (by omega) (by omega))]
    · rw [if_neg c1, if_pos (by decide)]
  rw [z, if_pos rfl, w_gI w 86 11 15 rfl, Option.bind_some, r.2.2.2.2.1, Option.bind_some, g1, Option.bind_some]
  rfl
theorem put93s {top p : Nat} {wr : Option Nat} (r : RD 91 T n top p wr h) {m k : Nat} (hm : m ≤ 10) (hp : p < 400) (hk : k < 24) : ∃ o h' v, fn_X12_oneOf h 86 (nI 48) (nI m) = some o ∧ wI o.2 93 (nI k) o.1 = some h' ∧ Fr rdL h h' ∧ (∀ j, j ≠ k → hI h' 93 j = hI h 93 j) ∧ hI h' 93 k = nI v ∧ Wf h' ∧
    ((wr = none ∧ p < min n top ∧ 48 ≤ T p ∧ T p < 48 + m ∧ v = T p - 48 ∧ RD 91 T n top (p + 1) none h') ∨ (wr = none ∧ ¬ (p < min n top ∧ 48 ≤ T p ∧ T p < 48 + m) ∧ RD 91 T n top p (some p) h') ∨ (wr ≠ none ∧ RD 91 T n top p wr h')) := by
  by_cases c : 1 ≤ m
  · exact put93 r (by omega) hp c hk
  · obtain rfl : m = 0 := by omega
    cases wr with
    | none =>
      obtain ⟨h1, e1, F1, r1⟩ := oneOf0 r hp
      have w1 := r1.1
      refine ⟨(nI 0, h1), sI h1 93 k (nI 0), 0, e1, wI_eq w1 93 24 rfl k hk (by decide) _, (F1.mono rdS_L).sI _ rfl, fun j hj => ?_, by rw [hI_row, if_pos rfl], w1, Or.inr (Or.inl ⟨rfl, fun q => by omega, r1.set93 (by decide) _ _⟩)⟩
      rw [hI_row, if_neg hj, F1.i 93 j rfl]
    | some q =>
      have w := r.1
      refine ⟨(nI 0, h), sI h 93 k (nI 0), 0, ?_, wI_eq w 93 24 rfl k hk (by decide) _, (Fr.refl _ _).sI _ rfl, fun j hj => by rw [hI_row, if_neg hj], by rw [hI_row, if_pos rfl], w, Or.inr (Or.inr ⟨(by simp), r.set93 (by decide) _ _⟩)⟩
      unfold fn_X12_oneOf
      rw [k_86 w, Option.bind_some, fine_M r, Option.bind_some, if_pos (by rfl)]
      rfl
def QS (T : Nat → Nat) (n nb ns K : Nat) (h : aH) : Prop := hI h 86 1 = nI nb ∧ hI h 86 2 = nI ns ∧ ∀ j, j < K → hI h 93 (3 * j) = nI (dg T n (4 * j)) ∧ hI h 93 (3 * j + 1) = nI (dg T n (4 * j + 1)) ∧ hI h 93 (3 * j + 2) = kdI (T (4 * j + 2))
theorem QS.to {nb ns K : Nat} {h' : aH} (F : Fr rdS h h') (q : QS T n nb ns K h) : QS T n nb ns K h' := by
  refine ⟨(F.i 86 1 rfl).trans q.1, (F.i 86 2 rfl).trans q.2.1, fun j hj => ?_⟩
  rw [F.i 93 _ rfl, F.i 93 _ rfl, F.i 93 _ rfl]
  exact q.2.2 j hj
def blkS (h : aH) (s1 : Int32) : Option aH :=
  (gI h 86 11 2).bind fun x7 =>
  if (x7 + s1) = 8 then
    (gI h 86 11 15).bind fun x14 => (ck h 86 11).bind fun _ => (fn_X12_fault h 86 x14).bind fun h16 => some h16
  else (ck h 86 11).bind fun _ => (fn_X12_readSluice h 86 (3 * s1)).bind fun h13 => some h13
theorem lbS (s : Int32 × Int32 × aH) : lb_X12_sluices_24 86 s = lnG blkS s := by
  unfold lb_X12_sluices_24 lnG blkS
  by_cases c : s.2.1 = 0
  · rw [if_pos c, if_pos c]
  · rw [if_neg c, if_neg c]
    simp only [Option.bind_assoc]
theorem kd_t17 {L p : Nat} (hT : p < L → T p < 256) : ((if sg T L p = 103 then some 0 else if sg T L p = 119 then some 1 else some 2) : Option Int32) = some (if p < L ∧ T p = 103 then 0 else if p < L ∧ T p = 119 then 1 else 2) := by
  have k103 : sg T L p = 103 ↔ p < L ∧ T p = 103 := sg_eq hT (c := 103) (by decide)
  have k119 : sg T L p = 119 ↔ p < L ∧ T p = 119 := sg_eq hT (c := 119) (by decide)
  by_cases a : p < L ∧ T p = 103
  · rw [if_pos (k103.mpr a), if_pos a]
  · rw [if_neg (fun q => a (k103.mp q)), if_neg a]
    by_cases b : p < L ∧ T p = 119
    · rw [if_pos (k119.mpr b), if_pos b]
    · rw [if_neg (fun q => b (k119.mp q)), if_neg b]
theorem blkS_ok {nb ns K : Nat} (hnb : nb ≤ 6) (hns : ns ≤ 8) (hK : K ≤ 8 - ns) (h4 : 4 * K ≤ n) (r : RD 91 T n 31 (4 * K) none h) (q : QS T n nb ns K h) : ∃ t8, blkS h (nI K) = some t8 ∧ LnR T n 31 (8 - ns) (stS T n nb) (QS T n nb ns) K h t8 := by
  have w := r.1
  unfold blkS
  rw [w_gI w 86 11 2 rfl, Option.bind_some, q.2.1, nI_add]
  by_cases c : ns + K = 8
  · obtain ⟨h', e1, r', F⟩ := fault_M r (q := 4 * K) (by omega)
    refine ⟨h', ?_, F.mono rdS_L, Or.inr ⟨4 * K, 4 * K, by omega, r', h4, Nat.le_refl _, by omega, fun p a b => by omega, fun hw => ?_⟩⟩
    · rw [if_pos (show nI (ns + K) = 8 by rw [c]; rfl), w_gI w 86 11 15 rfl, Option.bind_some, r.2.2.2.2.1, k_86 w, Option.bind_some, e1, Option.bind_some]
    · cases e : bad (stS T n nb) 31 (8 - ns) (4 * K)
      · rw [bad_f] at e
        have := e.2.1 (by omega)
        omega
      · rfl
  · rw [if_neg (show ¬ nI (ns + K) = 8 from fun q => c ((nI_eq (b := 8) (by omega) (by decide)).mp q)), k_86 w, Option.bind_some]
    have hKr : K < 8 - ns := by omega
    have okp : ∀ p, 4 * K ≤ p → p ≤ 4 * K + 2 → stS T n nb p = true → bad (stS T n nb) 31 (8 - ns) p = false := fun p a b s => by
      rw [bad_f]
      exact ⟨by omega, fun _ => by omega, s⟩
    have nok : ∀ p, stS T n nb p = false → bad (stS T n nb) 31 (8 - ns) p = true := fun p s => by
      cases e : bad (stS T n nb) 31 (8 - ns) p
      · rw [bad_f] at e; rw [s] at e; exact absurd e.2.2 (by decide)
      · rfl
    have st0 : stS T n nb (4 * K) = true ↔ 4 * K < n ∧ 48 ≤ T (4 * K) ∧ T (4 * K) < 48 + nb := by
      unfold stS isDg
      rw [if_pos (by omega)]
      simp
      omega
    have st1 : stS T n nb (4 * K + 1) = true ↔ 4 * K + 1 < n ∧ 48 ≤ T (4 * K + 1) ∧ T (4 * K + 1) < 48 + nb ∧ T (4 * K + 1) ≠ T (4 * K) := by
      unfold stS isDg
      rw [if_neg (by omega), if_pos (by omega), show 4 * K + 1 - 1 = 4 * K by omega]
      simp
      omega
    have st2 : stS T n nb (4 * K + 2) = (decide (T (4 * K + 2) = 103) || (decide (T (4 * K + 2) = 119) || decide (T (4 * K + 2) = 115))) := by unfold stS; rw [if_neg (by omega), if_neg (by omega), if_pos (by omega)]
    have toF : ∀ p, ¬ stS T n nb p = true → stS T n nb p = false := fun p e => by
      cases z : stS T n nb p
      · rfl
      · exact absurd z e
    obtain ⟨o4, h5, v1, a1, a2, a3, a4, a5, w5, A⟩ := put93s r (m := nb) (k := 3 * K) (by omega) (by omega) (by omega)
    have a1' : fn_X12_oneOf h 86 48 (nI nb) = some o4 := a1
    have e3' : (3 : Int32) * nI K = nI (3 * K) := three K (by omega)
    have e31 : (nI (3 * K) : Int32) + 1 = nI (3 * K + 1) := nI_1 _
    have e32 : (nI (3 * K) : Int32) + 2 = nI (3 * K + 2) := nI_add _ 2
    -- the second may not be the first
    obtain ⟨t8, pB, wrB, et8, rB, F8, s8, pBe⟩ : ∃ t8 pB wrB, ((fn_X12_fine h5 86).bind fun x7 => ((if x7 = 0 then some h5 else (ck h5 86 11).bind fun _ => (fn_X12_here h5 86).bind fun x42 => (gR h5 86 11 17).bind fun a43 => (aI h5 a43 14 (nI (3 * K))).bind fun x44 => if x42 = (48 + x44) then (gI h5 86 11 15).bind fun x45 => (ck h5 86 11).bind fun _ => (fn_X12_fault h5 86 x45).bind fun h47 => some h47 else some h5) : Option aH)) = some t8 ∧ RD 91 T n 31 pB wrB t8 ∧ Fr rdS h5 t8 ∧ pB ≤ 4 * K + 1 ∧ ((wrB = none ∧ pB = 4 * K + 1 ∧ stS T n nb (4 * K) = true ∧ v1 = T (4 * K) - 48 ∧ ¬ (4 * K + 1 < n ∧ T (4 * K + 1) = T (4 * K))) ∨ (wrB = some (4 * K + 1) ∧ stS T n nb (4 * K) = true ∧ 4 * K + 1 < n ∧ T (4 * K + 1) = T (4 * K)) ∨ (wrB = some (4 * K) ∧ stS T n nb (4 * K) = false)) := by
      rcases A with ⟨-, z2, z3, z4, z5, z6⟩ | ⟨-, z2, z3⟩ | ⟨z1, -⟩
      · have s0 : stS T n nb (4 * K) = true := st0.mpr ⟨by omega, z3, z4⟩
        have lT := r.lim (i := 4 * K) (by omega)
        have eq48 : (48 : Int32) + nI v1 = nI (T (4 * K)) := by
          rw [show (48 : Int32) = nI 48 from rfl, nI_add, z5]; congr 1; omega
        have a93 : aI h5 93 14 (nI (3 * K)) = some (nI v1) := by rw [aI_eq w5 93 14 24 rfl (3 * K) (by omega) (by decide), a5]
        have kk := here_is z6 (c := T (4 * K)) lT
        by_cases e : 4 * K + 1 < n ∧ T (4 * K + 1) = T (4 * K)
        · obtain ⟨h47, g1, g2, g3⟩ := fault_M z6 (q := 4 * K + 1) (by omega)
          refine ⟨h47, 4 * K + 1, some (4 * K + 1), ?_, g2, g3, by omega, Or.inr (Or.inl ⟨rfl, s0, e⟩)⟩
          rw [fine_M z6, Option.bind_some, if_neg (by decide), k_86 w5, Option.bind_some, here_M z6, Option.bind_some, g_86_17 w5, Option.bind_some, a93, Option.bind_some, eq48, if_pos (kk.mpr ⟨by omega, e.2⟩), w_gI w5 86 11 15 rfl, Option.bind_some, z6.2.2.2.2.1, Option.bind_some, g1, Option.bind_some]
        · refine ⟨h5, 4 * K + 1, none, ?_, z6, Fr.refl _ _, by omega, Or.inl ⟨rfl, rfl, s0, z5, e⟩⟩
          rw [fine_M z6, Option.bind_some, if_neg (by decide), k_86 w5, Option.bind_some, here_M z6, Option.bind_some, g_86_17 w5, Option.bind_some, a93, Option.bind_some, eq48, if_neg (fun q => e ⟨by have := (kk.mp q).1; omega, (kk.mp q).2⟩)]
      · refine ⟨h5, 4 * K, some (4 * K), ?_, z3, Fr.refl _ _, by omega, Or.inr (Or.inr ⟨rfl, toF _ (fun q => z2 (by have := st0.mp q; exact ⟨by omega, this.2.1, this.2.2⟩))⟩)⟩
        rw [fine_M z3, Option.bind_some, if_pos (by rfl)]
      · exact absurd rfl z1
    have wt8 := rB.1
    have g1t8 : hI t8 86 1 = nI nb := by rw [F8.i 86 1 rfl, a3.i 86 1 rfl, q.1]
    obtain ⟨o12, h13, v2, b1, b2', b3, b4, b5, w13, B⟩ := put93s rB (m := nb) (k := 3 * K + 1) (by omega) (by omega) (by omega)
    have b1' : fn_X12_oneOf t8 86 48 (nI nb) = some o12 := b1
    obtain ⟨pC, wrC, rC, pC5, pCe⟩ : ∃ pC wrC, RD 91 T n 31 pC wrC h13 ∧ pC < 100 ∧ ((wrC = none ∧ pC = 4 * K + 2 ∧ stS T n nb (4 * K) = true ∧ v1 = T (4 * K) - 48 ∧ stS T n nb (4 * K + 1) = true ∧ v2 = T (4 * K + 1) - 48) ∨ (wrC = some (4 * K + 1) ∧ stS T n nb (4 * K) = true ∧ stS T n nb (4 * K + 1) = false) ∨ (wrC = some (4 * K) ∧ stS T n nb (4 * K) = false)) := by
      rcases pBe with ⟨rfl, rfl, x1, x2, x3⟩ | ⟨rfl, x1, x2, x3⟩ | ⟨rfl, x1⟩
      · rcases B with ⟨-, z2, z3, z4, z5, z6⟩ | ⟨-, z2, z3⟩ | ⟨z1, -⟩
        · exact ⟨_, _, z6, by omega, Or.inl ⟨rfl, rfl, x1, x2, st1.mpr ⟨by omega, z3, z4, fun e => x3 ⟨by omega, e⟩⟩, z5⟩⟩
        · refine ⟨_, _, z3, by omega, Or.inr (Or.inl ⟨rfl, x1, toF _ (fun q => z2 ?_)⟩)⟩
          obtain ⟨y1, y2, y3, -⟩ := st1.mp q
          exact ⟨by omega, y2, y3⟩
        · exact absurd rfl z1
      · rcases B with ⟨z1, -⟩ | ⟨z1, -⟩ | ⟨-, z2⟩
        · cases z1
        · cases z1
        · exact ⟨_, _, z2, by omega, Or.inr (Or.inl ⟨rfl, x1, toF _ (fun q => (st1.mp q).2.2.2 x3)⟩)⟩
      · rcases B with ⟨z1, -⟩ | ⟨z1, -⟩ | ⟨-, z2⟩
        · cases z1
        · cases z1
        · exact ⟨_, _, z2, by omega, Or.inr (Or.inr ⟨rfl, x1⟩)⟩
    obtain ⟨t17, et⟩ : ∃ t : Int32, t = (if pC < min n 31 ∧ T pC = 103 then 0 else if pC < min n 31 ∧ T pC = 119 then 1 else 2) := ⟨_, rfl⟩
    have et17 := kd_t17 (T := T) (L := min n 31) (p := pC) (fun q => rC.lim (by omega))
    rw [← et] at et17
    have c3 : wI h13 93 (nI (3 * K + 2)) t17 = some (sI h13 93 (3 * K + 2) t17) := wI_eq w13 93 24 rfl (3 * K + 2) (by omega) (by decide) _
    have rD := rC.set93 (by decide) (3 * K + 2) t17
    have w18 := rD.1
    have FD18 : Fr rdL h (sI h13 93 (3 * K + 2) t17) := (a3.trans ((F8.mono rdS_L).trans b3)).sI _ rfl
    have et8' := et8
    simp only [k_86 w5, Option.bind_some] at et8'
    have fin : ∀ h27 wr, RD 91 T n 31 pC wr h27 → ((if b2 wrC.isNone = 0 then some (sI h13 93 (3 * K + 2) t17) else if sg T (min n 31) pC = 103 then some (sI h13 93 (3 * K + 2) t17) else if sg T (min n 31) pC = 119 then some (sI h13 93 (3 * K + 2) t17) else if sg T (min n 31) pC = 115 then some (sI h13 93 (3 * K + 2) t17) else (fn_X12_fault (sI h13 93 (3 * K + 2) t17) 86 (nI pC)).bind fun h32 => some h32) : Option aH) = some h27 → ((fn_X12_readSluice h 86 (3 * nI K)).bind fun h13 => some h13) = some (sI h27 86 15 (nI (pC + 1))) ∧ RD 91 T n 31 (pC + 1) wr (sI h27 86 15 (nI (pC + 1))) := by
      intro h27 wr r27 e27
      refine ⟨?_, r27.at (by omega)⟩
      unfold fn_X12_readSluice
      simp only [e3', g_86_17 w, w_gI w 86 11 1 rfl, q.1, k_86 w, Option.bind_some, a1', a2, k_86 w5]
      rw [← Option.bind_assoc (fn_X12_fine h5 86), et8']
      simp only [Option.bind_some, g_86_17 wt8, w_gI wt8 86 11 1 rfl, g1t8, k_86 wt8, b1', e31, b2', g_86_17 w13, k_86 w13, here_M rC, et17, e32, c3, k_86 w18, fine_M rD, here_M rD, w_gI w18 86 11 15 rfl, rD.2.2.2.2.1]
      rw [e27]
      simp only [Option.bind_some, w_gI r27.1 86 11 15 rfl, r27.2.2.2.2.1, nI_1, w_pI r27.1 86 11 15 _ rfl]
    rcases pCe with ⟨rfl, rfl, x1, x2, x3, x4⟩ | ⟨rfl, x1, x2⟩ | ⟨rfl, x1⟩
    · have k103 : sg T (min n 31) (4 * K + 2) = 103 ↔ 4 * K + 2 < min n 31 ∧ T (4 * K + 2) = 103 := here_is rC (c := 103) (by decide)
      have k119 : sg T (min n 31) (4 * K + 2) = 119 ↔ 4 * K + 2 < min n 31 ∧ T (4 * K + 2) = 119 := here_is rC (c := 119) (by decide)
      have k115 : sg T (min n 31) (4 * K + 2) = 115 ↔ 4 * K + 2 < min n 31 ∧ T (4 * K + 2) = 115 := here_is rC (c := 115) (by decide)
      have x1' := st0.mp x1
      have x3' := st1.mp x3
      have d1 : isDg T n (4 * K) = true := by unfold isDg; simp; omega
      have d2 : isDg T n (4 * K + 1) = true := by unfold isDg; simp; omega
      by_cases good : 4 * K + 2 < n ∧ (T (4 * K + 2) = 103 ∨ T (4 * K + 2) = 119 ∨ T (4 * K + 2) = 115)
      · obtain ⟨f1, f2⟩ := fin _ none rD (by
          rw [if_neg (by decide)]
          rcases good.2 with z | z | z
          · rw [if_pos (k103.mpr ⟨by omega, z⟩)]
          · by_cases y : sg T (min n 31) (4 * K + 2) = 103
            · rw [if_pos y]
            · rw [if_neg y, if_pos (k119.mpr ⟨by omega, z⟩)]
          · by_cases y : sg T (min n 31) (4 * K + 2) = 103
            · rw [if_pos y]
            · rw [if_neg y]
              by_cases y2 : sg T (min n 31) (4 * K + 2) = 119
              · rw [if_pos y2]
              · rw [if_neg y2, if_pos (k115.mpr ⟨by omega, z⟩)])
        refine ⟨_, f1, FD18.sI _ rfl, Or.inl ⟨hKr, f2, by omega, ⟨x1, x3, ?_⟩, ?_, ?_, fun j hj => ?_⟩⟩
        · rw [st2]; rcases good.2 with z | z | z <;> simp [z]
        · rw [hI_sI_r, if_pos rfl]
          show (if 1 = 15 then _ else _) = _
          rw [if_neg (by decide), hI_sI_r, if_neg (by decide), b3.i 86 1 rfl, g1t8]
        · rw [hI_sI_r, if_pos rfl]
          show (if 2 = 15 then _ else _) = _
          rw [if_neg (by decide), hI_sI_r, if_neg (by decide), b3.i 86 2 rfl, F8.i 86 2 rfl, a3.i 86 2 rfl, q.2.1]
        · have hr : ∀ i, hI (sI (sI h13 93 (3 * K + 2) t17) 86 15 (nI (4 * K + 2 + 1))) 93 i = if i = 3 * K + 2 then t17 else hI h13 93 i := fun i => by rw [hI_sI_r, if_neg (by decide), hI_row]
          rw [hr, hr, hr]
          by_cases c4 : j = K
          · subst c4
            rw [if_neg (by omega), if_neg (by omega), if_pos rfl, b4 (3 * j) (by omega), F8.i 93 _ rfl, a5, b5]
            refine ⟨?_, ?_, ?_⟩
            · unfold dg; rw [if_pos d1, x2]
            · unfold dg; rw [if_pos d2, x4]
            · rw [et]
              unfold kdI
              have lt : 4 * j + 2 < min n 31 := by omega
              rcases good.2 with z | z | z
              · rw [if_pos ⟨lt, z⟩, if_pos z]
              · rw [if_neg (by rw [z]; simp), if_pos ⟨lt, z⟩, if_neg (by omega), if_neg (by omega), if_pos z]
              · rw [if_neg (by rw [z]; simp), if_neg (by rw [z]; simp), if_neg (by omega), if_pos z]
          · rw [if_neg (by omega), if_neg (by omega), if_neg (by omega), b4 _ (by omega), b4 _ (by omega), b4 _ (by omega), F8.i 93 _ rfl, F8.i 93 _ rfl, F8.i 93 _ rfl, a4 _ (by omega), a4 _ (by omega), a4 _ (by omega)]
            exact q.2.2 j (by omega)
      · obtain ⟨h36, e36, r36, F36⟩ := fault_M rD (q := 4 * K + 2) (by omega)
        obtain ⟨f1, f2⟩ := fin h36 (some (4 * K + 2)) r36 (by
          rw [if_neg (by decide), if_neg (fun z => good ⟨by have := (k103.mp z).1; omega, Or.inl (k103.mp z).2⟩), if_neg (fun z => good ⟨by have := (k119.mp z).1; omega, Or.inr (Or.inl (k119.mp z).2)⟩), if_neg (fun z => good ⟨by have := (k115.mp z).1; omega, Or.inr (Or.inr (k115.mp z).2)⟩), e36]; rfl)
        refine ⟨_, f1, (FD18.trans (F36.mono rdS_L)).sI _ rfl, Or.inr ⟨4 * K + 2, _, by omega, f2, by omega, by omega, Nat.le_refl _, fun p a b => ?_, fun hw => nok _ ?_⟩⟩
        · refine okp p a (by omega) ?_
          rcases (show p = 4 * K ∨ p = 4 * K + 1 by omega) with rfl | rfl
          · exact x1
          · exact x3
        · rw [st2]
          have z1 : ¬ T (4 * K + 2) = 103 := fun z => good ⟨hw, Or.inl z⟩
          have z2 : ¬ T (4 * K + 2) = 119 := fun z => good ⟨hw, Or.inr (Or.inl z)⟩
          have z3 : ¬ T (4 * K + 2) = 115 := fun z => good ⟨hw, Or.inr (Or.inr z)⟩
          simp [z1, z2, z3]
    · have x1' := st0.mp x1
      obtain ⟨f1, f2⟩ := fin _ _ rD (by rw [if_pos (by rfl)])
      refine ⟨_, f1, FD18.sI _ rfl, Or.inr ⟨4 * K + 1, _, by omega, f2, by omega, by omega, by omega, fun p a b => ?_, fun hw => nok _ x2⟩⟩
      obtain rfl : p = 4 * K := by omega
      exact okp _ a (by omega) x1
    · obtain ⟨f1, f2⟩ := fin _ _ rD (by rw [if_pos (by rfl)])
      refine ⟨_, f1, FD18.sI _ rfl, Or.inr ⟨4 * K, _, by omega, f2, h4, Nat.le_refl _, by omega, fun p a b => by omega, fun hw => nok _ x1⟩⟩
end SlM
