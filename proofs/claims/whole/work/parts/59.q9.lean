/-! the question round -/
section Q9
variable {N : Net} {sem : Sem} {x : XX} {l : List Int64} {C M : aH}
def sumN : Nat → XX → Nat
  | 0, _ => 0
  | n + 1, y => sumN n y + nv y n
theorem sumI_N {B : Nat} {y : XX} (v : VS N B y) (hB : B < 2 ^ 31) (h8 : N_s N ≤ 8) : ∀ n, n ≤ 6 → sumI n y = nI (sumN n y) ∧ sumN n y ≤ 9 * n
  | 0, _ => ⟨rfl, Nat.le_refl 0⟩
  | n + 1, h => by
    obtain ⟨e, le⟩ := sumI_N v hB h8 n (by omega)
    obtain ⟨a, -, -⟩ := VS_nv v hB h8
    have q := a n (by omega)
    refine ⟨?_, ?_⟩
    · show sumI n y + y n = nI (sumN n y + nv y n)
      rw [e, q.1, nI_add]
    · show sumN n y + nv y n ≤ _
      omega
/-- the sum of the levels behind d hours -/
def sAt (N : Net) (sem : Sem) (x : XX) (d : Nat) : Nat := sumN (N_b N) (hXs N sem d x)
theorem sAt_ok (w : WW N sem x l C M) {d : Nat} (hd : d ≤ 100) : sumI (N_b N) (hXs N sem d x) = nI (sAt N sem x d) ∧ sAt N sem x d ≤ 54 := by
  have h6 := w.v.1
  have h8 := w.v.2.1
  obtain ⟨a, b⟩ := sumI_N (hXv w d) (by unfold MH; omega) h8 (N_b N) h6
  refine ⟨a, ?_⟩
  have : sAt N sem x d ≤ 9 * N_b N := b
  omega
def setW (S : Nat → Nat) (j : Nat) : Nat → Nat
  | 0 => 0
  | d + 1 => setW S j d ||| 2 ^ S (j + d)
theorem setW_bit (S : Nat → Nat) (j s : Nat) : ∀ d, (setW S j d).testBit s = true ↔ ∃ o, o < d ∧ S (j + o) = s
  | 0 => by
    constructor
    · intro h
      have : (0 : Nat).testBit s = true := h
      rw [Nat.zero_testBit] at this
      cases this
    · rintro ⟨o, ho, -⟩; omega
  | d + 1 => by
    show (setW S j d ||| 2 ^ S (j + d)).testBit s = true ↔ _
    rw [Nat.testBit_or, Nat.testBit_two_pow, Bool.or_eq_true, setW_bit S j s d, decide_eq_true_iff]
    constructor
    · rintro (⟨o, ho, e⟩ | e)
      · exact ⟨o, by omega, e⟩
      · exact ⟨d, by omega, e⟩
    · rintro ⟨o, ho, e⟩
      by_cases h : o = d
      · subst h; exact Or.inr e
      · exact Or.inl ⟨o, by omega, e⟩
theorem setW_lt (S : Nat → Nat) (j : Nat) : ∀ d, (∀ o, o < d → S (j + o) ≤ 54) → setW S j d < 2 ^ 55
  | 0, _ => (by decide : (0 : Nat) < 2 ^ 55)
  | d + 1, h => Nat.or_lt_two_pow (setW_lt S j d (fun o ho => h o (by omega))) (Nat.pow_lt_pow_right (by decide) (by have := h d (by omega); omega))
theorem code_iff (w : WW N sem x l C M) {i j : Nat} (hj : j ≤ 100) (hi : i ≤ 100) (hji : j ≤ i) : lN (codeN (hXs N sem i x)) = lN (codeN (hXs N sem j x)) ↔ (lik N sem x j i ∧ hXs N sem j x 12 = hXs N sem i x 12 ∧ (i - j) % 4 = 0) := by
  have h8 := w.v.2.1
  obtain ⟨a1, ⟨ao, ho⟩, ⟨a_t, ht⟩⟩ := VS_nv (hXv w j) (by unfold MH; omega) h8
  obtain ⟨b1, ⟨bo, io⟩, ⟨b_t, it⟩⟩ := VS_nv (hXv w i) (by unfold MH; omega) h8
  obtain ⟨t, htl, et⟩ := w.2.2.2.2.2.2.2.2.2.1
  have tj : nv (hXs N sem j x) 14 = t + j := nv_of (hXs_14 w.v sem x et j) (by unfold MH at htl; omega)
  have ti : nv (hXs N sem i x) 14 = t + i := nv_of (hXs_14 w.v sem x et i) (by unfold MH at htl; omega)
  have u0 := (a1 0 (by decide)).2.1
  have u1 := (a1 1 (by decide)).2.1
  have u2 := (a1 2 (by decide)).2.1
  have u3 := (a1 3 (by decide)).2.1
  have u4 := (a1 4 (by decide)).2.1
  have u5 := (a1 5 (by decide)).2.1
  have v0 := (b1 0 (by decide)).2.1
  have v1 := (b1 1 (by decide)).2.1
  have v2 := (b1 2 (by decide)).2.1
  have v3 := (b1 3 (by decide)).2.1
  have v4 := (b1 4 (by decide)).2.1
  have v5 := (b1 5 (by decide)).2.1
  have lc : ∀ y : XX, (∀ k, k < 6 → nv y k ≤ 9) → nv y 12 < 256 → codeN y < 2 ^ 62 := fun y h1 h2 => by
    have q0 := h1 0 (by decide)
    have q1 := h1 1 (by decide)
    have q2 := h1 2 (by decide)
    have q3 := h1 3 (by decide)
    have q4 := h1 4 (by decide)
    have q5 := h1 5 (by decide)
    unfold codeN cdP
    omega
  have inj : lN (codeN (hXs N sem i x)) = lN (codeN (hXs N sem j x)) ↔ codeN (hXs N sem i x) = codeN (hXs N sem j x) := by
    constructor
    · intro h
      have := congrArg Int64.toInt h
      have l1 := lc (hXs N sem i x) (fun k hk => (b1 k hk).2.1) io
      have l2 := lc (hXs N sem j x) (fun k hk => (a1 k hk).2.1) ho
      rw [pf_lI (by omega), pf_lI (by omega)] at this
      exact Int.ofNat.inj this
    · intro h; rw [h]
  have l12 : hXs N sem j x 12 = hXs N sem i x 12 ↔ nv (hXs N sem j x) 12 = nv (hXs N sem i x) 12 := by
    constructor
    · intro h; unfold nv; rw [h]
    · intro h; rw [ao, bo, h]
  have iffN : lik N sem x j i ↔ (∀ c, c < 6 → nv (hXs N sem j x) c = nv (hXs N sem i x) c) := by
    rw [lik_six w]
    constructor
    · intro h c hc
      unfold nv
      rw [h c hc]
    · intro h c hc
      rw [(a1 c hc).1, (b1 c hc).1, h c hc]
  rw [inj, iffN, l12]
  unfold codeN cdP
  rw [tj, ti]
  constructor
  · intro h
    refine ⟨fun c hc => ?_, ?_, ?_⟩
    · match c, hc with
      | 0, _ => omega
      | 1, _ => omega
      | 2, _ => omega
      | 3, _ => omega
      | 4, _ => omega
      | 5, _ => omega
    · omega
    · omega
  · rintro ⟨h, h12, h4⟩
    rw [h 0 (by decide), h 1 (by decide), h 2 (by decide), h 3 (by decide), h 4 (by decide), h 5 (by decide), h12]
    have : (t + i) % 4 = (t + j) % 4 := by omega
    rw [this]
theorem cmp0 (a b : Int64) : lg_cmp a b = 0 ↔ a = b := by
  unfold lg_cmp
  by_cases h1 : a > b
  · rw [if_pos h1]
    refine ⟨fun h => absurd h (by decide), fun h => ?_⟩
    subst h
    have := Int64.lt_iff_toInt_lt.mp h1
    omega
  · rw [if_neg h1]
    by_cases h2 : a = b
    · rw [if_pos h2]; exact ⟨fun _ => h2, fun _ => rfl⟩
    · rw [if_neg h2]; exact ⟨fun h => absurd h (by decide), fun h => absurd h h2⟩
set_option maxHeartbeats 1000000 in
theorem q_round (w : WW N sem x l C M) : QR (fn_X11_round C 0) (fn_X12_round M 86) C M := by
  have h6 := w.v.1
  have h8 := w.v.2.1
  obtain ⟨M1, p1, F1, w1⟩ := w.thr
  obtain ⟨C2, M2, e2, g2, G2, H2, w2, hc, hm⟩ := trace_eq w1 (n := 99) (by decide)
  have e2' : fn_X11_traceTrial C 0 99 = some C2 := e2
  have g2' : fn_X12_layTrail M1 86 99 = some M2 := g2
  have aC : ∀ i, i ≤ 99 → aJ C2 83 (nI i) = some (lN (codeN (hXs N sem i x))) := fun i hi => by rw [aJ_eq w2.wc 83 168 rfl i (by omega) (by decide), hc i hi]
  have a12 : ∀ i, i ≤ 99 → aI M2 102 14 ((16 * nI i) + 12) = some (hXs N sem i x 12) := fun i hi => by
    have m16 : (16 : Int32) * nI i = nI (16 * i) := pk_mul 16 i
    rw [m16]
    show aI M2 102 14 (nI (16 * i) + nI 12) = _
    rw [nI_add, aI_eq w2.wm 102 14 1616 rfl (16 * i + 12) (by omega) (by decide), hm i 12 hi (by decide)]
  -- for a later hour: the first earlier one that is alike
  have inner : ∀ i, i ≤ 99 → ∃ r q, lp (lb_X11_round_16 C2 0 (nI i)) lpN 0 = some r ∧ lp (lb_X12_round_21 M2 86 (nI i)) lpN 0 = some q ∧ (r = q ∧ (r = .inr () ∨ ∃ j, j < i ∧ r = .inl (nI j))) := by
    intro i hi
    refine lp_two (fun j s t => s = nI j ∧ t = nI j) _ i (by omega) ?_ ?_ ⟨rfl, rfl⟩
    · rintro j s t hj ⟨rfl, rfl⟩
      have c1 : nI j < nI i := nI_lt hj (by omega)
      have iff := code_iff w (i := i) (j := j) (by omega) (by omega) (by omega)
      have ir : irm (nI i - nI j) 4 = some (nI ((i - j) % 4)) := by rw [nI_sub (by omega), irm4 (by omega)]
      unfold lb_X11_round_16 lb_X12_round_21
      simp only [if_pos c1, g_0_13 w2.wc, Option.bind_some, aC i (by omega), aC j (by omega), k_86 w2.wm, g_86_31 w2.wm, a12 i (by omega), a12 j (by omega), ir, nI_1, cmp0]
      by_cases e : lN (codeN (hXs N sem i x)) = lN (codeN (hXs N sem j x))
      · obtain ⟨lk, l12, l4⟩ := iff.mp e
        rcases like_eq w2 (n := 99) (by decide) hm (j := j) (k := i) (by omega) (by omega) with ⟨-, el⟩ | ⟨nl, -⟩
        · simp only [if_pos e, el, Option.bind_some, if_neg one0, if_pos l12, l4, if_pos (show nI 0 = 0 from rfl)]
          exact Or.inr ⟨_, _, rfl, rfl, rfl, Or.inr ⟨j, hj, rfl⟩⟩
        · exact absurd lk nl
      · simp only [if_neg e]
        rcases like_eq w2 (n := 99) (by decide) hm (j := j) (k := i) (by omega) (by omega) with ⟨lk, el⟩ | ⟨nl, el⟩
        · simp only [el, Option.bind_some, if_neg one0]
          by_cases l12 : hXs N sem j x 12 = hXs N sem i x 12
          · have l4 : ¬ (i - j) % 4 = 0 := fun q => e (iff.mpr ⟨lk, l12, q⟩)
            have n4 : ¬ nI ((i - j) % 4) = 0 := nI_ne0 (by omega) (by omega)
            simp only [if_pos l12, if_neg n4]
            exact Or.inl ⟨_, _, rfl, rfl, rfl, rfl⟩
          · simp only [if_neg l12]
            exact Or.inl ⟨_, _, rfl, rfl, rfl, rfl⟩
        · simp only [el, Option.bind_some, if_true]
          exact Or.inl ⟨_, _, rfl, rfl, rfl, rfl⟩
    · rintro s t ⟨rfl, rfl⟩
      have c1 : ¬ nI i < nI i := nI_nlt (Nat.le_refl _) (by omega)
      refine ⟨.inr (), .inr (), ?_, ?_, rfl, Or.inl rfl⟩
      · unfold lb_X11_round_16; rw [if_neg c1]
      · unfold lb_X12_round_21; rw [if_neg c1]
  obtain ⟨r, q, er, eq, h⟩ : ∃ r q, lp (lb_X11_round_8 C2 0) lpN 1 = some r ∧ lp (lb_X12_round_13 M2 86) lpN 1 = some q ∧ ((r = .inr (-2, C2) ∧ q = .inr (-2, M2)) ∨ ∃ i j, i ≤ 99 ∧ j < i ∧ r = .inl (nI i, nI j) ∧ q = .inl (nI i, nI j)) := by
    refine lp_two (fun i s t => s = nI (i + 1) ∧ t = nI (i + 1)) _ 99 (by decide) ?_ ?_ ⟨rfl, rfl⟩
    · rintro i s t hi ⟨rfl, rfl⟩
      have c1 : nI (i + 1) ≤ 99 := nI_le (b := 99) (by omega) (by decide)
      obtain ⟨r, q, er, eq, rfl, alt⟩ := inner (i + 1) (by omega)
      unfold lb_X11_round_8 lb_X12_round_13
      simp only [if_pos c1, er, eq, Option.bind_some, nI_1]
      rcases alt with rfl | ⟨j, hj, rfl⟩
      · exact Or.inl ⟨_, _, rfl, rfl, rfl, rfl⟩
      · exact Or.inr ⟨_, _, rfl, rfl, Or.inr ⟨i + 1, j, by omega, hj, rfl, rfl⟩⟩
    · rintro s t ⟨rfl, rfl⟩
      refine ⟨_, _, ?_, ?_, Or.inl ⟨rfl, rfl⟩⟩
      · unfold lb_X11_round_8; rw [if_neg (show ¬ nI (99 + 1) ≤ 99 by decide)]
      · unfold lb_X12_round_13; rw [if_neg (show ¬ nI (99 + 1) ≤ 99 by decide)]
  rcases h with ⟨rfl, rfl⟩ | ⟨i, j, hi, hji, rfl, rfl⟩
  · refine w2.qr (-2) ?_ ?_ G2 (F1.trans H2)
    · unfold fn_X11_round
      simp only [k_0 w1.wc, Option.bind_some, e2', er, Sum.elim_inr]
    · unfold fn_X12_round
      simp only [p1, k_86 w1.wm, Option.bind_some, g2', eq, Sum.elim_inr]
  · -- how many sums
    obtain ⟨S, eS⟩ : ∃ S, S = sAt N sem x := ⟨_, rfl⟩
    have sok : ∀ d, d ≤ 99 → sumI (N_b N) (hXs N sem d x) = nI (S d) ∧ S d ≤ 54 := fun d hd => by rw [eS]; exact sAt_ok w (by omega)
    have mInner : ∀ d, d < i - j → ∃ b : Bool, (∀ v3, lp (lb_X12_round_90 M2 86 (nI i) (nI j) v3 (nI (j + d))) lpN (1, nI j) = some (b2 b)) ∧ (b = true ↔ ∀ o, o < d → S (j + o) ≠ S (j + d)) := by
      intro d hd
      have : ∀ v3, ∃ r, lp (lb_X12_round_90 M2 86 (nI i) (nI j) v3 (nI (j + d))) lpN (1, nI j) = some r ∧ (∃ b, r = b2 b ∧ (b = true ↔ ∀ o, o < d → S (j + o) ≠ S (j + d))) := by
        intro v3
        refine lp_inv (fun o s => s.2 = nI (j + o) ∧ ∃ b, s.1 = b2 b ∧ (b = true ↔ ∀ p, p < o → S (j + p) ≠ S (j + d))) _ d (by omega) ?_ ?_ ⟨rfl, true, rfl, ⟨fun _ p hp => absurd hp (by omega), fun _ => rfl⟩⟩
        · rintro o ⟨s1, s2⟩ ho ⟨rfl, b, rfl, hb⟩
          have c1 : nI (j + o) < nI (j + d) := nI_lt (by omega) (by omega)
          have so := sumAt_eq w2 (n := 99) (by decide) hm (k := j + o) (by omega)
          have sd := sumAt_eq w2 (n := 99) (by decide) hm (k := j + d) (by omega)
          rw [(sok (j + o) (by omega)).1] at so
          rw [(sok (j + d) (by omega)).1] at sd
          have l1 := (sok (j + o) (by omega)).2
          have l2 := (sok (j + d) (by omega)).2
          have io : nI (S (j + o)) = nI (S (j + d)) ↔ S (j + o) = S (j + d) := nI_eq (by omega) (by omega)
          unfold lb_X12_round_90
          simp only [if_pos c1, k_86 w2.wm, Option.bind_some, so, sd, nI_1]
          cases b with
          | false =>
            rw [if_pos (show b2 false = 0 from rfl)]
            exact Or.inl ⟨_, rfl, rfl, false, rfl, ⟨fun h => (by cases h), fun h => hb.mpr (fun p hp => h p (by omega))⟩⟩
          | true =>
            have hb' := hb.mp rfl
            rw [if_neg (show ¬ b2 true = 0 by decide)]
            by_cases e : S (j + o) = S (j + d)
            · rw [if_pos (io.mpr e)]
              exact Or.inl ⟨_, rfl, rfl, false, rfl, ⟨fun h => (by cases h), fun h => absurd e (h o (by omega))⟩⟩
            · rw [if_neg (fun q => e (io.mp q))]
              refine Or.inl ⟨_, rfl, rfl, true, rfl, ⟨fun _ p hp => ?_, fun _ => rfl⟩⟩
              by_cases ep : p = o
              · subst ep; exact e
              · exact hb' p (by omega)
        · rintro ⟨s1, s2⟩ ⟨rfl, b, rfl, hb⟩
          refine ⟨b2 b, ?_, b, rfl, hb⟩
          unfold lb_X12_round_90
          rw [if_neg (nI_nlt (Nat.le_refl _) (by omega))]
      obtain ⟨r0, e0, b, rfl, hb⟩ := this 0
      refine ⟨b, fun v3 => ?_, hb⟩
      obtain ⟨r1, e1, b', rfl, hb'⟩ := this v3
      have : b' = b := by
        have : b' = true ↔ b = true := hb'.trans hb.symm
        cases b <;> cases b' <;> simp at this ⊢
      rw [e1, this]
    have mMany : lp (lb_X12_round_78 M2 86 (nI i) (nI j)) lpN (0, nI j) = some (nI (pcN (setW S j (i - j)))) := by
      refine lp_run (fun d => (nI (pcN (setW S j d)), nI (j + d))) (i - j) _ ?_ ?_ (by omega) (by show _ = (nI (pcN 0), _); rw [pcN_0]; rfl)
      · intro d hd
        have c1 : nI (j + d) < nI i := nI_lt (by omega) (by omega)
        obtain ⟨b, eb, hb⟩ := mInner d hd
        have sl := (sok (j + d) (by omega)).2
        have tb := setW_bit S j (S (j + d)) d
        have po := pcN_or (setW S j d) (S (j + d)) (by omega)
        unfold lb_X12_round_78
        simp only [if_pos c1, eb, Option.bind_some, nI_1]
        cases b with
        | false =>
          have : (setW S j d).testBit (S (j + d)) = true := by
            rw [tb]
            refine Classical.byContradiction fun q => ?_
            have : false = true := hb.mpr (fun o ho he => q ⟨o, ho, he⟩)
            cases this
          rw [this, if_pos rfl, Nat.add_zero] at po
          rw [if_pos (show b2 false = 0 from rfl)]
          have z : ∀ c : Int32, c + 0 = c := Int32.add_zero
          rw [z]
          show some (Sum.inl (nI (pcN (setW S j d)), nI (j + d + 1))) = some (Sum.inl (nI (pcN (setW S j d ||| 2 ^ S (j + d))), nI (j + (d + 1))))
          rw [po]
          rfl
        | true =>
          have : (setW S j d).testBit (S (j + d)) = false := by
            cases hq : (setW S j d).testBit (S (j + d))
            · rfl
            · obtain ⟨o, ho, he⟩ := tb.mp hq
              exact absurd he (hb.mp rfl o ho)
          rw [this, if_neg (by decide)] at po
          rw [if_neg (show ¬ b2 true = 0 by decide)]
          show some (Sum.inl (nI (pcN (setW S j d) + 1), nI (j + d + 1))) = some (Sum.inl (nI (pcN (setW S j d ||| 2 ^ S (j + d))), nI (j + (d + 1))))
          rw [po]
          rfl
      · have c1 : ¬ nI (j + (i - j)) < nI i := nI_nlt (by omega) (by omega)
        unfold lb_X12_round_78
        simp only [if_neg c1]
    obtain ⟨C3, M3, f3, g3, G3, H3, w3⟩ := w2.begin
    obtain ⟨C4, M4, f4, g4, G4, H4, w4⟩ := w3.add (by decide) (Int32.toInt64 (nI j))
    obtain ⟨C5, M5, f5, g5, G5, H5, w5⟩ := w4.add (by simp) (Int32.toInt64 (nI (pcN (setW S j (i - j)))))
    have dS : fn_X11_differentSums C4 0 (nI j) (nI i) = some (nI (pcN (setW S j (i - j)))) := by
      have loop : lp (lb_X11_differentSums_5 C4 0 (nI i)) lpN (0, nI j) = some (lN (setW S j (i - j))) := by
        refine lp_run (fun d => (lN (setW S j d), nI (j + d))) (i - j) _ ?_ ?_ (by omega) rfl
        · intro d hd
          have c1 : nI (j + d) < nI i := nI_lt (by omega) (by omega)
          have a1 : aJ C4 83 (nI (j + d)) = some (lN (codeN (hXs N sem (j + d) x))) := by rw [aJ_eq w4.wc 83 168 rfl (j + d) (by omega) (by decide), G4.jrow 83 (fun _ => rfl), G3.jrow 83 (fun _ => rfl), hc (j + d) (by omega)]
          have sC : fn_X7_sumOf C4 (lN (codeN (hXs N sem (j + d) x))) = some (nI (S (j + d))) := by
            rw [sumOfC_eq C4 (hXv w (j + d)) (by unfold MH; omega) h8, sum6 (hXv w (j + d)) h6, (sok (j + d) (by omega)).1]
          have sl := (sok (j + d) (by omega)).2
          have l1 : lsl 1 (nI (S (j + d))) = lN (2 ^ S (j + d)) := by
            have := lsl_nat (a := 1) (k := S (j + d)) (by omega)
            rw [Nat.one_mul] at this
            exact this
          have lt1 := setW_lt S j d (fun o ho => (sok (j + o) (by omega)).2)
          have lt2 : 2 ^ S (j + d) < 2 ^ 64 := Nat.pow_lt_pow_right (by decide) (by omega)
          unfold lb_X11_differentSums_5
          simp only [if_pos c1, g_0_13 w4.wc, Option.bind_some, a1, sC, l1, wb_or (show setW S j d < 2 ^ 64 by omega) lt2, nI_1]
          rfl
        · have c1 : ¬ nI (j + (i - j)) < nI i := nI_nlt (by omega) (by omega)
          unfold lb_X11_differentSums_5
          simp only [if_neg c1]
      have lt1 := setW_lt S j (i - j) (fun o ho => (sok (j + o) (by omega)).2)
      unfold fn_X11_differentSums
      simp only [loop, Option.bind_some, bcJ_eq, bcJ_nat (show setW S j (i - j) < 2 ^ 64 by omega)]
    refine w5.qr (nI i) ?_ ?_ (G2.trans ((G3.mono stC_sc).trans ((G4.mono stC_sc).trans (G5.mono stC_sc)))) (F1.trans (H2.trans ((H3.mono stM_sm).trans ((H4.mono stM_sm).trans (H5.mono stM_sm)))))
    · unfold fn_X11_round
      simp only [k_0 w1.wc, Option.bind_some, e2', er, Sum.elim_inl, g_0_11 w2.wc, k_77 w2.wc, f3, g_0_11 w3.wc, k_77 w3.wc, f4, g_0_11 w4.wc, k_0 w4.wc, dS, k_77 w4.wc, f5]
    · unfold fn_X12_round
      simp only [p1, k_86 w1.wm, Option.bind_some, g2', eq, Sum.elim_inl, mMany, g3, k_86 w3.wm, g4, k_86 w4.wm, g5]
end Q9
