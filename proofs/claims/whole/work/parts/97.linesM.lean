/-! lines: the reference's reading -/
section LinesM
variable {T : Nat → Nat} {n : Nat} {h : aH}
theorem sg_eq {L p c : Nat} (hT : p < L → T p < 256) (hc : c < 256) : sg T L p = nI c ↔ p < L ∧ T p = c := by
  unfold sg
  by_cases q : p < L
  · rw [if_pos q, eqc (hT q) c hc]
    exact ⟨fun e => ⟨q, e⟩, fun e => e.2⟩
  · rw [if_neg q]
    exact ⟨fun e => absurd e.symm (nI_m1 (by omega)), fun e => absurd e.1 q⟩
theorem RD.lim {a top p : Nat} {wr : Option Nat} (r : RD a T n top p wr h) {i : Nat} (hi : i < n) : T i < 256 := (r.2.2.2.2.2.2.2.2.2.2.2.2 i hi).1
theorem here_is {a top p : Nat} {wr : Option Nat} (r : RD a T n top p wr h) {c : Nat} (hc : c < 256) : sg T (min n top) p = nI c ↔ p < min n top ∧ T p = c := sg_eq (fun q => r.lim (by omega)) hc
theorem passes_M {a top p : Nat} {wr : Option Nat} (r : RD a T n top p wr h) (hp : p < 400) {c : Nat} (hc : c < 256) : (wr = none ∧ p < min n top ∧ T p = c ∧ ∃ h', fn_X12_passes h 86 (nI c) = some (1, h') ∧ Fr rdS h h' ∧ RD a T n top (p + 1) none h') ∨ (¬ (wr = none ∧ p < min n top ∧ T p = c) ∧ fn_X12_passes h 86 (nI c) = some (0, h)) := by
  have w := r.1
  unfold fn_X12_passes
  rw [k_86 w, Option.bind_some, fine_M r, Option.bind_some]
  cases wr with
  | some q => exact Or.inr ⟨fun q => absurd q.1 (by simp), by rw [if_pos (by rfl)]⟩
  | none =>
    rw [if_neg (by decide), Option.bind_some, here_M r, Option.bind_some]
    by_cases e : p < min n top ∧ T p = c
    · left
      refine ⟨rfl, e.1, e.2, sI h 86 15 (nI (p + 1)), ?_, (Fr.refl _ _).sI _ rfl, r.at (by omega)⟩
      rw [if_pos ((here_is r hc).mpr e), w_gI w 86 11 15 rfl, Option.bind_some, r.2.2.2.2.1, nI_1, w_pI w 86 11 15 _ rfl, Option.bind_some]
    · right
      refine ⟨fun q => e q.2, ?_⟩
      rw [if_neg (fun q => e ((here_is r hc).mp q))]
theorem wasRight_M {a top p : Nat} {wr : Option Nat} (r : RD a T n top p wr h) : (wr = none ∧ n ≤ p ∧ fn_X12_wasRight h 86 = some (1, h)) ∨ (∃ h' x, flt wr p = some x ∧ (wr = none → p < n) ∧ fn_X12_wasRight h 86 = some (0, h') ∧ RD a T n top p (some x) h' ∧ Fr rdS h h') := by
  have w := r.1
  have h8 := r.2.2.2.2.2.2.1
  have h5 := r.2.2.2.2.2.2.2.2.1
  unfold fn_X12_wasRight
  rw [w_gI w 86 11 15 rfl, Option.bind_some, r.2.2.2.2.1, w_gI w 86 11 13 rfl, Option.bind_some, r.2.2.1]
  by_cases c : p < n
  · obtain ⟨h', e1, r', F⟩ := fault_M r (q := p) h5
    right
    obtain ⟨x, hx⟩ : ∃ x, flt wr p = some x := by cases wr <;> exact ⟨_, rfl⟩
    rw [hx] at r'
    refine ⟨h', x, hx, fun _ => c, ?_, r', F⟩
    rw [if_pos (nI_lt c (by omega)), Option.bind_some, k_86 w, Option.bind_some, e1, Option.bind_some, Option.bind_some, k_86 r'.1, Option.bind_some, fine_M r', Option.bind_some]
    rfl
  · rw [if_neg (nI_nlt (by omega) (by omega)), Option.bind_some, k_86 w, Option.bind_some, fine_M r, Option.bind_some]
    cases wr with
    | none => exact Or.inl ⟨rfl, by omega, rfl⟩
    | some x => exact Or.inr ⟨h, x, rfl, (fun q => by cases q), rfl, r, Fr.refl _ _⟩
def rdL (a j : Nat) : Bool := rdS a j || a == 93
theorem rdS_L (a j : Nat) (e : rdL a j = false) : rdS a j = false := by unfold rdL at e; simp at e; simp [e]
theorem RD.set93 {a top p : Nat} {wr : Option Nat} (r : RD a T n top p wr h) (ha : a ≠ 93) (j : Nat) (x : Int32) : RD a T n top p wr (sI h 93 j x) := by
  refine r.to (S := fun a j => a == 93) ((Fr.refl _ _).sI _ rfl) (fun _ _ _ => rfl) (fun j => ?_)
  simp [ha]
theorem three : ∀ K, K < 80 → (3 : Int32) * nI K = nI (3 * K) := by decide +kernel
def lnG (blk : aH → Int32 → Option aH) (s : Int32 × Int32 × aH) : Option ((Int32 × Int32 × aH) ⊕ (Int32 × aH)) :=
  if s.2.1 = 0 then some (.inr (s.1, s.2.2)) else (ck s.2.2 86 11).bind fun _ => (fn_X12_fine s.2.2 86).bind fun x6 => if x6 = 0 then some (.inr (s.1, s.2.2)) else (blk s.2.2 s.1).bind fun t8 => (some (s.1 + 1)).bind fun x9 => (ck t8 86 11).bind fun _ => (fn_X12_passes t8 86 59).bind fun o11 => some (.inl (x9, o11.1, o11.2))
/-- what a line gives -/
def LnR (T : Nat → Nat) (n lg room : Nat) (st : Nat → Bool) (Q : Nat → aH → Prop) (K : Nat) (h t8 : aH) : Prop := Fr rdL h t8 ∧
  ((K < room ∧ RD 91 T n lg (4 * K + 3) none t8 ∧ 4 * K + 3 ≤ n ∧ (st (4 * K) = true ∧ st (4 * K + 1) = true ∧ st (4 * K + 2) = true) ∧ Q (K + 1) t8) ∨
   ∃ w q, q < 400 ∧ RD 91 T n lg q (some w) t8 ∧ w ≤ n ∧ 4 * K ≤ w ∧ w ≤ 4 * K + 2 ∧ (∀ p, 4 * K ≤ p → p < w → bad st lg room p = false) ∧ (w < n → bad st lg room w = true))
def LnF (T : Nat → Nat) (n lg room : Nat) (st : Nat → Bool) (Q : Nat → aH → Prop) (s1 : Int32) (h : aH) : Prop :=
  (∃ K, K < room ∧ n = 4 * K + 3 ∧ s1 = nI (K + 1) ∧ RD 91 T n lg n none h ∧ Q (K + 1) h ∧ ∀ p, p < n → bad st lg room p = false) ∨
  (∃ w, w ≤ n ∧ (∀ p, p < w → bad st lg room p = false) ∧ (w < n → bad st lg room w = true) ∧ (w = n → n % 4 ≠ 3) ∧ ((∃ q, RD 91 T n lg q (some w) h) ∨ (w < n ∧ RD 91 T n lg w none h)))
theorem lnRead {lg room : Nat} {st : Nat → Bool} {Q : Nat → aH → Prop} {blk : aH → Int32 → Option aH} (hn : 0 < n) (hroom : room ≤ 8) (hlg : ∀ K, K < room → 4 * K + 3 ≤ lg) (hst : ∀ p, p % 4 = 3 → st p = decide (T p = 59)) (hQ : ∀ K h h', Fr rdS h h' → Q K h → Q K h')
    (hB : ∀ K h, K ≤ room → 4 * K ≤ n → RD 91 T n lg (4 * K) none h → Q K h → ∃ t8, blk h (nI K) = some t8 ∧ LnR T n lg room st Q K h t8)
    (r : RD 91 T n lg 0 none h) (q0 : Q 0 h) : ∃ o, lp (lnG blk) lpN (0, 1, h) = some o ∧ Fr rdL h o.2 ∧ LnF T n lg room st Q o.1 o.2 := by
  refine lp_inv (fun k (s : Int32 × Int32 × aH) => Fr rdL h s.2.2 ∧ ((s.1 = nI k ∧ s.2.1 = 1 ∧ k ≤ room ∧ 4 * k ≤ n ∧ RD 91 T n lg (4 * k) none s.2.2 ∧ Q k s.2.2 ∧ ∀ p, p < 4 * k → bad st lg room p = false) ∨ (s.2.1 = 0 ∧ LnF T n lg room st Q s.1 s.2.2))) (fun (o : Int32 × aH) => Fr rdL h o.2 ∧ LnF T n lg room st Q o.1 o.2) (room + 2) (by omega) ?_ ?_ ⟨Fr.refl _ _, Or.inl ⟨rfl, rfl, Nat.zero_le _, Nat.zero_le _, r, q0, fun p hp => by omega⟩⟩
  · rintro k ⟨s1, s2, g⟩ hk ⟨F, I⟩
    dsimp only at F I
    rcases I with ⟨rfl, rfl, I3, I4, I5, I6, I7⟩ | ⟨rfl, I2⟩
    · left
      obtain ⟨t8, e8, F8, L⟩ := hB k g I3 I4 I5 I6
      have w8 := F8.wf I5.1
      have go : ∀ b g', fn_X12_passes t8 86 (nI 59) = some (b, g') → lnG blk (nI k, 1, g) = some (.inl (nI (k + 1), b, g')) := by
        intro b g' e
        have e' : fn_X12_passes t8 86 59 = some (b, g') := e
        unfold lnG
        dsimp only
        rw [if_neg one0, k_86 I5.1, Option.bind_some, fine_M I5, Option.bind_some, if_neg (by decide), e8, Option.bind_some, Option.bind_some, k_86 w8, Option.bind_some, e', Option.bind_some, nI_1]
      rcases L with ⟨L1, L2, L3, ⟨L4, L5, L6⟩, L7⟩ | ⟨w, q, hq, L1, L2, L3, L4, L5, L6⟩
      · have nb3 : ∀ p, p < 4 * k + 3 → bad st lg room p = false := by
          intro p hp
          rcases Nat.lt_or_ge p (4 * k) with c | c
          · exact I7 p c
          · have := hlg k L1
            rw [bad_f]
            refine ⟨by omega, fun _ => by omega, ?_⟩
            rcases (show p = 4 * k ∨ p = 4 * k + 1 ∨ p = 4 * k + 2 by omega) with rfl | rfl | rfl
            · exact L4
            · exact L5
            · exact L6
        rcases passes_M L2 (by omega) (c := 59) (by decide) with ⟨-, m2, m3, g', m4, m5, m6⟩ | ⟨m1, m2⟩
        · refine ⟨_, go _ _ m4, F.trans (F8.trans (m5.mono rdS_L)), Or.inl ⟨rfl, rfl, by omega, by omega, m6, hQ _ _ _ m5 L7, fun p hp => ?_⟩⟩
          by_cases c : p = 4 * k + 3
          · rw [bad_f]
            refine ⟨by omega, fun q => by omega, ?_⟩
            rw [hst p (by omega), c]
            exact decide_eq_true m3
          · exact nb3 p (by omega)
        · refine ⟨_, go _ _ m2, F.trans F8, Or.inr ⟨rfl, ?_⟩⟩
          by_cases c : n = 4 * k + 3
          · left
            refine ⟨k, L1, c, rfl, ?_, L7, fun p hp => nb3 p (by omega)⟩
            rw [c] at L2 ⊢; exact L2
          · right
            refine ⟨4 * k + 3, L3, nb3, fun _ => ?_, fun q => absurd q.symm c, Or.inr ⟨by omega, L2⟩⟩
            have := hlg k L1
            cases e : bad st lg room (4 * k + 3)
            · rw [bad_f] at e
              have e3 := e.2.2
              rw [hst _ (by omega)] at e3
              have e3 := of_decide_eq_true e3
              exact absurd ⟨rfl, by omega, e3⟩ m1
            · rfl
      · rcases passes_M L1 hq (c := 59) (by decide) with ⟨m1, -⟩ | ⟨-, m2⟩
        · cases m1
        · refine ⟨_, go _ _ m2, F.trans F8, Or.inr ⟨rfl, Or.inr ⟨w, L2, fun p hp => ?_, L6, fun q => by omega, Or.inl ⟨q, L1⟩⟩⟩⟩
          rcases Nat.lt_or_ge p (4 * k) with c | c
          · exact I7 p c
          · exact L5 p c hp
    · right
      refine ⟨(s1, g), ?_, F, I2⟩
      unfold lnG
      dsimp only
      rw [if_pos rfl]
  · rintro ⟨s1, s2, g⟩ ⟨F, I⟩
    dsimp only at F I
    rcases I with ⟨-, -, I3, -⟩ | ⟨rfl, I2⟩
    · omega
    · refine ⟨(s1, g), ?_, F, I2⟩
      unfold lnG
      dsimp only
      rw [if_pos rfl]
/-- then it was right, or it tells where it was not -/
theorem lnRight {lg room : Nat} {st : Nat → Bool} {Q : Nat → aH → Prop} (hn : 0 < n) (hQ : ∀ K h h', Fr rdS h h' → Q K h → Q K h') {s1 : Int32} (L : LnF T n lg room st Q s1 h) : (∃ K, K < room ∧ n = 4 * K + 3 ∧ s1 = nI (K + 1) ∧ wres st lg room n = none ∧ fn_X12_wasRight h 86 = some (1, h) ∧ Q (K + 1) h ∧ Wf h ∧ ∀ p, p < n → bad st lg room p = false) ∨ (∃ w h', wres st lg room n = some w ∧ fn_X12_wasRight h 86 = some (0, h') ∧ Fr rdS h h' ∧ gI h' 86 11 16 = some (nI w)) := by
  rcases L with ⟨K, l1, l2, l3, l4, l5, l6⟩ | ⟨w, l1, l2, l3, l4, l5⟩
  · left
    refine ⟨K, l1, l2, l3, wres_ok l6 (by omega), ?_, l5, l4.1, l6⟩
    rcases wasRight_M l4 with ⟨-, -, e⟩ | ⟨h', x, -, e, -⟩
    · exact e
    · have := e rfl; omega
  · right
    have wr := wres_bad hn l1 l2 l3 l4
    rcases l5 with ⟨q, r⟩ | ⟨hw, r⟩
    · rcases wasRight_M r with ⟨e, -⟩ | ⟨h', x, e1, -, e3, e4, e5⟩
      · cases e
      · have ex : w = x := Option.some.inj e1
        subst ex
        refine ⟨w, h', wr, e3, e5, ?_⟩
        rw [w_gI e4.1 86 11 16 rfl, e4.2.2.2.2.2.1]
        rfl
    · rcases wasRight_M r with ⟨-, e, -⟩ | ⟨h', x, e1, -, e3, e4, e5⟩
      · omega
      · have ex : w = x := Option.some.inj e1
        subst ex
        refine ⟨w, h', wr, e3, e5, ?_⟩
        rw [w_gI e4.1 86 11 16 rfl, e4.2.2.2.2.2.1]
        rfl
end LinesM
