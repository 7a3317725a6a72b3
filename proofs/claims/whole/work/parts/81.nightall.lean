/-! a night read whole by the reference -/
def pos (T : Nat → Nat) : Nat → Nat
  | 0 => 0
  | k + 1 => pos T k + sl (T (pos T k))
def good (T : Nat → Nat) (n K : Nat) : Prop := ∀ j, j < K → pos T j < n ∧ aw T (min n 60) (pos T j) = none
theorem aw_none {T : Nat → Nat} {L p : Nat} (e : aw T L p = none) : p < L ∧ 0 < sl (T p) ∧ p + sl (T p) ≤ L ∧ isDg T L (p + 1) = true ∧ (sl (T p) = 3 → dg2 T L p = true) := by
  unfold aw at e
  by_cases c : p < L ∧ 0 < sl (T p)
  · rw [if_pos c] at e
    by_cases d : isDg T L (p + 1) = true
    · rw [if_pos d] at e
      have d' := d
      unfold isDg at d'
      simp at d'
      by_cases s2 : sl (T p) = 2
      · exact ⟨c.1, c.2, by omega, d, fun q => by omega⟩
      · rw [if_neg s2] at e
        by_cases g : dg2 T L p = true
        · have g' := g
          unfold dg2 isDg at g'
          simp at g'
          have := sl_01 (T p)
          exact ⟨c.1, c.2, by omega, d, fun _ => g⟩
        · rw [if_neg g] at e; cases e
    · rw [if_neg d] at e; cases e
  · rw [if_neg c] at e; cases e
theorem good_pos {T : Nat → Nat} {n : Nat} : ∀ K, good T n K → 2 * K ≤ pos T K ∧ pos T K ≤ min n 60
  | 0, _ => ⟨by omega, by show 0 ≤ _; omega⟩
  | K + 1, g => by
    obtain ⟨i1, i2⟩ := good_pos K (fun j hj => g j (by omega))
    obtain ⟨-, e⟩ := g K (by omega)
    obtain ⟨a1, a2, a3, -⟩ := aw_none e
    have := sl_01 (T (pos T K))
    refine ⟨?_, a3⟩
    show 2 * (K + 1) ≤ pos T K + sl (T (pos T K))
    omega
theorem nres_pos {T : Nat → Nat} {n : Nat} : ∀ K, good T n K → ∀ f, nres T n (f + K) 0 = nres T n f (pos T K)
  | 0, _, f => rfl
  | K + 1, g, f => by
    have e1 := nres_pos K (fun j hj => g j (by omega)) (f + 1)
    obtain ⟨g1, g2⟩ := g K (by omega)
    rw [show f + (K + 1) = f + 1 + K by omega, e1]
    show (if pos T K < n then (match aw T (min n 60) (pos T K) with | some w => some w | none => nres T n f (pos T K + sl (T (pos T K)))) else none) = _
    rw [if_pos g1, g2]
    rfl
theorem nres_ok {T : Nat → Nat} {n K : Nat} (hn : n ≤ 80) (g : good T n K) (e : n ≤ pos T K) : nres T n n 0 = none := by
  obtain ⟨i1, i2⟩ := good_pos K g
  have := nres_pos K g (n - K)
  rw [show n - K + K = n by omega] at this
  rw [this]
  cases n - K with
  | zero => rfl
  | succ f => show (if pos T K < n then _ else none) = none; rw [if_neg (by omega)]
theorem nres_bad {T : Nat → Nat} {n K x : Nat} (g : good T n K) (e : pos T K < n) (ea : aw T (min n 60) (pos T K) = some x) : nres T n n 0 = some x := by
  obtain ⟨i1, i2⟩ := good_pos K g
  have := nres_pos K g (n - K)
  rw [show n - K + K = n by omega] at this
  rw [this]
  obtain ⟨f, ef⟩ : ∃ f, n - K = f + 1 := ⟨n - K - 1, by omega⟩
  rw [ef]
  show (if pos T K < n then (match aw T (min n 60) (pos T K) with | some w => some w | none => nres T n f (pos T K + sl (T (pos T K)))) else none) = _
  rw [if_pos e, ea]
section NightAll
variable {T : Nat → Nat} {n : Nat} {h : aH}
theorem readAct_M {p : Nat} (r : RD 91 T n 60 p none h) (hp : p < n) (h60 : p ≤ 60) {k : Nat} (hk : k < 80) : ∃ h', fn_X12_readAct h 86 (nI (3 * k)) = some h' ∧ ActR T n p k h h' := by
  have w := r.1
  have hn := r.2.2.2.2.2.2.1
  have tp := (r.2.2.2.2.2.2.2.2.2.2.2.2 p (by omega)).1
  have bad : aw T (min n 60) p = some p → ∃ h', ((gI h 86 11 15).bind fun x147 => (ck h 86 11).bind fun u148 => (fn_X12_fault h 86 x147).bind fun h149 => some h149) = some h' ∧ ActR T n p k h h' := by
    intro e
    obtain ⟨h', g1, g2, g3⟩ := fault_M r (q := p) (by omega)
    refine ⟨h', ?_, g3.mono rdS_A, fun j _ => g3.i 101 j rfl, Or.inr ⟨p, p, e, by omega, g2⟩⟩
    rw [w_gI w 86 11 15 rfl, Option.bind_some, r.2.2.2.2.1, k_86 w, Option.bind_some, g1, Option.bind_some]
  rw [readAct_eq w, here_M r, Option.bind_some]
  unfold sg
  by_cases c : p < min n 60
  · rw [if_pos c]
    have q : ∀ b : Nat, b < 200 → (nI (T p) = nI b ↔ T p = b) := fun b hb => nI_eq (by omega) (by omega)
    by_cases s0 : 0 < sl (T p)
    · obtain ⟨h', z1, z2⟩ := tlA_eq r c s0 hk
      refine ⟨h', ?_, z2⟩
      rw [z1]
      by_cases c1 : nI (T p) = 110
      · rw [if_pos c1]
      rw [if_neg c1]
      by_cases c2 : nI (T p) = 112
      · rw [if_pos c2]
      rw [if_neg c2]
      by_cases c3 : nI (T p) = 108
      · rw [if_pos c3]
      rw [if_neg c3]
      by_cases c4 : nI (T p) = 98
      · rw [if_pos c4]
      rw [if_neg c4]
      by_cases c5 : nI (T p) = 107
      · rw [if_pos c5]
      rw [if_neg c5]
      by_cases c6 : nI (T p) = 109
      · rw [if_pos c6]
      exfalso
      have d1 : T p ≠ 110 := fun e => c1 (by rw [e]; rfl)
      have d2 : T p ≠ 112 := fun e => c2 (by rw [e]; rfl)
      have d3 : T p ≠ 108 := fun e => c3 (by rw [e]; rfl)
      have d4 : T p ≠ 98 := fun e => c4 (by rw [e]; rfl)
      have d5 : T p ≠ 107 := fun e => c5 (by rw [e]; rfl)
      have d6 : T p ≠ 109 := fun e => c6 (by rw [e]; rfl)
      unfold sl at s0
      rw [if_neg (by omega), if_neg (by omega)] at s0
      omega
    · have ne : ∀ b : Nat, b < 200 → 0 < sl b → ¬ nI (T p) = nI b := fun b hb hs e => s0 (by rw [(q b hb).mp e]; exact hs)
      obtain ⟨h', z1, z2⟩ := bad (if_neg (fun q => s0 q.2))
      refine ⟨h', ?_, z2⟩
      rw [if_neg (show ¬ nI (T p) = 110 from ne 110 (by decide) (by decide)), if_neg (show ¬ nI (T p) = 112 from ne 112 (by decide) (by decide)), if_neg (show ¬ nI (T p) = 108 from ne 108 (by decide) (by decide)), if_neg (show ¬ nI (T p) = 98 from ne 98 (by decide) (by decide)), if_neg (show ¬ nI (T p) = 107 from ne 107 (by decide) (by decide)), if_neg (show ¬ nI (T p) = 109 from ne 109 (by decide) (by decide))]
      exact z1
  · rw [if_neg c]
    obtain ⟨h', z1, z2⟩ := bad (if_neg (fun q => c q.1))
    refine ⟨h', ?_, z2⟩
    rw [if_neg (by decide), if_neg (by decide), if_neg (by decide), if_neg (by decide), if_neg (by decide), if_neg (by decide)]
    exact z1
/-- the acts as the reference keeps them -/
def actsM (T : Nat → Nat) (n K : Nat) (h : aH) : Prop := ∀ j, j < K → hI h 101 (3 * j) = nI (T (pos T j)) ∧ hI h 101 (3 * j + 1) = nI (dg T n (pos T j + 1)) ∧ (sl (T (pos T j)) = 3 → hI h 101 (3 * j + 2) = nI (dg T n (pos T j + 2)))
theorem nightM_read (r : RD 91 T n 60 0 none h) : ∃ o, lp (lb_X12_night_13 86) lpN (0, h) = some o ∧ Fr rdA h o.2 ∧ ((∃ K, good T n K ∧ n ≤ pos T K ∧ o.1 = nI K ∧ actsM T n K o.2 ∧ RD 91 T n 60 (pos T K) none o.2) ∨ ∃ K x q, good T n K ∧ pos T K < n ∧ aw T (min n 60) (pos T K) = some x ∧ RD 91 T n 60 q (some x) o.2) := by
  have hn := r.2.2.2.2.2.2.1
  refine lp_inv (fun k (s : Int32 × aH) => Fr rdA h s.2 ∧ ((s.1 = nI k ∧ good T n k ∧ actsM T n k s.2 ∧ RD 91 T n 60 (pos T k) none s.2) ∨ (∃ K x q, good T n K ∧ pos T K < n ∧ aw T (min n 60) (pos T K) = some x ∧ RD 91 T n 60 q (some x) s.2))) (fun (o : Int32 × aH) => Fr rdA h o.2 ∧ ((∃ K, good T n K ∧ n ≤ pos T K ∧ o.1 = nI K ∧ actsM T n K o.2 ∧ RD 91 T n 60 (pos T K) none o.2) ∨ ∃ K x q, good T n K ∧ pos T K < n ∧ aw T (min n 60) (pos T K) = some x ∧ RD 91 T n 60 q (some x) o.2)) 45 (by decide) ?_ ?_ ?_
  · intro k s hk ⟨f, cs⟩
    rcases cs with ⟨e1, g, am, rr⟩ | ⟨K, x, q, c1, c2, c3, c4⟩
    · obtain ⟨gp1, gp2⟩ := good_pos k g
      have w := rr.1
      by_cases c : pos T k < n
      · obtain ⟨h', z1, z2, z3, z4⟩ := readAct_M rr c (by omega) (k := k) (by omega)
        refine Or.inl ⟨(nI (k + 1), h'), ?_, f.trans z2, ?_⟩
        · have m3 : (3 : Int32) * nI k = nI (3 * k) := pk_mul 3 k
          unfold lb_X12_night_13
          rw [k_86 w, Option.bind_some, fine_M rr, Option.bind_some, if_neg (by decide), w_gI w 86 11 15 rfl, Option.bind_some, w_gI w 86 11 13 rfl, Option.bind_some, rr.2.2.2.2.1, rr.2.2.1, if_pos (nI_lt c (by omega)), Option.bind_some, e1, m3, z1, Option.bind_some, nI_1, Option.bind_some]
        · rcases z4 with ⟨y1, y2, y3, y4, y5⟩ | ⟨x, q, y1, y2, y3⟩
          · left
            refine ⟨rfl, fun j hj => ?_, fun j hj => ?_, y2⟩
            · by_cases hjk : j = k
              · subst hjk; exact ⟨c, y1⟩
              · exact g j (by omega)
            · by_cases hjk : j = k
              · subst hjk; exact ⟨y3, y4, y5⟩
              · have := am j (by omega)
                show hI h' 101 (3 * j) = _ ∧ hI h' 101 (3 * j + 1) = _ ∧ (_ → hI h' 101 (3 * j + 2) = _)
                rw [z3 _ (by omega), z3 _ (by omega), z3 _ (by omega)]
                exact this
          · exact Or.inr ⟨k, x, q, g, c, y1, y3⟩
      · refine Or.inr ⟨(s.1, s.2), ?_, f, Or.inl ⟨k, g, by omega, e1, am, rr⟩⟩
        unfold lb_X12_night_13
        rw [k_86 w, Option.bind_some, fine_M rr, Option.bind_some, if_neg (by decide), w_gI w 86 11 15 rfl, Option.bind_some, w_gI w 86 11 13 rfl, Option.bind_some, rr.2.2.2.2.1, rr.2.2.1, if_neg (nI_nlt (by omega) (by omega))]
    · have w := c4.1
      refine Or.inr ⟨(s.1, s.2), ?_, f, Or.inr ⟨K, x, q, c1, c2, c3, c4⟩⟩
      unfold lb_X12_night_13
      rw [k_86 w, Option.bind_some, fine_M c4, Option.bind_some, if_pos (by rfl)]
  · intro s ⟨f, cs⟩
    rcases cs with ⟨e1, g, am, rr⟩ | ⟨K, x, q, c1, c2, c3, c4⟩
    · obtain ⟨gp1, gp2⟩ := good_pos 45 g
      exact absurd gp1 (by omega)
    · have w := c4.1
      refine ⟨(s.1, s.2), ?_, f, Or.inr ⟨K, x, q, c1, c2, c3, c4⟩⟩
      unfold lb_X12_night_13
      rw [k_86 w, Option.bind_some, fine_M c4, Option.bind_some, if_pos (by rfl)]
  · exact ⟨Fr.refl _ _, Or.inl ⟨rfl, fun j hj => absurd hj (by omega), fun j hj => absurd hj (by omega), r⟩⟩
theorem wasRight_ok {p : Nat} (r : RD 91 T n 60 p none h) (hp : n ≤ p) : fn_X12_wasRight h 86 = some (1, h) := by
  have w := r.1
  have hn := r.2.2.2.2.2.2.1
  have hq := r.2.2.2.2.2.2.2.2.1
  unfold fn_X12_wasRight
  rw [w_gI w 86 11 15 rfl, Option.bind_some, w_gI w 86 11 13 rfl, Option.bind_some, r.2.2.2.2.1, r.2.2.1, if_neg (nI_nlt hp (by omega)), Option.bind_some, k_86 w, Option.bind_some, fine_M r, Option.bind_some]
  rfl
theorem wasRight_bad {p x : Nat} (r : RD 91 T n 60 p (some x) h) : fn_X12_wasRight h 86 = some (0, h) := by
  have w := r.1
  have hn := r.2.2.2.2.2.2.1
  have hq := r.2.2.2.2.2.2.2.2.1
  have fl : fn_X12_fault h 86 (nI p) = some h := by
    unfold fn_X12_fault
    rw [k_86 w, Option.bind_some, fine_M r, Option.bind_some, if_pos (by rfl)]
  unfold fn_X12_wasRight
  rw [w_gI w 86 11 15 rfl, Option.bind_some, w_gI w 86 11 13 rfl, Option.bind_some, r.2.2.2.2.1, r.2.2.1]
  have e : ((if nI p < nI n then (some (nI p)).bind fun x7 => (ck h 86 11).bind fun u8 => (fn_X12_fault h 86 x7).bind fun h9 => some h9 else some h) : Option aH) = some h := by
    split
    · rw [Option.bind_some, k_86 w, Option.bind_some, fl, Option.bind_some]
    · rfl
  rw [e, Option.bind_some, k_86 w, Option.bind_some, fine_M r, Option.bind_some]
  rfl
end NightAll
