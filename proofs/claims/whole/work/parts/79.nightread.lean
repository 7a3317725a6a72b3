/-! the signs of a night, read by both -/
def sgA (x : Int32) : Int32 := if x = 98 then 2 else if x = 99 then 0 else if x = 100 then 0 else if x = 101 then 0 else if x = 102 then 0 else if x = 103 then 0 else if x = 104 then 0 else if x = 105 then 0 else if x = 106 then 0 else if x = 107 then 2 else if x = 108 then 3 else if x = 109 then 3 else if x = 110 then 2 else if x = 111 then 0 else if x = 112 then 3 else 0
theorem ite_some {α : Type} {c : Prop} [Decidable c] {a b : α} {o : Option α} (e : o = some b) : (if c then some a else o) = some (if c then a else b) := by
  split
  · rfl
  · exact e
theorem so_eq (h : aH) (x : Int32) : fn_X11_signsOfAct h x = some (sgA x) := ite_some (ite_some (ite_some (ite_some (ite_some (ite_some (ite_some (ite_some (ite_some (ite_some (ite_some (ite_some (ite_some (ite_some (ite_some rfl))))))))))))))
def sl (c : Nat) : Nat := if c = 98 ∨ c = 107 ∨ c = 110 then 2 else if c = 108 ∨ c = 109 ∨ c = 112 then 3 else 0
theorem sgA_nat : ∀ c, c < 256 → sgA (nI c) = nI (sl c) := by decide +kernel
theorem sl_le (c : Nat) : sl c ≤ 3 := by unfold sl; split; omega; split <;> omega
theorem sl_01 (c : Nat) : sl c = 0 ∨ sl c = 2 ∨ sl c = 3 := by unfold sl; split; omega; split <;> omega
/-- where the act at p is wrong -/
def dg2 (T : Nat → Nat) (L p : Nat) : Bool := isDg T L (p + 2) && (decide (T p = 109) || !decide (T (p + 2) = 48))
def aw (T : Nat → Nat) (L p : Nat) : Option Nat :=
  if p < L ∧ 0 < sl (T p) then (if isDg T L (p + 1) = true then (if sl (T p) = 2 then none else if dg2 T L p = true then none else some (p + 2)) else some (p + 1)) else some p
def nres (T : Nat → Nat) (n : Nat) : Nat → Nat → Option Nat
  | 0, _ => none
  | f + 1, p => if p < n then (match aw T (min n 60) p with
    | some w => some w
    | none => nres T n f (p + sl (T p))) else none
def finO (n : Nat) (o : Int32 ⊕ Int32) : Int32 := match o with
  | .inl k => if k = 0 then -1 else nI n
  | .inr q => q
section NightC
variable {T : Nat → Nat} {n : Nat} {h : aH}
theorem stand0 (w : Wf h) {c : Nat} (hc : c < 256) (i : Int32) : fn_X11_standsInAct h 0 (nI c) 0 i = some (b2 (decide (0 < sl c))) := by
  have l := sl_le c
  unfold fn_X11_standsInAct
  rw [if_pos rfl, so_eq, Option.bind_some, sgA_nat c hc]
  by_cases e : 0 < sl c
  · rw [if_neg (show ¬ nI (sl c) ≤ 0 from nI_ge (a := 0) e (by omega)), decide_eq_true e]; rfl
  · rw [if_pos (show nI (sl c) ≤ 0 from nI_le (b := 0) (by omega) (by decide)), decide_eq_false e]; rfl
theorem stand1 (w : Wf h) (t : TxC T n h) (c : Int32) {i : Nat} (hi : i < 1000) : fn_X11_standsInAct h 0 c 1 (nI i) = some (b2 (isDg T n i)) := by
  unfold fn_X11_standsInAct
  rw [if_neg (by decide), if_neg (by decide), Option.bind_some, g_0_0 w, Option.bind_some, k_1 w, Option.bind_some, isDigit_C w t hi, Option.bind_some]
  cases isDg T n i <;> rfl
theorem stand2 (w : Wf h) (t : TxC T n h) {p : Nat} (hi : p + 2 < 1000) (hc : T p < 256) : fn_X11_standsInAct h 0 (nI (T p)) 2 (nI (p + 2)) = some (b2 (dg2 T n p)) := by
  unfold fn_X11_standsInAct dg2
  have e109 : nI (T p) = 109 ↔ T p = 109 := nI_eq (b := 109) (by omega) (by decide)
  have t1 : ((if (2 : Int32) = 2 then (if nI (T p) = 109 then some 0 else some 1) else some 0) : Option Int32) = some (b2 (!decide (T p = 109))) := by
    rw [if_pos rfl]
    by_cases c : T p = 109
    · rw [if_pos (e109.mpr c), decide_eq_true c]; rfl
    · rw [if_neg (fun q => c (e109.mp q)), decide_eq_false c]; rfl
  rw [if_neg (by decide), t1, Option.bind_some, g_0_0 w, Option.bind_some, k_1 w, Option.bind_some, isDigit_C w t hi, Option.bind_some]
  cases e : isDg T n (p + 2) with
  | false => rfl
  | true =>
    have e' := e
    unfold isDg at e'
    simp at e'
    rw [if_neg (by decide)]
    by_cases c : T p = 109
    · rw [decide_eq_true c]; rfl
    · rw [decide_eq_false c, if_neg (by decide), Option.bind_some, k_1 w, Option.bind_some, at_C w t hi, Option.bind_some]
      unfold sg
      rw [if_pos e'.1]
      by_cases c2 : T (p + 2) = 48
      · rw [if_pos (show nI (T (p + 2)) = 48 by rw [c2]; rfl), decide_eq_true c2]; rfl
      · rw [if_neg (show ¬ nI (T (p + 2)) = 48 from fun q => c2 ((nI_eq (b := 48) (by omega) (by decide)).mp q)), decide_eq_false c2]; rfl
/-- one step of the class's reading -/
theorem wsn_step (w : Wf h) (t : TxC T n h) {i j : Nat} {c c' : Int32} (hi : i < n) (h60 : i ≠ 60) (hj : j ≤ 2) (ec : (if nI j = 0 then some (sg T n i) else some c) = some c') {b : Bool} (es : fn_X11_standsInAct h 0 c' (nI j) (nI i) = some (b2 b)) : lb_X11_wrongSignOfNight_6 h 0 (c, nI j, nI i) = if b = true then (if nI (j + 1) = sgA c' then some (.inl (c', 0, nI (i + 1))) else some (.inl (c', nI (j + 1), nI (i + 1)))) else some (.inr (.inr (nI i))) := by
  have n8 := t.1
  unfold lb_X11_wrongSignOfNight_6
  dsimp only
  rw [g_0_0 w, Option.bind_some, w_gI w 1 7 1 rfl, Option.bind_some, t.2.1, if_pos (nI_lt hi (by omega)), if_neg (show ¬ nI i = 60 from fun q => h60 ((nI_eq (b := 60) (by omega) (by decide)).mp q))]
  have e3 : ((if nI j = 0 then (some 1).bind fun a12 => (ck h a12 7).bind fun u13 => (fn_X8_at h a12 (nI i)).bind fun x14 => some x14 else some c) : Option Int32) = some c' := by
    rw [← ec]
    split
    · rw [Option.bind_some, k_1 w, Option.bind_some, at_C w t (by omega), Option.bind_some]
    · rfl
  rw [e3, Option.bind_some, k_0 w, Option.bind_some, es, Option.bind_some, so_eq, Option.bind_some, nI_1]
  cases b with
  | false => rfl
  | true =>
    rw [if_neg (by decide), if_pos rfl]
    by_cases q : nI (j + 1) = sgA c'
    · rw [if_pos q, if_pos q, Option.bind_some, nI_1]
    · rw [if_neg q, if_neg q, Option.bind_some, Option.bind_some, nI_1]
theorem wsn_60 (w : Wf h) (t : TxC T n h) {j : Int32} {c : Int32} (hi : 60 < n) : lb_X11_wrongSignOfNight_6 h 0 (c, j, nI 60) = some (.inr (.inr (nI 60))) := by
  have n8 := t.1
  unfold lb_X11_wrongSignOfNight_6
  dsimp only
  rw [g_0_0 w, Option.bind_some, w_gI w 1 7 1 rfl, Option.bind_some, t.2.1, if_pos (nI_lt hi (by omega)), if_pos (show nI 60 = 60 from rfl)]
theorem wsn_end (w : Wf h) (t : TxC T n h) {j : Int32} {c : Int32} {i : Nat} (hi : n ≤ i) (h5 : i < 1000) : lb_X11_wrongSignOfNight_6 h 0 (c, j, nI i) = some (.inr (.inl j)) := by
  have n8 := t.1
  unfold lb_X11_wrongSignOfNight_6
  dsimp only
  rw [g_0_0 w, Option.bind_some, w_gI w 1 7 1 rfl, Option.bind_some, t.2.1, if_neg (nI_nlt hi (by omega))]
/-- at a place inside an act: the loop ends there, or goes on -/
theorem wsn_at (w : Wf h) (t : TxC T n h) {i j : Nat} {c c' : Int32} (hin : i ≤ n) (hj : 1 ≤ j ∧ j ≤ 2) (ec : c' = c) {b : Bool} (h60 : i ≤ 60) (es : i < n → i < 60 → fn_X11_standsInAct h 0 c' (nI j) (nI i) = some (b2 b)) (N : Nat) : (¬ (i < min n 60 ∧ b = true) ∧ ∃ o, lp (lb_X11_wrongSignOfNight_6 h 0) (N + 1) (c, nI j, nI i) = some o ∧ finO n o = nI i) ∨ (i < min n 60 ∧ b = true ∧ lp (lb_X11_wrongSignOfNight_6 h 0) (N + 1) (c, nI j, nI i) = lp (lb_X11_wrongSignOfNight_6 h 0) N (if nI (j + 1) = sgA c' then (c', 0, nI (i + 1)) else (c', nI (j + 1), nI (i + 1)))) := by
  have n8 := t.1
  have nz : ¬ nI j = 0 := fun q => absurd ((nI_eq (b := 0) (by omega) (by omega)).mp q) (by omega)
  by_cases c1 : i < n
  · by_cases c2 : i = 60
    · subst c2
      refine Or.inl ⟨fun q => absurd q.1 (by omega), .inr (nI 60), ?_, rfl⟩
      simp only [lp]
      rw [wsn_60 w t c1]
    · have st := wsn_step w t c1 c2 (by omega) (show (if nI j = 0 then some (sg T n i) else some c) = some c' by rw [if_neg nz, ec]) (es c1 (by omega))
      cases b with
      | false =>
        refine Or.inl ⟨fun q => absurd q.2 (by decide), .inr (nI i), ?_, rfl⟩
        simp only [lp]
        rw [st, if_neg (by decide)]
      | true =>
        refine Or.inr ⟨by omega, rfl, ?_⟩
        simp only [lp]
        rw [st, if_pos rfl]
        by_cases q : nI (j + 1) = sgA c'
        · rw [if_pos q, if_pos q]
        · rw [if_neg q, if_neg q]
  · refine Or.inl ⟨fun q => absurd q.1 (by omega), .inl (nI j), ?_, ?_⟩
    · simp only [lp]
      rw [wsn_end w t (by omega) (by omega)]
    · show (if nI j = 0 then (-1 : Int32) else nI n) = nI i
      rw [if_neg nz, show i = n by omega]
theorem isDg_min {L i : Nat} (hL : L ≤ n) : isDg T L i = (decide (i < L) && isDg T n i) := by
  unfold isDg
  by_cases c : i < L
  · simp [c, show i < n by omega]
  · simp [c]
theorem wsn_all (w : Wf h) (t : TxC T n h) : ∀ f p, n ≤ p + f → p ≤ n → p ≤ 60 → ∀ N c, 3 * f < N → ∃ o, lp (lb_X11_wrongSignOfNight_6 h 0) N (c, 0, nI p) = some o ∧ finO n o = wrI (nres T n f p) := by
  have n8 := t.1
  have stop : ∀ p, n ≤ p → p ≤ n → ∀ N c, 0 < N → ∃ o, lp (lb_X11_wrongSignOfNight_6 h 0) N (c, 0, nI p) = some o ∧ finO n o = -1 := by
    intro p h1 h2 N c hN
    obtain ⟨K, rfl⟩ : ∃ K, N = K + 1 := ⟨N - 1, by omega⟩
    refine ⟨.inl 0, ?_, rfl⟩
    simp only [lp]
    rw [wsn_end w t h1 (by omega)]
  intro f
  induction f with
  | zero => exact fun p h1 h2 h3 N c hN => stop p (by omega) h2 N c (by omega)
  | succ f ih =>
    intro p h1 h2 h3 N c hN
    unfold nres
    by_cases hp : p < n
    · rw [if_pos hp]
      have hc := (t.2.2 p hp).1
      obtain ⟨K, rfl⟩ : ∃ K, N = K + 1 := ⟨N - 1, by omega⟩
      by_cases h60 : p = 60
      · have e : aw T (min n 60) p = some p := if_neg (fun q => absurd q.1 (by omega))
        rw [e]
        refine ⟨.inr (nI p), ?_, rfl⟩
        simp only [lp]
        rw [h60, wsn_60 w t (by omega)]
      · have st := wsn_step w t (i := p) (j := 0) (c := c) (c' := nI (T p)) hp h60 (by omega) (by rw [if_pos (show nI 0 = 0 from rfl)]; unfold sg; rw [if_pos hp]) (stand0 w hc (nI p))
        by_cases s0 : 0 < sl (T p)
        · rw [decide_eq_true s0, if_pos rfl, sgA_nat _ hc] at st
          have hs := sl_01 (T p)
          have n1 : ¬ nI (0 + 1) = nI (sl (T p)) := fun q => absurd ((nI_eq (by omega) (by omega)).mp q) (by omega)
          rw [if_neg n1] at st
          have l1 : lp (lb_X11_wrongSignOfNight_6 h 0) (K + 1) (c, 0, nI p) = lp (lb_X11_wrongSignOfNight_6 h 0) K (nI (T p), nI 1, nI (p + 1)) := by
            have st' : lb_X11_wrongSignOfNight_6 h 0 (c, 0, nI p) = some (.inl (nI (T p), nI (0 + 1), nI (p + 1))) := st
            simp only [lp]
            rw [st']
          rw [l1]
          obtain ⟨K1, rfl⟩ : ∃ K1, K = K1 + 1 := ⟨K - 1, by omega⟩
          rcases wsn_at w t (i := p + 1) (j := 1) (c := nI (T p)) (b := isDg T n (p + 1)) (by omega) (by omega) rfl (by omega) (fun _ _ => stand1 w t (nI (T p)) (by omega)) K1 with ⟨q1, o, q2, q3⟩ | ⟨q1, q2, q3⟩
          · have e : aw T (min n 60) p = some (p + 1) := by
              unfold aw
              rw [if_pos ⟨by omega, s0⟩, if_neg]
              rw [isDg_min (T := T) (n := n) (by omega)]
              intro q
              simp at q
              exact q1 ⟨by omega, q.2⟩
            rw [e]
            exact ⟨o, q2, q3⟩
          · rw [q3, sgA_nat _ hc]
            have d1 : isDg T (min n 60) (p + 1) = true := by rw [isDg_min (T := T) (n := n) (by omega), q2, decide_eq_true q1]; rfl
            by_cases s2 : sl (T p) = 2
            · have e : aw T (min n 60) p = none := by
                unfold aw
                rw [if_pos ⟨by omega, s0⟩, if_pos d1, if_pos s2]
              rw [e, if_pos (by rw [s2])]
              dsimp only
              rw [s2]
              exact ih (p + 2) (by omega) (by omega) (by omega) K1 _ (by omega)
            · have s3 : sl (T p) = 3 := by omega
              rw [if_neg (show ¬ nI (1 + 1) = nI (sl (T p)) from fun q => absurd ((nI_eq (by omega) (by omega)).mp q) (by omega))]
              obtain ⟨K2, rfl⟩ : ∃ K2, K1 = K2 + 1 := ⟨K1 - 1, by omega⟩
              rcases wsn_at w t (i := p + 2) (j := 2) (c := nI (T p)) (b := dg2 T n p) (by omega) (by omega) rfl (by omega) (fun _ _ => stand2 w t (by omega) hc) K2 with ⟨r1, o, r2, r3⟩ | ⟨r1, r2, r3⟩
              · have e : aw T (min n 60) p = some (p + 2) := by
                  unfold aw
                  rw [if_pos ⟨by omega, s0⟩, if_pos d1, if_neg s2, if_neg]
                  unfold dg2
                  rw [isDg_min (T := T) (n := n) (by omega)]
                  intro q
                  have q' : p + 2 < min n 60 ∧ dg2 T n p = true := by
                    unfold dg2
                    simp at q ⊢
                    exact ⟨by omega, q.1.2, q.2⟩
                  exact r1 q'
                rw [e]
                exact ⟨o, r2, r3⟩
              · have e : aw T (min n 60) p = none := by
                  unfold aw
                  rw [if_pos ⟨by omega, s0⟩, if_pos d1, if_neg s2, if_pos]
                  unfold dg2 at r2 ⊢
                  rw [isDg_min (T := T) (n := n) (by omega), decide_eq_true r1]
                  exact r2
                rw [r3, sgA_nat _ hc, e, if_pos (by rw [s3])]
                dsimp only
                rw [s3]
                exact ih (p + 3) (by omega) (by omega) (by omega) K2 _ (by omega)
        · rw [decide_eq_false s0, if_neg (by decide)] at st
          have e : aw T (min n 60) p = some p := if_neg (fun q => s0 q.2)
          rw [e]
          refine ⟨.inr (nI p), ?_, rfl⟩
          have st' : lb_X11_wrongSignOfNight_6 h 0 (c, 0, nI p) = some (.inr (.inr (nI p))) := st
          simp only [lp]
          rw [st']
    · rw [if_neg hp]
      exact stop p (by omega) h2 N c (by omega)
theorem wsn_eq (w : Wf h) (t : TxC T n h) : fn_X11_wrongSignOfNight h 0 = some (wrI (nres T n n 0)) := by
  have n8 := t.1
  obtain ⟨o, e1, e2⟩ := wsn_all w t n 0 (by omega) (by omega) (by omega) lpN 0 (by show 3 * n < 2000; omega)
  unfold fn_X11_wrongSignOfNight
  have e1' : lp (lb_X11_wrongSignOfNight_6 h 0) lpN (0, 0, 0) = some o := e1
  rw [e1', Option.bind_some, ← e2]
  cases o with
  | inl k =>
    show (if k = 0 then some (-1) else (gR h 0 10 0).bind fun a23 => (gI h a23 7 1).bind fun x24 => some x24) = some (if k = 0 then -1 else nI n)
    by_cases c : k = 0
    · rw [if_pos c, if_pos c]
    · rw [if_neg c, if_neg c, g_0_0 w, Option.bind_some, w_gI w 1 7 1 rfl, Option.bind_some, t.2.1]
  | inr q => rfl
end NightC
