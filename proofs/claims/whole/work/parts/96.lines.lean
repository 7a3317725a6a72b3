/-! lines: the class's reading -/
def bad (st : Nat → Bool) (lg room p : Nat) : Bool := decide (p = lg) || ((decide (p % 4 = 0) && decide (room ≤ p / 4)) || !st p)
theorem bad_f {st : Nat → Bool} {lg room p : Nat} : bad st lg room p = false ↔ p ≠ lg ∧ (p % 4 = 0 → p / 4 < room) ∧ st p = true := by
  unfold bad
  simp
def wres (st : Nat → Bool) (lg room n : Nat) : Option Nat := if n = 0 then none else if anyB n (bad st lg room) = true then some (fb (bad st lg room) n) else if n % 4 = 3 then none else some n
theorem wres_ok {st : Nat → Bool} {lg room n : Nat} (h : ∀ p, p < n → bad st lg room p = false) (h3 : n % 4 = 3) : wres st lg room n = none := by
  unfold wres
  rw [if_neg (by omega), if_neg (fun q => by
    obtain ⟨s, hs, e⟩ := (anyB_iff n).mp q
    rw [h s hs] at e; cases e), if_pos h3]
theorem wres_bad {st : Nat → Bool} {lg room n w : Nat} (hn : 0 < n) (hw : w ≤ n) (h : ∀ p, p < w → bad st lg room p = false) (h1 : w < n → bad st lg room w = true) (h2 : w = n → n % 4 ≠ 3) : wres st lg room n = some w := by
  unfold wres
  rw [if_neg (by omega)]
  by_cases c : w < n
  · have a : anyB n (bad st lg room) = true := (anyB_iff n).mpr ⟨w, c, h1 c⟩
    rw [if_pos a]
    obtain ⟨f1, f2, f3⟩ := fb_spec n a
    congr 1
    rcases Nat.lt_trichotomy (fb (bad st lg room) n) w with q | q | q
    · rw [h _ q] at f2; cases f2
    · exact q
    · have := f3 w q
      rw [h1 c] at this; cases this
  · have e : w = n := by omega
    subst e
    rw [if_neg (fun q => by
      obtain ⟨s, hs, e⟩ := (anyB_iff w).mp q
      rw [h s hs] at e; cases e), if_neg (h2 rfl)]
theorem wres_le {st : Nat → Bool} {lg room n w : Nat} (h : wres st lg room n = some w) : w ≤ n := by
  unfold wres at h
  by_cases c : n = 0
  · rw [if_pos c] at h; cases h
  · rw [if_neg c] at h
    by_cases a : anyB n (bad st lg room) = true
    · rw [if_pos a] at h
      cases h
      have := (fb_spec n a).1
      omega
    · rw [if_neg a] at h
      by_cases q : n % 4 = 3
      · rw [if_pos q] at h; cases h
      · rw [if_neg q] at h
        cases h
        exact Nat.le_refl _
theorem idv4 {t : Nat} (ht : t < 100) : idv (nI t) 4 = some (nI (t / 4)) := by
  have : ∀ t, t < 100 → idv (nI t) 4 = some (nI (t / 4)) := by decide +kernel
  exact this t ht
section LinesC
variable {T : Nat → Nat} {n : Nat} {h : aH}
theorem sg_in {i : Nat} (hi : i < n) : sg T n i = nI (T i) := if_pos hi
theorem eqc {a : Nat} (ha : a < 256) (b : Nat) (hb : b < 256) : (nI a = nI b ↔ a = b) := nI_eq (by omega) (by omega)
theorem wsl_eq (w : Wf h) (t : TxC T n h) {st : Nat → Bool} {v3 : Int32} {lg room : Nat} (hlg : lg < 100) (hroom : room < 100)
    (hst : ∀ p, p < n → (v3 = 0 ∧ fn_X11_standsInBasin h 0 (nI p) = some (b2 (st p))) ∨ (v3 = 1 ∧ fn_X11_standsInSluice h 0 (nI p) = some (b2 (st p)))) :
    fn_X11_wrongSignOfLines h 0 (nI lg) (nI room) v3 = some (wrI (wres st lg room n)) := by
  have n8 := t.1
  have body : ∀ p, p < n → lb_X11_wrongSignOfLines_15 h 0 (nI lg) (nI room) v3 (nI p) = some (if bad st lg room p = true then .inr (.inr (nI p)) else .inl (nI (p + 1))) := by
    intro p hp
    unfold lb_X11_wrongSignOfLines_15
    simp only [g_0_0 w, Option.bind_some, w_gI w 1 7 1 rfl, t.2.1, if_pos (nI_lt hp (show n < 2 ^ 31 by omega)), irm4 (show p < 2 ^ 31 by omega), idv4 (show p < 100 by omega), nI_1]
    have e6 : ((if nI (p % 4) = 0 then (if nI (p / 4) < nI room then some 0 else some 1) else some 0) : Option Int32) = some (b2 (decide (p % 4 = 0) && decide (room ≤ p / 4))) := by
      by_cases c : p % 4 = 0
      · rw [if_pos (show nI (p % 4) = 0 by rw [c]; rfl), decide_eq_true c]
        by_cases c2 : room ≤ p / 4
        · rw [if_neg (nI_nlt c2 (by omega)), decide_eq_true c2]; rfl
        · rw [if_pos (nI_lt (by omega) (by omega)), decide_eq_false c2]; rfl
      · rw [if_neg (show ¬ nI (p % 4) = 0 from fun q => c ((nI_eq (b := 0) (by omega) (by decide)).mp q)), decide_eq_false c]; rfl
    rw [e6, Option.bind_some]
    unfold bad
    by_cases c1 : p = lg
    · rw [if_pos (by rw [c1]), decide_eq_true c1, Bool.true_or, if_pos rfl]
    · rw [if_neg (fun q => c1 ((nI_eq (by omega) (by omega)).mp q)), decide_eq_false c1, Bool.false_or]
      cases c2 : decide (p % 4 = 0) && decide (room ≤ p / 4)
      · rw [if_pos (show b2 false = 0 from rfl), Bool.false_or]
        rcases hst p hp with ⟨z1, z2⟩ | ⟨z1, z2⟩
        · rw [if_pos z1, k_0 w, Option.bind_some, z2, Option.bind_some]
          cases st p <;> rfl
        · rw [if_neg (by rw [z1]; decide), k_0 w, Option.bind_some, z2, Option.bind_some]
          cases st p <;> rfl
      · rw [if_neg (show ¬ b2 true = 0 by decide), Bool.true_or, if_pos rfl]
  unfold fn_X11_wrongSignOfLines wres
  rw [g_0_0 w, Option.bind_some, w_gI w 1 7 1 rfl, Option.bind_some, t.2.1]
  by_cases c0 : n = 0
  · rw [if_pos (show nI n = 0 by rw [c0]; rfl), if_pos c0]; rfl
  · rw [if_neg (show ¬ nI n = 0 from fun q => c0 ((nI_eq (b := 0) (by omega) (by decide)).mp q)), if_neg c0]
    by_cases a : anyB n (bad st lg room) = true
    · obtain ⟨f1, f2, f3⟩ := fb_spec n a
      have loop : lp (lb_X11_wrongSignOfLines_15 h 0 (nI lg) (nI room) v3) lpN 0 = some (.inr (nI (fb (bad st lg room) n))) := by
        refine lp_run (fun k => nI k) (fb (bad st lg room) n) _ ?_ ?_ (by omega) rfl
        · intro k hk
          rw [body k (by omega), f3 k hk, if_neg (by decide)]
        · rw [body _ f1, f2, if_pos rfl]
      rw [loop, if_pos a]
      rfl
    · have loop : lp (lb_X11_wrongSignOfLines_15 h 0 (nI lg) (nI room) v3) lpN 0 = some (.inl ()) := by
        refine lp_run (fun k => nI k) n _ ?_ ?_ (by omega) rfl
        · intro k hk
          have : bad st lg room k = false := by
            cases q : bad st lg room k
            · rfl
            · exact absurd ((anyB_iff n).mpr ⟨k, hk, q⟩) a
          rw [body k hk, this, if_neg (by decide)]
        · unfold lb_X11_wrongSignOfLines_15
          simp only [g_0_0 w, Option.bind_some, w_gI w 1 7 1 rfl, t.2.1, if_neg (nI_nlt (Nat.le_refl n) (show n < 2 ^ 31 by omega))]
      rw [loop, if_neg a, Option.bind_some]
      simp only [Sum.elim_inl, Option.bind_some, w_gI w 1 7 1 rfl, t.2.1, irm4 (show n < 2 ^ 31 by omega)]
      by_cases c3 : n % 4 = 3
      · rw [if_pos (show nI (n % 4) = 3 by rw [c3]; rfl), if_pos c3]; rfl
      · rw [if_neg (show ¬ nI (n % 4) = 3 from fun q => c3 ((nI_eq (b := 3) (by omega) (by decide)).mp q)), if_neg c3]; rfl
/-- a line of a basin -/
def stB (T : Nat → Nat) (n p : Nat) : Bool := if p % 4 = 0 ∨ p % 4 = 1 then isDg T n p else if p % 4 = 2 then decide (T p = 46) || decide (T p = 33) else decide (T p = 59)
theorem standsB (w : Wf h) (t : TxC T n h) {p : Nat} (hp : p < n) : fn_X11_standsInBasin h 0 (nI p) = some (b2 (stB T n p)) := by
  have n8 := t.1
  have l := (t.2.2 p hp).1
  have e46 : nI (T p) = 46 ↔ T p = 46 := eqc l 46 (by decide)
  have e33 : nI (T p) = 33 ↔ T p = 33 := eqc l 33 (by decide)
  have e59 : nI (T p) = 59 ↔ T p = 59 := eqc l 59 (by decide)
  unfold fn_X11_standsInBasin stB
  simp only [g_0_0 w, k_1 w, Option.bind_some, at_C w t (show p < 1000 by omega), sg_in hp, irm4 (show p < 2 ^ 31 by omega), isDigit_C w t (show p < 1000 by omega), bz_b2]
  rcases (show p % 4 = 0 ∨ p % 4 = 1 ∨ p % 4 = 2 ∨ p % 4 = 3 by omega) with c | c | c | c
  · rw [if_pos (show nI (p % 4) = 0 by rw [c]; rfl), if_pos (Or.inl c)]
  · rw [c, if_neg (show ¬ nI 1 = 0 by decide), if_pos (show nI 1 = 1 from rfl), if_pos (show (1 = 0 ∨ 1 = 1) from Or.inr rfl)]
  · rw [c, if_neg (show ¬ nI 2 = 0 by decide), if_neg (show ¬ nI 2 = 1 by decide), if_pos (show nI 2 = 2 from rfl), if_neg (show ¬ (2 = 0 ∨ 2 = 1) by decide), if_pos (show 2 = 2 from rfl)]
    by_cases c1 : T p = 46
    · rw [if_pos (e46.mpr c1), decide_eq_true c1]; rfl
    · rw [if_neg (fun q => c1 (e46.mp q)), decide_eq_false c1]
      by_cases c2 : T p = 33
      · rw [if_pos (e33.mpr c2), decide_eq_true c2]; rfl
      · rw [if_neg (fun q => c2 (e33.mp q)), decide_eq_false c2]; rfl
  · rw [c, if_neg (show ¬ nI 3 = 0 by decide), if_neg (show ¬ nI 3 = 1 by decide), if_neg (show ¬ nI 3 = 2 by decide), if_neg (show ¬ (3 = 0 ∨ 3 = 1) by decide), if_neg (show ¬ 3 = 2 by decide)]
    by_cases c1 : T p = 59
    · rw [if_pos (e59.mpr c1), decide_eq_true c1]; rfl
    · rw [if_neg (fun q => c1 (e59.mp q)), decide_eq_false c1]; rfl
def kdI (c : Nat) : Int32 := if c = 103 then 0 else if c = 115 then 2 else if c = 119 then 1 else -1
theorem kindOf_eq {c : Nat} (hc : c < 256) : fn_X11_kindOf h (nI c) = some (kdI c) := by
  have e1 : nI c = 103 ↔ c = 103 := eqc hc 103 (by decide)
  have e2 : nI c = 115 ↔ c = 115 := eqc hc 115 (by decide)
  have e3 : nI c = 119 ↔ c = 119 := eqc hc 119 (by decide)
  unfold fn_X11_kindOf kdI
  by_cases c1 : c = 103
  · rw [if_pos (e1.mpr c1), if_pos c1]
  · rw [if_neg (fun q => c1 (e1.mp q)), if_neg c1]
    by_cases c2 : c = 115
    · rw [if_pos (e2.mpr c2), if_pos c2]
    · rw [if_neg (fun q => c2 (e2.mp q)), if_neg c2]
      by_cases c3 : c = 119
      · rw [if_pos (e3.mpr c3), if_pos c3]
      · rw [if_neg (fun q => c3 (e3.mp q)), if_neg c3]
/-- a line of a sluice -/
def stS (T : Nat → Nat) (n nb p : Nat) : Bool := if p % 4 = 0 then isDg T n p && decide (T p < 48 + nb) else if p % 4 = 1 then isDg T n p && (decide (T p < 48 + nb) && !decide (T p = T (p - 1))) else if p % 4 = 2 then decide (T p = 103) || (decide (T p = 119) || decide (T p = 115)) else decide (T p = 59)
theorem standsS (w : Wf h) (t : TxC T n h) {nb : Nat} (hnb : nb ≤ 6) (hb : hI h 3 0 = nI nb) {p : Nat} (hp : p < n) : fn_X11_standsInSluice h 0 (nI p) = some (b2 (stS T n nb p)) := by
  have n8 := t.1
  have l := (t.2.2 p hp).1
  have e59 : nI (T p) = 59 ↔ T p = 59 := eqc l 59 (by decide)
  have hasB : isDg T n p = true → fn_X0_hasBasin h 3 (nI (dg T n p)) = some (b2 (decide (T p < 48 + nb))) := by
    intro e
    have e' := e
    unfold isDg at e'
    simp at e'
    have ed : dg T n p = T p - 48 := by unfold dg; rw [if_pos e]
    rw [hasBasin_eq w, hb, if_neg (nI_pos (by rw [ed]; omega)), ed]
    by_cases c : T p < 48 + nb
    · rw [if_pos (nI_lt (by omega) (by omega)), decide_eq_true c]; rfl
    · rw [if_neg (nI_nlt (by omega) (by omega)), decide_eq_false c]; rfl
  unfold fn_X11_standsInSluice stS
  simp only [g_0_0 w, g_0_1 w, k_1 w, k_3 w, Option.bind_some, at_C w t (show p < 1000 by omega), sg_in hp, irm4 (show p < 2 ^ 31 by omega), isDigit_C w t (show p < 1000 by omega), digit_C w t (show p < 1000 by omega), kindOf_eq l]
  rcases (show p % 4 = 0 ∨ p % 4 = 1 ∨ p % 4 = 2 ∨ p % 4 = 3 by omega) with c | c | c | c
  · rw [if_pos (show nI (p % 4) = 0 by rw [c]; rfl), if_pos c]
    cases e : isDg T n p
    · rw [if_pos (show b2 false = 0 by rfl)]; rfl
    · rw [if_neg (show ¬ b2 true = 0 by decide), hasB e, Option.bind_some]
      cases decide (T p < 48 + nb) <;> rfl
  · have p1 : 0 < p := by omega
    have lp' := (t.2.2 (p - 1) (by omega)).1
    have a1 : fn_X8_at h 1 (nI p - 1) = some (nI (T (p - 1))) := by rw [nI_sub1 p1, at_C w t (by omega), sg_in (by omega)]
    rw [c, if_neg (show ¬ nI 1 = 0 by decide), if_pos (show nI 1 = 1 from rfl), if_neg (show ¬ 1 = 0 by decide), if_pos (show 1 = 1 from rfl)]
    cases e : isDg T n p
    · rw [if_pos (show b2 false = 0 by rfl)]; rfl
    · rw [if_neg (show ¬ b2 true = 0 by decide), hasB e, Option.bind_some]
      cases decide (T p < 48 + nb)
      · rw [if_pos (show b2 false = 0 by rfl)]; rfl
      · rw [if_neg (show ¬ b2 true = 0 by decide), a1, Option.bind_some]
        by_cases q : T p = T (p - 1)
        · rw [if_pos (by rw [q]), decide_eq_true q]; rfl
        · rw [if_neg (fun z => q ((eqc l _ lp').mp z)), decide_eq_false q]; rfl
  · rw [c, if_neg (show ¬ nI 2 = 0 by decide), if_neg (show ¬ nI 2 = 1 by decide), if_pos (show nI 2 = 2 from rfl), if_neg (show ¬ 2 = 0 by decide), if_neg (show ¬ 2 = 1 by decide), if_pos (show 2 = 2 from rfl)]
    unfold kdI
    by_cases c1 : T p = 103
    · rw [if_pos c1, decide_eq_true c1]; rfl
    · rw [if_neg c1, decide_eq_false c1]
      by_cases c2 : T p = 115
      · rw [if_pos c2, decide_eq_true c2, Bool.or_true, Bool.or_true]; rfl
      · rw [if_neg c2, decide_eq_false c2]
        by_cases c3 : T p = 119
        · rw [if_pos c3, decide_eq_true c3]; rfl
        · rw [if_neg c3, decide_eq_false c3]; rfl
  · rw [c, if_neg (show ¬ nI 3 = 0 by decide), if_neg (show ¬ nI 3 = 1 by decide), if_neg (show ¬ nI 3 = 2 by decide), if_neg (show ¬ 3 = 0 by decide), if_neg (show ¬ 3 = 1 by decide), if_neg (show ¬ 3 = 2 by decide)]
    by_cases c1 : T p = 59
    · rw [if_pos (e59.mpr c1), decide_eq_true c1]; rfl
    · rw [if_neg (fun q => c1 (e59.mp q)), decide_eq_false c1]; rfl
/-- the end of lines -/
def enC (a j : Nat) : Bool := (a == 1 && j == 1) || ((a == 31 && j == 3) || a == 76)
theorem endOfLines_eq (w : Wf h) (wrg : Option Nat) (hw : ∀ q, wrg = some q → q ≤ 80) {K : Nat} (hK : K < 100) : ∃ h', fn_X11_endOfLines h 0 (wrI wrg) (nI K) = some ((match wrg with | none => nI K | some q => -1 - nI q), h') ∧ Fr enC h h' ∧ hI h' 1 1 = 0 ∧ (K = 0 → Fr (fun a j => a == 1 && j == 1) h h') ∧ (0 < K → hI h' 31 3 = 0 ∧ hI h' 76 0 = 0 ∧ hI h' 76 1 = 0) := by
  have w3 : Wf (sI h 1 1 0) := w
  have fin : ∀ t4 : aH, (if wrI wrg = -1 then some (nI K, t4) else some (-1 - wrI wrg, t4)) = some ((match wrg with | none => nI K | some q => -1 - nI q), t4) := by
    intro t4
    cases wrg with
    | none => rfl
    | some q =>
      show (if nI q = -1 then _ else some (-1 - nI q, t4)) = _
      rw [if_neg (nI_m1 (by have := hw q rfl; omega))]
  unfold fn_X11_endOfLines fn_X8_clear
  simp only [g_0_0 w, k_1 w, Option.bind_some, w_pI w 1 7 1 _ rfl]
  by_cases c : K = 0
  · refine ⟨sI h 1 1 0, ?_, (Fr.refl _ _).sI _ rfl, by rw [hI_row, if_pos rfl], fun _ => (Fr.refl _ _).sI _ rfl, fun q => by omega⟩
    rw [if_pos (show nI K ≤ 0 by rw [c]; decide), Option.bind_some, fin]
  · obtain ⟨h5, e5, F5, q1, q2, q3⟩ : ∃ h5, fn_X2_forgetAll (sI h 1 1 0) 31 = some h5 ∧ Fr enC (sI h 1 1 0) h5 ∧ hI h5 31 3 = 0 ∧ hI h5 76 0 = 0 ∧ hI h5 76 1 = 0 := by
      have z : vp_nar .boolean 0 = 0 := rfl
      have wa : Wf (sI (sI h 1 1 0) 31 3 0) := w
      have wb : Wf (sI (sI (sI h 1 1 0) 31 3 0) 76 0 0) := w
      have wc : Wf (sI (sI (sI (sI h 1 1 0) 31 3 0) 76 0 0) 76 1 0) := w
      have z0 : wZ (sI (sI h 1 1 0) 31 3 0) 76 (nI 0) 0 = some (sI (sI (sI h 1 1 0) 31 3 0) 76 0 0) := by rw [wZ_eq wa 76 2 rfl 0 (by decide) (by decide), z]
      have z1 : wZ (sI (sI (sI h 1 1 0) 31 3 0) 76 0 0) 76 (nI 1) 0 = some (sI (sI (sI (sI h 1 1 0) 31 3 0) 76 0 0) 76 1 0) := by rw [wZ_eq wb 76 2 rfl 1 (by decide) (by decide), z]
      refine ⟨sI (sI (sI (sI h 1 1 0) 31 3 0) 76 0 0) 76 1 0, ?_, (((Fr.refl _ _).sI _ rfl).sI _ rfl).sI _ rfl, ?_, ?_, ?_⟩
      · have loop : lp (lb_X2_forgetAll_7 31) lpN (0, sI (sI h 1 1 0) 31 3 0) = some (sI (sI (sI (sI h 1 1 0) 31 3 0) 76 0 0) 76 1 0) := by
          refine lp_run (fun k => (nI k, if k = 0 then sI (sI h 1 1 0) 31 3 0 else if k = 1 then sI (sI (sI h 1 1 0) 31 3 0) 76 0 0 else sI (sI (sI (sI h 1 1 0) 31 3 0) 76 0 0) 76 1 0)) 2 _ ?_ ?_ (by decide) rfl
          · intro k hk
            rcases (show k = 0 ∨ k = 1 by omega) with rfl | rfl
            · unfold lb_X2_forgetAll_7
              dsimp only
              rw [if_pos (by decide), if_pos rfl, w_gR wa 31 1 2 76 rfl (by decide), Option.bind_some, z0, Option.bind_some, Option.bind_some]
              rfl
            · unfold lb_X2_forgetAll_7
              dsimp only
              rw [if_pos (by decide), if_neg (by decide), if_pos rfl, w_gR wb 31 1 2 76 rfl (by decide), Option.bind_some, z1, Option.bind_some, Option.bind_some]
              rfl
          · unfold lb_X2_forgetAll_7
            dsimp only
            rw [if_neg (by decide)]
            rfl
        unfold fn_X2_forgetAll
        rw [w_pI w3 31 1 3 _ rfl, Option.bind_some, loop, Option.bind_some]
      · rw [hI_sI_r, if_neg (by decide), hI_sI_r, if_neg (by decide), hI_row, if_pos rfl]
      · rw [hI_row, if_neg (by decide), hI_row, if_pos rfl]
      · rw [hI_row, if_pos rfl]
    refine ⟨h5, ?_, ((Fr.refl enC h).sI _ rfl).trans F5, ?_, fun q => absurd q c, fun _ => ⟨q1, q2, q3⟩⟩
    · rw [if_neg (show ¬ nI K ≤ 0 from nI_ge (a := 0) (by omega) (by omega))]
      simp only [g_0_10 w3, k_31 w3, Option.bind_some, e5, fin]
    · have F5' := F5
      unfold fn_X2_forgetAll at e5
      have e11 : hI h5 1 1 = hI (sI h 1 1 0) 1 1 := by
        have z : vp_nar .boolean 0 = 0 := rfl
        have wa : Wf (sI (sI h 1 1 0) 31 3 0) := w
        rw [w_pI w3 31 1 3 _ rfl, Option.bind_some] at e5
        obtain ⟨h6, e6, F6⟩ : ∃ h6, lp (lb_X2_forgetAll_7 31) lpN (0, sI (sI h 1 1 0) 31 3 0) = some h6 ∧ Fr (fun a j => a == 76) (sI (sI h 1 1 0) 31 3 0) h6 := by
          refine lp_inv (fun k (s : Int32 × aH) => s.1 = nI k ∧ Fr (fun a j => a == 76) (sI (sI h 1 1 0) 31 3 0) s.2) _ 2 (by decide) ?_ ?_ ⟨rfl, Fr.refl _ _⟩
          · rintro k ⟨s1, g⟩ hk ⟨rfl, F⟩
            dsimp only at F
            have wg := F.wf wa
            refine Or.inl ⟨(nI (k + 1), sI g 76 k (vp_nar .boolean 0)), ?_, rfl, F.sI _ rfl⟩
            unfold lb_X2_forgetAll_7
            simp only [if_pos (show nI k < 2 from nI_lt (b := 2) hk (by decide)), w_gR wg 31 1 2 76 rfl (by decide), Option.bind_some, wZ_eq wg 76 2 rfl k hk (by decide), nI_1]
          · rintro ⟨s1, g⟩ ⟨rfl, F⟩
            refine ⟨g, ?_, F⟩
            unfold lb_X2_forgetAll_7
            rw [if_neg (show ¬ nI 2 < 2 by decide)]
        rw [e6, Option.bind_some] at e5
        cases e5
        rw [F6.i 1 1 rfl, hI_sI_r, if_neg (by decide)]
      rw [e11, hI_row, if_pos rfl]
end LinesC
