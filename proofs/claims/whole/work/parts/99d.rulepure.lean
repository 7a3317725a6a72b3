/-! a rule, purely: the class's reading sign by sign, and a reading by parts -/
abbrev CS : Type := Bool × List Nat × List Nat × Nat × (Nat → Bool) × Nat × Nat
abbrev c_w (s : CS) : Bool := s.1
abbrev c_S (s : CS) : List Nat := s.2.1
abbrev c_c (s : CS) : List Nat := s.2.2.1
abbrev c_o (s : CS) : Nat := s.2.2.2.1
abbrev c_p (s : CS) : Nat → Bool := s.2.2.2.2.1
abbrev c_d (s : CS) : Nat := s.2.2.2.2.2.1
abbrev c_n (s : CS) : Nat := s.2.2.2.2.2.2
def bnd (w : Nat) : Nat := if w = 2042 then 3 else if w = 2043 then 2 else if w = 2045 then 2 else if w = 2047 then 3 else if w = 2060 then 1 else if w = 2061 then 1 else if w = 2062 then 1 else if w = 3000 then 4 else 0
def setl (b : Nat) : List Nat → List Nat → List Nat × List Nat
  | [], c => ([], c)
  | w :: S, c => if bnd w < b then (w :: S, c) else setl b S (c ++ [w])
def TOP (b : Nat) (S : List Nat) : Prop := ∀ w R, S = w :: R → bnd w < b
theorem setl_top {b : Nat} {S c : List Nat} (h : TOP b S) : setl b S c = (S, c) := by
  cases S with
  | nil => rfl
  | cons w R =>
    unfold setl
    rw [if_pos (h w R rfl)]
theorem setl_setl {b b' : Nat} (h : b ≤ b') : ∀ S c, setl b (setl b' S c).1 (setl b' S c).2 = setl b S c
  | [], c => rfl
  | w :: S, c => by
    by_cases q : bnd w < b'
    · have e : setl b' (w :: S) c = (w :: S, c) := by show (if bnd w < b' then _ else _) = _; rw [if_pos q]
      rw [e]
    · have e : setl b' (w :: S) c = setl b' S (c ++ [w]) := by show (if bnd w < b' then _ else _) = _; rw [if_neg q]
      have e2 : setl b (w :: S) c = setl b S (c ++ [w]) := by show (if bnd w < b then _ else _) = _; rw [if_neg (by omega)]
      rw [e, e2]
      exact setl_setl h S (c ++ [w])
theorem setl_pop {b w : Nat} {S c : List Nat} (h : ¬ bnd w < b) : setl b (w :: S) c = setl b S (c ++ [w]) := by
  show (if bnd w < b then _ else _) = _
  rw [if_neg h]
theorem TOP.cons {b w : Nat} {S : List Nat} (h : bnd w < b) : TOP b (w :: S) := fun w' R e => by cases e; exact h
theorem TOP.mono {b b' : Nat} {S : List Nat} (h : b ≤ b') (t : TOP b S) : TOP b' S := fun w R e => Nat.lt_of_lt_of_le (t w R e) h
def ltr (ch : Nat) : Option Nat := if ch = 97 then some 0 else if ch = 98 then some 1 else if ch = 109 then some 2 else if ch = 107 then some 3 else if ch = 115 then some 4 else if ch = 116 then some 5 else if ch = 110 then some 6 else none
abbrev isd (ch : Nat) : Prop := 48 ≤ ch ∧ ch ≤ 57
def stepC (s : CS) (ch : Nat) : Option CS :=
  if 48 ≤ ch ∧ ch ≤ 57 then
    if c_w s = true then some (false, c_S s, c_c s ++ [ch - 48], c_o s, c_p s, 1, ch - 48)
    else if c_d s = 0 ∨ c_d s = 3 then none else some (false, c_S s, (c_c s).dropLast ++ [c_n s * 10 + (ch - 48)], c_o s, c_p s, c_d s + 1, c_n s * 10 + (ch - 48))
  else if c_w s = true then
    if ch = 45 then some (true, 3000 :: c_S s, c_c s, c_o s, c_p s, 0, c_n s)
    else if ch = 40 then (if c_o s = 4 then none else some (true, 2040 :: c_S s, c_c s, c_o s + 1, va_up (c_p s) (c_o s + 1) false, 0, c_n s))
    else (ltr ch).bind fun k => some (false, c_S s, c_c s ++ [1000 + k], c_o s, c_p s, 0, c_n s)
  else
    if ch = 41 then (if c_o s = 0 then none else some (false, (setl 1 (c_S s) (c_c s)).1.tail, (setl 1 (c_S s) (c_c s)).2, c_o s - 1, c_p s, 0, c_n s))
    else if bnd (2000 + ch) = 0 ∨ (bnd (2000 + ch) = 1 ∧ c_p s (c_o s) = true) then none
    else some (true, (2000 + ch) :: (setl (bnd (2000 + ch)) (c_S s) (c_c s)).1, (setl (bnd (2000 + ch)) (c_S s) (c_c s)).2, c_o s, (if bnd (2000 + ch) = 1 then va_up (c_p s) (c_o s) true else c_p s), 0, c_n s)
def rnK (T : Nat → Nat) : Nat → Nat → CS → Option CS
  | 0, _, s => some s
  | k + 1, p, s => (stepC s (T p)).bind (rnK T k (p + 1))
theorem rnK_add {T : Nat → Nat} : ∀ a b p s, rnK T (a + b) p s = (rnK T a p s).bind (rnK T b (p + a))
  | 0, b, p, s => by rw [Nat.zero_add]; rfl
  | a + 1, b, p, s => by
    rw [show a + 1 + b = (a + b) + 1 by omega]
    show (stepC s (T p)).bind (rnK T (a + b) (p + 1)) = ((stepC s (T p)).bind (rnK T a (p + 1))).bind (rnK T b (p + (a + 1)))
    cases stepC s (T p) with
    | none => rfl
    | some s' =>
      show rnK T (a + b) (p + 1) s' = (rnK T a (p + 1) s').bind (rnK T b (p + (a + 1)))
      rw [rnK_add a b (p + 1) s', show p + 1 + a = p + (a + 1) by omega]
theorem rnK_one {T : Nat → Nat} (p : Nat) (s : CS) : rnK T 1 p s = stepC s (T p) := by
  show (stepC s (T p)).bind (fun s => some s) = _
  cases stepC s (T p) <;> rfl
theorem rnK_to {T : Nat → Nat} {p q r : Nat} {s s1 s2 : CS} (h1 : p ≤ q) (h2 : q ≤ r) (e1 : rnK T (q - p) p s = some s1) (e2 : rnK T (r - q) q s1 = some s2) : rnK T (r - p) p s = some s2 := by
  rw [show r - p = (q - p) + (r - q) by omega, rnK_add, e1, Option.bind_some, show p + (q - p) = q by omega]
  exact e2
theorem rnK_step {T : Nat → Nat} {p q : Nat} {s s1 s2 : CS} (h1 : p ≤ q) (e1 : rnK T (q - p) p s = some s1) (e2 : stepC s1 (T q) = some s2) : rnK T (q + 1 - p) p s = some s2 := by
  refine rnK_to h1 (Nat.le_succ q) e1 ?_
  rw [show q + 1 - q = 1 by omega, rnK_one]
  exact e2
abbrev PR : Type := List Nat × Nat × Option Nat
section PARSE
variable (T : Nat → Nat) (L : Nat)
def ploop (o1 o2 : Nat) (it : Nat → PR) : Nat → PR → PR
  | 0, r => r
  | f + 1, r => if r.2.2 = none ∧ r.2.1 < L ∧ (T r.2.1 = o1 ∨ T r.2.1 = o2) then ploop o1 o2 it f (r.1 ++ (it (r.2.1 + 1)).1 ++ [2000 + T r.2.1], (it (r.2.1 + 1)).2) else r
def pprod (it : Nat → PR) (p : Nat) : PR := ploop T L 42 47 it 100 (it p)
def psum (it : Nat → PR) (p : Nat) : PR := ploop T L 43 45 (pprod T L it) 100 (pprod T L it p)
def pheld (it : Nat → PR) (p : Nat) : PR :=
  if (psum T L it p).2.2 = none ∧ (psum T L it p).2.1 < L ∧ (T (psum T L it p).2.1 = 60 ∨ T (psum T L it p).2.1 = 62 ∨ T (psum T L it p).2.1 = 61) then ((psum T L it p).1 ++ (psum T L it ((psum T L it p).2.1 + 1)).1 ++ [2000 + T (psum T L it p).2.1], (psum T L it ((psum T L it p).2.1 + 1)).2) else psum T L it p
def pnum (p : Nat) : Nat × Nat := if isDg T L (p + 1) = true then (if isDg T L (p + 2) = true then (10 * (10 * (T p - 48) + (T (p + 1) - 48)) + (T (p + 2) - 48), p + 3) else (10 * (T p - 48) + (T (p + 1) - 48), p + 2)) else (T p - 48, p + 1)
def pthg : Nat → Nat → Nat → PR
  | 0, _, p => ([], p, some p)
  | g + 1, deep, p =>
    if p < L ∧ T p = 45 then ((pthg g deep (p + 1)).1 ++ [3000], (pthg g deep (p + 1)).2)
    else if p < L ∧ T p = 40 ∧ deep < 4 then
      (if (pheld T L (pthg g (deep + 1)) (p + 1)).2.2 = none then
        (if (pheld T L (pthg g (deep + 1)) (p + 1)).2.1 < L ∧ T (pheld T L (pthg g (deep + 1)) (p + 1)).2.1 = 41 then ((pheld T L (pthg g (deep + 1)) (p + 1)).1, (pheld T L (pthg g (deep + 1)) (p + 1)).2.1 + 1, none)
         else ((pheld T L (pthg g (deep + 1)) (p + 1)).1, (pheld T L (pthg g (deep + 1)) (p + 1)).2.1, some (pheld T L (pthg g (deep + 1)) (p + 1)).2.1))
       else pheld T L (pthg g (deep + 1)) (p + 1))
    else if isDg T L p = true then ([(pnum T L p).1], (pnum T L p).2, none)
    else if p < L then (match ltr (T p) with
      | some k => ([1000 + k], p + 1, none)
      | none => ([], p, some p))
    else ([], p, some p)
end PARSE
section SPEC
variable {T : Nat → Nat} {L : Nat}
def BADs (T : Nat → Nat) (L : Nat) (s : CS) (p w : Nat) : Prop := p ≤ w ∧ w ≤ L ∧ ∃ s', rnK T (w - p) p s = some s' ∧ (w < L → stepC s' (T w) = none) ∧ (w = L → c_w s' = true ∨ 0 < c_o s')
theorem BADs.pre {s s1 : CS} {p q w : Nat} (h : p ≤ q) (e : rnK T (q - p) p s = some s1) (b : BADs T L s1 q w) : BADs T L s p w := by
  obtain ⟨b1, b2, s', b3, b4, b5⟩ := b
  exact ⟨by omega, b2, s', rnK_to h b1 e b3, b4, b5⟩
def SPC (T : Nat → Nat) (L deep b : Nat) (X : Nat → Prop) (s : CS) (p : Nat) (r : PR) : Prop :=
  (r.2.2 = none → p < r.2.1 ∧ r.2.1 ≤ L ∧ (r.2.1 < L → X (T r.2.1)) ∧ ∃ s', rnK T (r.2.1 - p) p s = some s' ∧ c_w s' = false ∧ c_o s' = deep ∧ (∀ i, i ≤ deep → c_p s' i = c_p s i) ∧ setl b (c_S s') (c_c s') = setl b (c_S s) (c_c s ++ r.1) ∧ (r.2.1 < L → isd (T r.2.1) → stepC s' (T r.2.1) = none)) ∧ ∀ w, r.2.2 = some w → BADs T L s p w
theorem loopC {deep b o1 o2 p0 : Nat} {X : Nat → Prop} {it : Nat → PR} (hb : 2 ≤ b) (h1 : bnd (2000 + o1) = b ∧ o1 ≠ 41 ∧ ¬ isd o1) (h2 : bnd (2000 + o2) = b ∧ o2 ≠ 41 ∧ ¬ isd o2)
    (hit : ∀ p s, p0 ≤ p → p ≤ L → c_w s = true → c_o s = deep → TOP (b + 1) (c_S s) → SPC T L deep (b + 1) X s p (it p)) :
    ∀ f r p s, p0 ≤ p → TOP b (c_S s) → SPC T L deep b X s p r → (r.2.2 = none → L - r.2.1 < f) → SPC T L deep b (fun c => X c ∧ c ≠ o1 ∧ c ≠ o2) s p (ploop T L o1 o2 it f r) := by
  intro f
  induction f with
  | zero =>
    intro r p s hp ht sp hf
    refine ⟨fun e => absurd (hf e) (Nat.not_lt_zero _), sp.2⟩
  | succ f ih =>
    intro r p s hp ht sp hf
    show SPC T L deep b (fun c => X c ∧ c ≠ o1 ∧ c ≠ o2) s p (if r.2.2 = none ∧ r.2.1 < L ∧ (T r.2.1 = o1 ∨ T r.2.1 = o2) then ploop T L o1 o2 it f (r.1 ++ (it (r.2.1 + 1)).1 ++ [2000 + T r.2.1], (it (r.2.1 + 1)).2) else r)
    by_cases c : r.2.2 = none ∧ r.2.1 < L ∧ (T r.2.1 = o1 ∨ T r.2.1 = o2)
    · rw [if_pos c]
      obtain ⟨c1, c2, c3⟩ := c
      obtain ⟨a1, a2, a3, s1, a4, a5, a6, a7, a8, a9⟩ := sp.1 c1
      have ho : bnd (2000 + T r.2.1) = b ∧ T r.2.1 ≠ 41 ∧ ¬ isd (T r.2.1) := by
        rcases c3 with e | e <;> rw [e]
        · exact h1
        · exact h2
      obtain ⟨s2, hs2⟩ : ∃ s2 : CS, s2 = (true, (2000 + T r.2.1) :: c_S s, c_c s ++ r.1, deep, c_p s1, 0, c_n s1) := ⟨_, rfl⟩
      have st : stepC s1 (T r.2.1) = some s2 := by
        unfold stepC
        rw [if_neg ho.2.2, if_neg (by rw [a5]; decide), if_neg ho.2.1, ho.1, if_neg (by omega), a8, setl_top ht, if_neg (by omega), a6, hs2]
      have r2 : rnK T (r.2.1 + 1 - p) p s = some s2 := rnK_step (by omega) a4 st
      have sp2 := hit (r.2.1 + 1) s2 (by omega) (by omega) (by rw [hs2]) (by rw [hs2]) (by rw [hs2]; exact TOP.cons (by rw [ho.1]; omega))
      generalize it (r.2.1 + 1) = o at sp2 ⊢
      refine ih (r.1 ++ o.1 ++ [2000 + T r.2.1], o.2) p s hp ht ⟨fun e => ?_, fun w e => ?_⟩ (fun e => ?_)
      · obtain ⟨d1, d2, d3, s3, d4, d5, d6, d7, d8, d9⟩ := sp2.1 e
        refine ⟨by show p < o.2.1; omega, d2, d3, s3, rnK_to (q := r.2.1 + 1) (r := o.2.1) (by omega) (by omega) r2 d4, d5, d6, fun i hi => ?_, ?_, d9⟩
        · rw [d7 i hi, hs2]; exact a7 i hi
        · rw [← setl_setl (show b ≤ b + 1 by omega) (c_S s3), d8, setl_setl (by omega), hs2]
          show setl b ((2000 + T r.2.1) :: c_S s) (c_c s ++ r.1 ++ o.1) = setl b (c_S s) (c_c s ++ (r.1 ++ o.1 ++ [2000 + T r.2.1]))
          rw [setl_pop (by rw [ho.1]; omega)]
          simp only [List.append_assoc]
      · exact (sp2.2 w e).pre (by omega) r2
      · obtain ⟨d1, -⟩ := sp2.1 e
        have := hf c1
        show L - o.2.1 < f
        omega
    · rw [if_neg c]
      refine ⟨fun e => ?_, sp.2⟩
      obtain ⟨a1, a2, a3, a4⟩ := sp.1 e
      exact ⟨a1, a2, fun q => ⟨a3 q, fun z => c ⟨e, q, Or.inl z⟩, fun z => c ⟨e, q, Or.inr z⟩⟩, a4⟩
theorem SPC.lower {deep b b' : Nat} {X : Nat → Prop} {s : CS} {p : Nat} {r : PR} (h : b ≤ b') (sp : SPC T L deep b' X s p r) : SPC T L deep b X s p r := by
  refine ⟨fun e => ?_, sp.2⟩
  obtain ⟨a1, a2, a3, s1, a4, a5, a6, a7, a8, a9⟩ := sp.1 e
  refine ⟨a1, a2, a3, s1, a4, a5, a6, a7, ?_, a9⟩
  rw [← setl_setl h (c_S s1), a8, setl_setl h]
theorem prodC {deep p0 : Nat} {it : Nat → PR} (hL : L ≤ 40) (hit : ∀ p s, p0 ≤ p → p ≤ L → c_w s = true → c_o s = deep → SPC T L deep 4 (fun _ => True) s p (it p)) (p : Nat) (s : CS) (hp : p0 ≤ p) (hpL : p ≤ L) (hw : c_w s = true) (ho : c_o s = deep) (ht : TOP 3 (c_S s)) : SPC T L deep 3 (fun c => True ∧ c ≠ 42 ∧ c ≠ 47) s p (pprod T L it p) :=
  loopC (b := 3) (o1 := 42) (o2 := 47) (by decide) ⟨rfl, by decide, by unfold isd; omega⟩ ⟨rfl, by decide, by unfold isd; omega⟩ (fun p s a b c d _ => hit p s a b c d) 100 (it p) p s hp ht ((hit p s hp hpL hw ho).lower (by decide)) (fun _ => by omega)
theorem sumC {deep p0 : Nat} {it : Nat → PR} (hL : L ≤ 40) (hit : ∀ p s, p0 ≤ p → p ≤ L → c_w s = true → c_o s = deep → SPC T L deep 4 (fun _ => True) s p (it p)) (p : Nat) (s : CS) (hp : p0 ≤ p) (hpL : p ≤ L) (hw : c_w s = true) (ho : c_o s = deep) (ht : TOP 2 (c_S s)) : SPC T L deep 2 (fun c => (True ∧ c ≠ 42 ∧ c ≠ 47) ∧ c ≠ 43 ∧ c ≠ 45) s p (psum T L it p) :=
  loopC (b := 2) (o1 := 43) (o2 := 45) (by decide) ⟨rfl, by decide, by unfold isd; omega⟩ ⟨rfl, by decide, by unfold isd; omega⟩ (fun p s a b c d e => prodC hL hit p s a b c d e) 100 (pprod T L it p) p s hp ht ((prodC hL hit p s hp hpL hw ho (ht.mono (by decide))).lower (by decide)) (fun _ => by omega)
/-- what is held: behind it only a bracket can stand -/
def HLD (T : Nat → Nat) (L deep : Nat) (s : CS) (p : Nat) (r : PR) : Prop :=
  (r.2.2 = none → p < r.2.1 ∧ r.2.1 ≤ L ∧ ∃ s', rnK T (r.2.1 - p) p s = some s' ∧ c_w s' = false ∧ c_o s' = deep ∧ (∀ i, i < deep → c_p s' i = c_p s i) ∧ setl 1 (c_S s') (c_c s') = setl 1 (c_S s) (c_c s ++ r.1) ∧ (r.2.1 < L → T r.2.1 ≠ 41 → stepC s' (T r.2.1) = none)) ∧ ∀ w, r.2.2 = some w → BADs T L s p w
theorem bnd_cases (ch : Nat) (h : ch < 256) : bnd (2000 + ch) = 0 ∨ ch = 42 ∨ ch = 47 ∨ ch = 43 ∨ ch = 45 ∨ ((ch = 60 ∨ ch = 62 ∨ ch = 61) ∧ bnd (2000 + ch) = 1) := by
  have : ∀ ch, ch < 256 → (bnd (2000 + ch) = 0 ∨ ch = 42 ∨ ch = 47 ∨ ch = 43 ∨ ch = 45 ∨ ((ch = 60 ∨ ch = 62 ∨ ch = 61) ∧ bnd (2000 + ch) = 1)) := by decide +kernel
  exact this ch h
theorem heldC {deep p0 : Nat} {it : Nat → PR} (hL : L ≤ 40) (hT : ∀ i, i < L → T i < 256) (hit : ∀ p s, p0 ≤ p → p ≤ L → c_w s = true → c_o s = deep → SPC T L deep 4 (fun _ => True) s p (it p)) (p : Nat) (s : CS) (hp : p0 ≤ p) (hpL : p ≤ L) (hw : c_w s = true) (ho : c_o s = deep) (ht : TOP 1 (c_S s)) (hc : c_p s deep = false) : HLD T L deep s p (pheld T L it p) := by
  have sp := sumC hL hit p s hp hpL hw ho (ht.mono (by decide))
  unfold pheld
  have sum2 := sumC (T := T) (deep := deep) (p0 := p0) hL hit
  generalize psum T L it p = r at sp ⊢
  by_cases c : r.2.2 = none ∧ r.2.1 < L ∧ (T r.2.1 = 60 ∨ T r.2.1 = 62 ∨ T r.2.1 = 61)
  · rw [if_pos c]
    obtain ⟨c1, c2, c3⟩ := c
    obtain ⟨a1, a2, a3, s1, a4, a5, a6, a7, a8, a9⟩ := sp.1 c1
    have hch : bnd (2000 + T r.2.1) = 1 ∧ T r.2.1 ≠ 41 ∧ ¬ isd (T r.2.1) := by
      rcases c3 with e | e | e <;> rw [e] <;> exact ⟨rfl, by decide, by unfold isd; omega⟩
    obtain ⟨s2, hs2⟩ : ∃ s2 : CS, s2 = (true, (2000 + T r.2.1) :: c_S s, c_c s ++ r.1, deep, va_up (c_p s1) deep true, 0, c_n s1) := ⟨_, rfl⟩
    have a8' : setl 1 (c_S s1) (c_c s1) = (c_S s, c_c s ++ r.1) := by
      rw [← setl_setl (show 1 ≤ 2 by decide) (c_S s1), a8, setl_setl (by decide), setl_top ht]
    have st : stepC s1 (T r.2.1) = some s2 := by
      unfold stepC
      rw [if_neg hch.2.2, if_neg (by rw [a5]; decide), if_neg hch.2.1, hch.1, a6, a7 deep (Nat.le_refl _), hc, if_neg (by decide), a8', if_pos rfl, hs2]
    have r2 : rnK T (r.2.1 + 1 - p) p s = some s2 := rnK_step (by omega) a4 st
    have sp2 := sum2 (r.2.1 + 1) s2 (by omega) (by omega) (by rw [hs2]) (by rw [hs2]) (by rw [hs2]; exact TOP.cons (by rw [hch.1]; decide))
    generalize psum T L it (r.2.1 + 1) = o at sp2 ⊢
    refine ⟨fun e => ?_, fun w e => (sp2.2 w e).pre (by omega) r2⟩
    obtain ⟨d1, d2, d3, s3, d4, d5, d6, d7, d8, d9⟩ := sp2.1 e
    refine ⟨by show p < o.2.1; omega, d2, s3, rnK_to (q := r.2.1 + 1) (r := o.2.1) (by omega) (by omega) r2 d4, d5, d6, fun i hi => ?_, ?_, fun q1 q2 => ?_⟩
    · rw [d7 i (by omega), hs2]
      show va_up (c_p s1) deep true i = _
      unfold va_up
      rw [if_neg (by omega)]; exact a7 i (by omega)
    · rw [← setl_setl (show 1 ≤ 2 by decide) (c_S s3), d8, setl_setl (by decide), hs2]
      show setl 1 ((2000 + T r.2.1) :: c_S s) (c_c s ++ r.1 ++ o.1) = setl 1 (c_S s) (c_c s ++ (r.1 ++ o.1 ++ [2000 + T r.2.1]))
      rw [setl_pop (by rw [hch.1]; decide)]
      simp only [List.append_assoc]
    · show stepC s3 (T o.2.1) = none
      have q1 : o.2.1 < L := q1
      have q2 : T o.2.1 ≠ 41 := q2
      by_cases dgt : isd (T o.2.1)
      · exact d9 q1 dgt
      · have x := d3 q1
        have cp : c_p s3 (c_o s3) = true := by
          rw [d6, d7 deep (Nat.le_refl _), hs2]
          show va_up (c_p s1) deep true deep = true
          unfold va_up; rw [if_pos rfl]
        unfold stepC
        rw [if_neg dgt, if_neg (by rw [d5]; decide), if_neg q2, if_pos]
        rcases bnd_cases _ (hT _ q1) with z | z | z | z | z | ⟨-, z⟩
        · exact Or.inl z
        · exact absurd z x.1.2.1
        · exact absurd z x.1.2.2
        · exact absurd z x.2.1
        · exact absurd z x.2.2
        · exact Or.inr ⟨z, cp⟩
  · rw [if_neg c]
    refine ⟨fun e => ?_, sp.2⟩
    obtain ⟨a1, a2, a3, s1, a4, a5, a6, a7, a8, a9⟩ := sp.1 e
    refine ⟨a1, a2, s1, a4, a5, a6, fun i hi => a7 i (by omega), ?_, fun q1 q2 => ?_⟩
    · rw [← setl_setl (show 1 ≤ 2 by decide) (c_S s1), a8, setl_setl (by decide)]
    · by_cases dgt : isd (T r.2.1)
      · exact a9 q1 dgt
      · have x := a3 q1
        unfold stepC
        rw [if_neg dgt, if_neg (by rw [a5]; decide), if_neg q2, if_pos]
        rcases bnd_cases _ (hT _ q1) with z | z | z | z | z | ⟨z, -⟩
        · exact Or.inl z
        · exact absurd z x.1.2.1
        · exact absurd z x.1.2.2
        · exact absurd z x.2.1
        · exact absurd z x.2.2
        · exact absurd ⟨e, q1, z⟩ c
end SPEC
