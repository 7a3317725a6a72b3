/-! a rule: the reference's reading and value -/
def jn (w : Nat) (a b : Int32) : Int32 := if w = 2042 then a * b else if w = 2043 then a + b else if w = 2045 then a - b else if w = 2047 then (if b = 0 then 0 else a / b) else if w = 2060 then (if a < b then 1 else 0) else if w = 2062 then (if a ≤ b then 0 else 1) else (if a = b then 1 else 0)
def ex1 (y : Nat → Int32) (st : List Int32) (w : Nat) : List Int32 :=
  if w < 2000 then (if 1000 ≤ w ∧ w < 1007 then y (w - 1000) else nI w) :: st
  else if w = 3000 then (match st with
    | v :: r => (-v) :: r
    | [] => [])
  else match st with
    | b :: a :: r => jn w a b :: r
    | st => st
def ex (y : Nat → Int32) (c : List Nat) (st : List Int32) : List Int32 := c.foldl (ex1 y) st
def VAL (y : Nat → Int32) (c : List Nat) (v : Int32) : Prop := ∀ st, ex y c st = v :: st
theorem ex_app (y : Nat → Int32) (c d : List Nat) (st : List Int32) : ex y (c ++ d) st = ex y d (ex y c st) := List.foldl_append
theorem VAL.neg {y : Nat → Int32} {c : List Nat} {v : Int32} (h : VAL y c v) : VAL y (c ++ [3000]) (-v) := fun st => by rw [ex_app, h st]; rfl
theorem VAL.bin {y : Nat → Int32} {c d : List Nat} {a b : Int32} (h : VAL y c a) (k : VAL y d b) {w : Nat} (h1 : 2000 ≤ w) (h2 : w ≠ 3000) : VAL y (c ++ d ++ [w]) (jn w a b) := fun st => by
  rw [ex_app, ex_app, h st, k (a :: st)]
  show ex1 y (b :: a :: st) w = _
  unfold ex1
  rw [if_neg (by omega), if_neg h2]
def AKD (y : Nat → Int32) (h : aH) : Prop := hI h 86 21 = 0 ∨ (hI h 86 21 = 1 ∧ ∀ j, j < 7 → hI h 96 j = y j)
theorem AKD.to {y : Nat → Int32} {h h' : aH} (F : Fr rdS h h') (k : AKD y h) : AKD y h' := by
  rcases k with k | ⟨k1, k2⟩
  · exact Or.inl ((F.i 86 21 rfl).trans k)
  · exact Or.inr ⟨(F.i 86 21 rfl).trans k1, fun j hj => (F.i 96 j rfl).trans (k2 j hj)⟩
section RM
variable {a n : Nat} {T : Nat → Nat} {y : Nat → Int32}
def SIM (a : Nat) (T : Nat → Nat) (n : Nat) (y : Nat → Int32) (h0 : aH) (r : PR) (v : Int32) (h' : aH) : Prop := Fr rdS h0 h' ∧ RD a T n 40 r.2.1 r.2.2 h' ∧ (hI h0 86 21 = 1 → r.2.2 = none → VAL y r.1 v)
theorem RD.adv {p : Nat} {h : aH} (r : RD a T n 40 p none h) (hp : p < 100) : gI h 86 11 15 = some (nI p) ∧ pI h 86 11 15 (nI p + 1) = some (sI h 86 15 (nI (p + 1))) ∧ RD a T n 40 (p + 1) none (sI h 86 15 (nI (p + 1))) ∧ Fr rdS h (sI h 86 15 (nI (p + 1))) := by
  refine ⟨by rw [w_gI r.1 86 11 15 rfl, r.2.2.2.2.1], by rw [nI_1, w_pI r.1 86 11 15 _ rfl], r.at (by omega), (Fr.refl _ _).sI _ rfl⟩
theorem loopM {deep o1 o2 p0 : Nat} {it : Nat → PR} {bd : Int32 × aH → Option ((Int32 × aH) ⊕ (Int32 × aH))} {cl : aH → Option (Int32 × aH)}
    (hbad : ∀ v h q w, RD a T n 40 q (some w) h → bd (v, h) = some (.inr (v, h)))
    (hend : ∀ v h q, RD a T n 40 q none h → ¬ (q < min n 40 ∧ (T q = o1 ∨ T q = o2)) → bd (v, h) = some (.inr (v, h)))
    (hgo : ∀ v h q, RD a T n 40 q none h → q < min n 40 → (T q = o1 ∨ T q = o2) → ∀ u h', cl (sI h 86 15 (nI (q + 1))) = some (u, h') → bd (v, h) = some (.inl (jn (2000 + T q) v u, h')))
    (hcl : ∀ p h, p0 ≤ p → p ≤ min n 40 → RD a T n 40 p none h → AKD y h → ∃ u h', cl h = some (u, h') ∧ SIM a T n y h (it p) u h')
    (hpr : ∀ p, p0 ≤ p → p ≤ min n 40 → (it p).2.2 = none → p < (it p).2.1 ∧ (it p).2.1 ≤ min n 40) :
    ∀ f r v h0 h N, f ≤ N → AKD y h0 → SIM a T n y h0 r v h → (r.2.2 = none → p0 ≤ r.2.1 ∧ r.2.1 ≤ min n 40 ∧ min n 40 - r.2.1 < f) → 0 < f → ∃ v' h', lp bd N (v, h) = some (v', h') ∧ SIM a T n y h0 (ploop T (min n 40) o1 o2 it f r) v' h' := by
  intro f
  induction f with
  | zero => intro r v h0 h N hN k S hr hf; omega
  | succ f ih =>
    intro r v h0 h N hN k S hr hf
    obtain ⟨M, rfl⟩ : ∃ M, N = M + 1 := ⟨N - 1, by omega⟩
    obtain ⟨S1, S2, S3⟩ := S
    show ∃ v' h', lp bd (M + 1) (v, h) = some (v', h') ∧ SIM a T n y h0 (if r.2.2 = none ∧ r.2.1 < min n 40 ∧ (T r.2.1 = o1 ∨ T r.2.1 = o2) then ploop T (min n 40) o1 o2 it f (r.1 ++ (it (r.2.1 + 1)).1 ++ [2000 + T r.2.1], (it (r.2.1 + 1)).2) else r) v' h'
    by_cases c : r.2.2 = none ∧ r.2.1 < min n 40 ∧ (T r.2.1 = o1 ∨ T r.2.1 = o2)
    · rw [if_pos c]
      obtain ⟨c1, c2, c3⟩ := c
      rw [c1] at S2
      obtain ⟨r1, r2, r3⟩ := hr c1
      obtain ⟨-, -, R1, F1⟩ := S2.adv (by omega)
      obtain ⟨u, h', e1, T1, T2, T3⟩ := hcl (r.2.1 + 1) _ (by omega) (by omega) R1 ((k.to S1).to F1)
      have b := hgo v h r.2.1 S2 c2 c3 u h' e1
      have pr := hpr (r.2.1 + 1) (by omega) (by omega)
      have tw : 2000 + T r.2.1 ≠ 3000 := by have := S2.lim (i := r.2.1) (by omega); omega
      have e21 : hI (sI h 86 15 (nI (r.2.1 + 1))) 86 21 = hI h0 86 21 := by rw [F1.i 86 21 rfl, S1.i 86 21 rfl]
      by_cases e : (it (r.2.1 + 1)).2.2 = none
      · obtain ⟨v', h2, e2, Z⟩ := ih (r.1 ++ (it (r.2.1 + 1)).1 ++ [2000 + T r.2.1], (it (r.2.1 + 1)).2) (jn (2000 + T r.2.1) v u) h0 h' M (by omega) k ⟨S1.trans (F1.trans T1), T2, fun q1 q2 => (S3 q1 c1).bin (T3 (e21.trans q1) q2) (by omega) tw⟩ (fun q => by
            obtain ⟨z1, z2⟩ := pr q
            exact ⟨by show p0 ≤ (it (r.2.1 + 1)).2.1; omega, z2, by show min n 40 - (it (r.2.1 + 1)).2.1 < f; omega⟩) (by
            obtain ⟨z1, z2⟩ := pr e
            omega)
        refine ⟨v', h2, ?_, Z⟩
        simp only [lp, b]
        exact e2
      · -- wrong within: the loop ends at the next turn
        obtain ⟨w, ew⟩ : ∃ w, (it (r.2.1 + 1)).2.2 = some w := by
          cases q : (it (r.2.1 + 1)).2.2 with
          | none => exact absurd q e
          | some w => exact ⟨w, rfl⟩
        have pe : ∀ f, ploop T (min n 40) o1 o2 it f (r.1 ++ (it (r.2.1 + 1)).1 ++ [2000 + T r.2.1], (it (r.2.1 + 1)).2) = (r.1 ++ (it (r.2.1 + 1)).1 ++ [2000 + T r.2.1], (it (r.2.1 + 1)).2) := by
          intro f
          cases f with
          | zero => rfl
          | succ f =>
            show (if (it (r.2.1 + 1)).2.2 = none ∧ _ ∧ _ then _ else _) = _
            rw [if_neg (fun q => e q.1)]
        rw [pe]
        refine ⟨jn (2000 + T r.2.1) v u, h', ?_, S1.trans (F1.trans T1), T2, fun q1 q2 => absurd q2 e⟩
        obtain ⟨M', rfl⟩ : ∃ M', M = M' + 1 := ⟨M - 1, by omega⟩
        rw [ew] at T2
        simp only [lp, b, hbad _ _ _ _ T2]
    · rw [if_neg c]
      refine ⟨v, h, ?_, S1, S2, S3⟩
      cases q : r.2.2 with
      | some w =>
        rw [q] at S2
        simp only [lp, hbad _ _ _ _ S2]
      | none =>
        rw [q] at S2
        simp only [lp, hend _ _ _ S2 (fun z => c ⟨q, z⟩)]
theorem jn42 (x u : Int32) : jn 2042 x u = x * u := rfl
theorem jn47 (x u : Int32) : jn 2047 x u = if u = 0 then 0 else x / u := rfl
section LP
variable {th : aH → Nat → Int32 → Option (Int32 × aH)} {deep : Nat}
theorem prod_bad (v : Int32) (h : aH) (q w : Nat) (r : RD a T n 40 q (some w) h) : lb_X12_product_6 th 86 (nI deep) (v, h) = some (.inr (v, h)) := by
  unfold lb_X12_product_6
  simp only [k_86 r.1, Option.bind_some, fine_M r]
  rfl
theorem sum_bad (v : Int32) (h : aH) (q w : Nat) (r : RD a T n 40 q (some w) h) : lb_X12_sum_6 th 86 (nI deep) (v, h) = some (.inr (v, h)) := by
  unfold lb_X12_sum_6
  simp only [k_86 r.1, Option.bind_some, fine_M r]
  rfl
theorem prod_end (v : Int32) (h : aH) (q : Nat) (r : RD a T n 40 q none h) (hq : ¬ (q < min n 40 ∧ (T q = 42 ∨ T q = 47))) : lb_X12_product_6 th 86 (nI deep) (v, h) = some (.inr (v, h)) := by
  have k1 : sg T (min n 40) q = 42 ↔ q < min n 40 ∧ T q = 42 := here_is r (c := 42) (by decide)
  have k2 : sg T (min n 40) q = 47 ↔ q < min n 40 ∧ T q = 47 := here_is r (c := 47) (by decide)
  unfold lb_X12_product_6
  simp only [k_86 r.1, Option.bind_some, fine_M r, here_M r]
  rw [if_neg (by decide), if_neg (fun z => hq ⟨(k1.mp z).1, Or.inl (k1.mp z).2⟩), if_neg (fun z => hq ⟨(k2.mp z).1, Or.inr (k2.mp z).2⟩)]
theorem sum_end (v : Int32) (h : aH) (q : Nat) (r : RD a T n 40 q none h) (hq : ¬ (q < min n 40 ∧ (T q = 43 ∨ T q = 45))) : lb_X12_sum_6 th 86 (nI deep) (v, h) = some (.inr (v, h)) := by
  have k1 : sg T (min n 40) q = 43 ↔ q < min n 40 ∧ T q = 43 := here_is r (c := 43) (by decide)
  have k2 : sg T (min n 40) q = 45 ↔ q < min n 40 ∧ T q = 45 := here_is r (c := 45) (by decide)
  unfold lb_X12_sum_6
  simp only [k_86 r.1, Option.bind_some, fine_M r, here_M r]
  rw [if_neg (by decide), if_neg (fun z => hq ⟨(k1.mp z).1, Or.inl (k1.mp z).2⟩), if_neg (fun z => hq ⟨(k2.mp z).1, Or.inr (k2.mp z).2⟩)]
theorem prod_go (v : Int32) (h : aH) (q : Nat) (r : RD a T n 40 q none h) (hq : q < min n 40) (ho : T q = 42 ∨ T q = 47) (u : Int32) (h' : aH) (e : th (sI h 86 15 (nI (q + 1))) 86 (nI deep) = some (u, h')) : lb_X12_product_6 th 86 (nI deep) (v, h) = some (.inl (jn (2000 + T q) v u, h')) := by
  obtain ⟨g1, g2, R1, F1⟩ := r.adv (by omega)
  have k1 : sg T (min n 40) q = 42 ↔ q < min n 40 ∧ T q = 42 := here_is r (c := 42) (by decide)
  have k2 : sg T (min n 40) q = 47 ↔ q < min n 40 ∧ T q = 47 := here_is r (c := 47) (by decide)
  unfold lb_X12_product_6
  simp only [k_86 r.1, Option.bind_some, fine_M r, here_M r, g1, g2, k_86 R1.1, e]
  rw [if_neg (by decide)]
  rcases ho with o | o
  · rw [if_pos (k1.mpr ⟨hq, o⟩), if_pos (k1.mpr ⟨hq, o⟩), Option.bind_some, if_neg one0, o]
    rfl
  · have n1 : ¬ sg T (min n 40) q = 42 := fun z => by have := (k1.mp z).2; omega
    rw [if_neg n1, if_pos (k2.mpr ⟨hq, o⟩), if_neg n1, Option.bind_some, if_pos rfl, o]
    show _ = some (Sum.inl ((if u = 0 then 0 else v / u), h'))
    by_cases z : u = 0
    · rw [if_pos z, if_pos z]
    · rw [if_neg z, if_neg z]
      unfold idv
      rw [if_neg z]
      rfl
theorem sum_go (v : Int32) (h : aH) (q : Nat) (r : RD a T n 40 q none h) (hq : q < min n 40) (ho : T q = 43 ∨ T q = 45) (u : Int32) (h' : aH) (e : fn_X12_product th (sI h 86 15 (nI (q + 1))) 86 (nI deep) = some (u, h')) : lb_X12_sum_6 th 86 (nI deep) (v, h) = some (.inl (jn (2000 + T q) v u, h')) := by
  obtain ⟨g1, g2, R1, F1⟩ := r.adv (by omega)
  have k1 : sg T (min n 40) q = 43 ↔ q < min n 40 ∧ T q = 43 := here_is r (c := 43) (by decide)
  have k2 : sg T (min n 40) q = 45 ↔ q < min n 40 ∧ T q = 45 := here_is r (c := 45) (by decide)
  unfold lb_X12_sum_6
  simp only [k_86 r.1, Option.bind_some, fine_M r, here_M r, g1, g2, k_86 R1.1, e]
  rw [if_neg (by decide)]
  rcases ho with o | o
  · rw [if_pos (k1.mpr ⟨hq, o⟩), if_pos (k1.mpr ⟨hq, o⟩), Option.bind_some, if_neg one0, o]
    rfl
  · have n1 : ¬ sg T (min n 40) q = 43 := fun z => by have := (k1.mp z).2; omega
    rw [if_neg n1, if_pos (k2.mpr ⟨hq, o⟩), if_neg n1, Option.bind_some, if_pos rfl, o]
    rfl
end LP
/-- a thing's call gives what the parts give -/
def THM (a : Nat) (T : Nat → Nat) (n : Nat) (y : Nat → Int32) (p0 : Nat) (cl : aH → Option (Int32 × aH)) (it : Nat → PR) : Prop :=
  (∀ p h, p0 ≤ p → p ≤ min n 40 → RD a T n 40 p none h → AKD y h → ∃ u h', cl h = some (u, h') ∧ SIM a T n y h (it p) u h') ∧ ∀ p, p0 ≤ p → p ≤ min n 40 → (it p).2.2 = none → p < (it p).2.1 ∧ (it p).2.1 ≤ min n 40
theorem ploop_pr {o1 o2 p0 : Nat} {it : Nat → PR} (hpr : ∀ p, p0 ≤ p → p ≤ min n 40 → (it p).2.2 = none → p < (it p).2.1 ∧ (it p).2.1 ≤ min n 40) : ∀ f r q, p0 ≤ q → (r.2.2 = none → q < r.2.1 ∧ r.2.1 ≤ min n 40) → (ploop T (min n 40) o1 o2 it f r).2.2 = none → q < (ploop T (min n 40) o1 o2 it f r).2.1 ∧ (ploop T (min n 40) o1 o2 it f r).2.1 ≤ min n 40 := by
  intro f
  induction f with
  | zero => intro r q hq h e; exact h e
  | succ f ih =>
    intro r q hq h
    show (if r.2.2 = none ∧ r.2.1 < min n 40 ∧ (T r.2.1 = o1 ∨ T r.2.1 = o2) then ploop T (min n 40) o1 o2 it f (r.1 ++ (it (r.2.1 + 1)).1 ++ [2000 + T r.2.1], (it (r.2.1 + 1)).2) else r).2.2 = none → _ < (if r.2.2 = none ∧ r.2.1 < min n 40 ∧ (T r.2.1 = o1 ∨ T r.2.1 = o2) then ploop T (min n 40) o1 o2 it f (r.1 ++ (it (r.2.1 + 1)).1 ++ [2000 + T r.2.1], (it (r.2.1 + 1)).2) else r).2.1 ∧ (if r.2.2 = none ∧ r.2.1 < min n 40 ∧ (T r.2.1 = o1 ∨ T r.2.1 = o2) then ploop T (min n 40) o1 o2 it f (r.1 ++ (it (r.2.1 + 1)).1 ++ [2000 + T r.2.1], (it (r.2.1 + 1)).2) else r).2.1 ≤ min n 40
    by_cases c : r.2.2 = none ∧ r.2.1 < min n 40 ∧ (T r.2.1 = o1 ∨ T r.2.1 = o2)
    · rw [if_pos c]
      obtain ⟨h1, h2⟩ := h c.1
      refine ih _ q hq (fun e => ?_)
      obtain ⟨z1, z2⟩ := hpr (r.2.1 + 1) (by omega) (by omega) e
      exact ⟨by show q < (it (r.2.1 + 1)).2.1; omega, z2⟩
    · rw [if_neg c]
      exact h
theorem prodM {p0 deep : Nat} {th : aH → Nat → Int32 → Option (Int32 × aH)} {it : Nat → PR} (H : THM a T n y p0 (fun h => th h 86 (nI deep)) it) : THM a T n y p0 (fun h => fn_X12_product th h 86 (nI deep)) (pprod T (min n 40) it) := by
  refine ⟨fun p h hp hL r k => ?_, fun p hp hL e => ploop_pr H.2 100 (it p) p hp (fun e => H.2 p hp hL e) e⟩
  obtain ⟨u, h1, e1, S⟩ := H.1 p h hp hL r k
  obtain ⟨v', h', e2, Z⟩ := loopM (deep := deep) (o1 := 42) (o2 := 47) (bd := lb_X12_product_6 th 86 (nI deep)) (cl := fun h => th h 86 (nI deep)) (fun v h q w r => prod_bad v h q w r) (fun v h q r z => prod_end v h q r z) (fun v h q r hq ho u h' e => prod_go v h q r hq ho u h' e) H.1 H.2 100 (it p) u h h1 lpN (by decide) k S (fun e => by
    obtain ⟨z1, z2⟩ := H.2 p hp hL e
    exact ⟨by omega, z2, by omega⟩) (by decide)
  refine ⟨v', h', ?_, Z⟩
  show fn_X12_product th h 86 (nI deep) = _
  have e1' : th h 86 (nI deep) = some (u, h1) := e1
  unfold fn_X12_product
  simp only [k_86 r.1, Option.bind_some, e1', e2]
theorem sumM {p0 deep : Nat} {th : aH → Nat → Int32 → Option (Int32 × aH)} {it : Nat → PR} (H0 : THM a T n y p0 (fun h => th h 86 (nI deep)) it) : THM a T n y p0 (fun h => fn_X12_sum th h 86 (nI deep)) (psum T (min n 40) it) := by
  have H := prodM H0
  refine ⟨fun p h hp hL r k => ?_, fun p hp hL e => ploop_pr H.2 100 (pprod T (min n 40) it p) p hp (fun e => H.2 p hp hL e) e⟩
  obtain ⟨u, h1, e1, S⟩ := H.1 p h hp hL r k
  obtain ⟨v', h', e2, Z⟩ := loopM (deep := deep) (o1 := 43) (o2 := 45) (bd := lb_X12_sum_6 th 86 (nI deep)) (cl := fun h => fn_X12_product th h 86 (nI deep)) (fun v h q w r => sum_bad v h q w r) (fun v h q r z => sum_end v h q r z) (fun v h q r hq ho u h' e => sum_go v h q r hq ho u h' e) H.1 H.2 100 (pprod T (min n 40) it p) u h h1 lpN (by decide) k S (fun e => by
    obtain ⟨z1, z2⟩ := H.2 p hp hL e
    exact ⟨by omega, z2, by omega⟩) (by decide)
  refine ⟨v', h', ?_, Z⟩
  show fn_X12_sum th h 86 (nI deep) = _
  have e1' : fn_X12_product th h 86 (nI deep) = some (u, h1) := e1
  unfold fn_X12_sum
  simp only [k_86 r.1, Option.bind_some, e1', e2]
end RM
