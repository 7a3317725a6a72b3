/-! the relation between the class's cells and the reference's -/
theorem hI_sI_r (h : aH) (a j : Nat) (x : Int32) (b : Nat) : hI (sI h a j x) b = if b = a then va_up (hI h a) j x else hI h b := rfl
theorem hJ_sJ_r (h : aH) (a j : Nat) (x : Int64) (b : Nat) : hJ (sJ h a j x) b = if b = a then va_up (hJ h a) j x else hJ h b := rfl
/-- texts -/
def R_tx (sz szM : Int32) (sg tx : Nat → Int32) : Prop := ∃ n : Nat, n ≤ 80 ∧ sz = nI n ∧ szM = nI n ∧ ∀ i, i < n → ∃ c : Nat, c < 256 ∧ sg i = nI c ∧ tx i &&& 255 = nI c ∧ (c < 128 → tx i = nI c)
/-- the town: how many, and the rows of its sluices -/
def R_tn (nb ns : Nat) (b s lk b' s' lk' : Int32) (fr to kd fr' to' kd' : Nat → Int32) : Prop :=
  nb ≤ 6 ∧ ns ≤ 8 ∧ b = nI nb ∧ b' = nI nb ∧ s = nI ns ∧ s' = nI ns ∧ lk' = lk ∧ (∃ v : Nat, v < 2 ^ nb ∧ lk = nI v) ∧
  ∀ i, i < ns → fr' i = fr i ∧ to' i = to i ∧ kd' i = kd i ∧ ∃ p q r : Nat, p < nb ∧ q < nb ∧ p ≠ q ∧ r < 3 ∧ fr i = nI p ∧ to i = nI q ∧ kd i = nI r
/-- a state's sixteen numbers: levels, marks, on, stuck, hour, lost -/
def VS (nb ns c : Nat) (x : Nat → Int32) : Prop :=
  (∀ i, i < 6 → ∃ v : Nat, v ≤ 9 ∧ x i = nI v ∧ (nb ≤ i → v = 0)) ∧ (∀ i, i < 6 → ∃ v : Nat, v ≤ 9 ∧ x (6 + i) = nI v) ∧
  (∃ v : Nat, v < 2 ^ ns ∧ x 12 = nI v) ∧ (∃ v : Nat, v < 2 ^ ns ∧ x 13 = nI v) ∧ (∃ v : Nat, v ≤ 1000 * c ∧ x 14 = nI v) ∧ (∃ v : Nat, v ≤ 9999 ∧ x 15 = nI v)
/-- a State's cells hold them -/
def SR (f lv mk x : Nat → Int32) : Prop := (∀ i, i < 6 → lv i = x i) ∧ (∀ i, i < 6 → mk i = x (6 + i)) ∧ f 2 = x 12 ∧ f 3 = x 13 ∧ f 4 = x 14 ∧ f 5 = x 15
/-- the addresses of a kind that Past keeps -/
def isSt (k : Nat) : Prop := ∃ i : Nat, i < 12 ∧ k = 33 + 3 * i
def R_past (nb ns c : Nat) (sz szM : Int32) (ro : Nat → Option Nat) (rows : Nat → Nat → Int32) (un : Nat → Int32) : Prop :=
  ∃ n : Nat, n ≤ 12 ∧ sz = nI n ∧ szM = nI n ∧ (∃ ad : Nat → Nat, (∀ i, i < 12 → ro i = some (ad i) ∧ isSt (ad i)) ∧ (∀ i j, i < 12 → j < 12 → ad i = ad j → i = j) ∧
    ∀ i, i < n → VS nb ns c (fun k => un (16 * i + k)) ∧ SR (rows (ad i)) (rows (ad i + 1)) (rows (ad i + 2)) (fun k => un (16 * i + k)))
def R_kept (nb ns c : Nat) (came : Int32) (is is' cm : Nat → Int32) (rows : Nat → Nat → Int32) (kp : Nat → Int32) : Prop :=
  (∃ v : Nat, v ≤ nb + ns ∧ came = nI v) ∧ ∀ i, i < 2 → (is i = 0 ∨ is i = 1) ∧ (is' i = 0 ∨ is' i = 1) ∧ (∃ v : Nat, v ≤ nb + ns ∧ cm i = nI v ∧ ∃ w : Nat, came = nI w ∧ v ≤ w) ∧ (is i = 1 ↔ is' i = 1 ∧ cm i = came) ∧
    (is i = 1 → VS nb ns c (fun k => kp (16 * i + k)) ∧ SR (rows (70 + 3 * i)) (rows (71 + 3 * i)) (rows (72 + 3 * i)) (fun k => kp (16 * i + k)))
def R_told (sz szM : Int32) (a b : Nat → Int64) : Prop := ∃ n : Nat, n ≤ 16 ∧ sz = nI n ∧ szM = nI n ∧ ∀ i, i < n → a i = b i
def R_seen (nb : Nat) (sz szM : Int32) (b o l b' o' l' : Nat → Int32) : Prop :=
  ∃ n : Nat, n ≤ 10 ∧ sz = nI n ∧ szM = nI n ∧ ∀ i, i < n → b' i = b i ∧ o' i = o i ∧ l' i = l i ∧ ∃ p q r : Nat, p < nb ∧ q ≤ 20 ∧ r ≤ 9 ∧ b i = nI p ∧ o i = nI q ∧ l i = nI r
/-- the rows of the kept states alone -/
def rwP (h : aH) : Nat → Nat → Int32 := fun a => if 33 ≤ a ∧ a < 69 then hI h a else fun _ => 0
def rwK (h : aH) : Nat → Nat → Int32 := fun a => if 70 ≤ a ∧ a < 76 then hI h a else fun _ => 0
theorem rwP_sI {h : aH} {a j : Nat} {x : Int32} (ha : ¬ (33 ≤ a ∧ a < 69)) : rwP (sI h a j x) = rwP h := by
  funext b
  unfold rwP
  split
  · rename_i hb
    rw [hI_sI_r, if_neg (show ¬ b = a by omega)]
  · rfl
theorem rwK_sI {h : aH} {a j : Nat} {x : Int32} (ha : ¬ (70 ≤ a ∧ a < 76)) : rwK (sI h a j x) = rwK h := by
  funext b
  unfold rwK
  split
  · rename_i hb
    rw [hI_sI_r, if_neg (show ¬ b = a by omega)]
  · rfl
theorem rwP_sJ {h : aH} {a j : Nat} {x : Int64} : rwP (sJ h a j x) = rwP h := rfl
theorem rwK_sJ {h : aH} {a j : Nat} {x : Int64} : rwK (sJ h a j x) = rwK h := rfl
def Rel (ρ : (Nat → Int32) → Int32 → (Nat → Int32) → Int32 → Prop) (c nb ns : Nat) (h : aH) : Prop :=
  Wf h ∧ R_tx (hI h 1 1) (hI h 86 8) (hI h 2) (hI h 91) ∧
  R_tn nb ns (hI h 3 0) (hI h 3 1) (hI h 3 2) (hI h 86 1) (hI h 86 2) (hI h 86 3) (hI h 4) (hI h 5) (hI h 6) (hI h 88) (hI h 89) (hI h 90) ∧
  VS nb ns c (hI h 87) ∧ SR (hI h 22) (hI h 23) (hI h 24) (hI h 87) ∧
  R_past nb ns c (hI h 31 3) (hI h 86 24) (hR h 32) (rwP h) (hI h 97) ∧
  R_kept nb ns c (hI h 86 46) (hI h 76) (hI h 114) (hI h 115) (rwK h) (hI h 113) ∧
  R_told (hI h 77 1) (hI h 86 10) (hJ h 78) (hJ h 92) ∧
  R_seen nb (hI h 79 3) (hI h 86 37) (hI h 80) (hI h 81) (hI h 82) (hI h 105) (hI h 106) (hI h 107) ∧
  (hR h 86 18 = some 94 ∧ hR h 86 19 = some 95) ∧ ρ (hI h 15) (hI h 14 2) (hI h 94) (hI h 86 20)
