/-! chances and rests: nothing of the town -/
def h00 : aH := ([], fun _ _ => 0, fun _ _ => 0, fun _ _ => none)
/-- what spoils() tells, on the class's side and on the reference's -/
def spC (a b c : Int32) : Option (Int64 × Int64) :=
  (fn_X1_choices h00 (a - 1) (b - 1)).bind fun y1 =>
  (fn_X1_power h00 (Int32.toInt64 c) b).bind fun y2 =>
  (fn_X1_power h00 (Int32.toInt64 (10 - c)) (a - b)).bind fun y3 =>
  (fn_X1_power h00 10 a).bind fun y5 =>
  (fn_X1_greatestShared h00 ((y1 * y2) * y3) y5).bind fun y6 =>
  (if (lg_cmp y6 0) ≤ 0 then some ((y1 * y2) * y3) else ldv ((y1 * y2) * y3) y6).bind fun t11 =>
  (if (lg_cmp y6 0) ≤ 0 then some y5 else ldv y5 y6).bind fun t15 =>
  some (t11, t15)
def spM (a b c : Int32) : Option (Int64 × Int64) :=
  (if b ≤ a then some (1 : Int64) else some 0).bind fun t5 =>
  (lp (lb_X12_spoils_52 h00 86 a b c) lpN (t5, 1)).bind fun o9 =>
  (if (lg_cmp o9 0) = 0 then some (0 : Int64) else (fn_X12_power h00 (Int32.toInt64 c) b).bind fun y27 => (fn_X12_power h00 (Int32.toInt64 (10 - c)) (a - b)).bind fun y28 => some ((o9 * y27) * y28)).bind fun t17 =>
  (fn_X12_power h00 10 a).bind fun y18 =>
  (fn_X12_common 100 h00 t17 y18).bind fun y19 =>
  (ldv t17 y19).bind fun y21 =>
  (ldv y18 y19).bind fun y24 =>
  some (y21, y24)
set_option maxRecDepth 100000 in
theorem sp_all : ∀ n, n < 12 → ∀ k, k < 12 → ∀ p, p < 11 → (spC (nI (n + 1)) (nI (k + 1)) (nI p)).isSome = true ∧ spC (nI (n + 1)) (nI (k + 1)) (nI p) = spM (nI (n + 1)) (nI (k + 1)) (nI p) := by decide +kernel
set_option maxRecDepth 100000 in
theorem rest_all : ∀ v, v < 21 → ∀ x, x < 10 → ∀ y, y < 10 → (fn_X1_isBestAgainst h00 (nI v) (nI x) (nI y) = some 0 ∧ fn_X12_isBest h00 (nI x) (nI y) (nI v) = some 0) ∨ (fn_X1_isBestAgainst h00 (nI v) (nI x) (nI y) = some 1 ∧ fn_X12_isBest h00 (nI x) (nI y) (nI v) = some 1) := by decide +kernel
