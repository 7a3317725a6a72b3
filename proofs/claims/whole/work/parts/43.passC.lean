/-! the class's hour is the mathematical one -/
/-- a State's cells hold the sixteen numbers -/
def SR (f lv mk x : XX) : Prop := (∀ i, i < 6 → lv i = x i) ∧ (∀ i, i < 6 → mk i = x (6 + i)) ∧ f 2 = x 12 ∧ f 3 = x 13 ∧ f 4 = x 14 ∧ f 5 = x 15
def St (h : aH) (k : Nat) (x : XX) : Prop := SR (hI h k) (hI h (k + 1)) (hI h (k + 2)) x
theorem SR_congr {f l m x y : XX} (h : ∀ k, k < 16 → y k = x k) (v : SR f l m x) : SR f l m y := by
  obtain ⟨v1, v2, v3, v4, v5, v6⟩ := v
  refine ⟨fun i hi => ?_, fun i hi => ?_, ?_, ?_, ?_, ?_⟩
  · rw [h i (by omega)]; exact v1 i hi
  · rw [h (6 + i) (by omega)]; exact v2 i hi
  · rw [h 12 (by decide)]; exact v3
  · rw [h 13 (by decide)]; exact v4
  · rw [h 14 (by decide)]; exact v5
  · rw [h 15 (by decide)]; exact v6
/-- the class's net -/
def CN (N : Net) (h : aH) : Prop := hI h 3 0 = nI (N_b N) ∧ hI h 3 1 = nI (N_s N) ∧ hI h 3 2 = nI (N_l N) ∧ ∀ i, i < N_s N → hI h 4 i = nI (N_f N i) ∧ hI h 5 i = nI (N_t N i) ∧ hI h 6 i = nI (N_k N i)
/-- the class's rule at r computes sem -/
def RuleC (h : aH) (r : Nat) (sem : Sem) : Prop := (r = 14 ∨ r = 17) ∧ ∀ h' q, Wf h' → hI h' (r + 1) = hI h (r + 1) → hI h' r 2 = hI h r 2 → (∀ j, j < 7 → hI h' 8 j = q j) → ∃ f g, fn_X4_value h' r 8 = some (sem q, rI (rI h' 16 f) 19 g)
/-- what an hour may change in the class: the state at k and what is counted -/
def sh (k : Nat) (a j : Nat) : Bool := (a == 3 && (j == 8 || j == 9)) || (a == 7 || (a == 8 || (a == 16 || (a == 19 || (a == k || (a == k + 1 || a == k + 2))))))
theorem sI_sI_ne (h : aH) (a j : Nat) (x : Int32) : sI (sI h a j x) a j = sI h a j := by
  funext y
  unfold sI
  rw [rI_rI, hI_rI, if_pos rfl]
  congr 1
  funext i
  unfold va_up
  split <;> rfl
theorem CN.to {N : Net} {h h1 : aH} {k : Nat} (hk : k = 22 ∨ k = 28) (f : Fr (sh k) h h1) (c : CN N h) : CN N h1 := by
  obtain ⟨c1, c2, c3, c4⟩ := c
  rcases hk with rfl | rfl
  · refine ⟨(f.i 3 0 rfl).trans c1, (f.i 3 1 rfl).trans c2, (f.i 3 2 rfl).trans c3, fun i hi => ?_⟩
    rw [f.i 4 i rfl, f.i 5 i rfl, f.i 6 i rfl]
    exact c4 i hi
  · refine ⟨(f.i 3 0 rfl).trans c1, (f.i 3 1 rfl).trans c2, (f.i 3 2 rfl).trans c3, fun i hi => ?_⟩
    rw [f.i 4 i rfl, f.i 5 i rfl, f.i 6 i rfl]
    exact c4 i hi
theorem RuleC.to {h h1 : aH} {r k : Nat} {sem : Sem} (hk : k = 22 ∨ k = 28) (f : Fr (sh k) h h1) (c : RuleC h r sem) : RuleC h1 r sem := by
  refine ⟨c.1, fun h' q w e1 e2 e5 => ?_⟩
  refine c.2 h' q w (e1.trans (f.row (r + 1) fun _ => ?_)) (e2.trans (f.i r 2 ?_)) e5
  · rcases hk with rfl | rfl <;> rcases c.1 with rfl | rfl <;> rfl
  · rcases hk with rfl | rfl <;> rcases c.1 with rfl | rfl <;> rfl
theorem gk0_eq {h : aH} {k : Nat} (hk : k = 22 ∨ k = 28) (w : Wf h) : gR h k 6 0 = some (k + 1) := by
  rcases hk with rfl | rfl
  · exact g_22_0 w
  · exact g_28_0 w
theorem gk1_eq {h : aH} {k : Nat} (hk : k = 22 ∨ k = 28) (w : Wf h) : gR h k 6 1 = some (k + 2) := by
  rcases hk with rfl | rfl
  · exact g_22_1 w
  · exact g_28_1 w
section PassC
variable {N : Net} {h : aH} {k s : Nat} {x : XX} {sem : Sem} {r : Nat}
theorem opens_eq (hk : k = 22 ∨ k = 28) (w : Wf h) (C : CN N h) (V : NV N) (hs : s < N_s N) (S : St h k x) : fn_X0_opens h 3 k (nI s) = some (b2 (opn N x s), sI h k 2 (onOf N x s)) := by
  obtain ⟨f1, f2, f3, f4⟩ := V.2.2.2 s hs
  have h6 := V.1
  have h8 := V.2.1
  obtain ⟨c4, c5, c6⟩ := C.2.2.2 s hs
  obtain ⟨s1, s2, s3, s4, s5, s6⟩ := S
  have a4 : aI h 4 14 (nI s) = some (nI (N_f N s)) := by rw [aI_eq w 4 14 8 rfl s (by omega) (by decide), c4]
  have a5 : aI h 5 14 (nI s) = some (nI (N_t N s)) := by rw [aI_eq w 5 14 8 rfl s (by omega) (by decide), c5]
  have a6 : aI h 6 14 (nI s) = some (nI (N_k N s)) := by rw [aI_eq w 6 14 8 rfl s (by omega) (by decide), c6]
  have eself : sI h k 2 (x 12) = h := sI_self s3
  have gk0 : gR h k 6 0 = some (k + 1) := gk0_eq hk w
  have gk1 : gR h k 6 1 = some (k + 2) := gk1_eq hk w
  have l1 : aI h (k + 1) 14 (nI (N_f N s)) = some (x (N_f N s)) := by rw [aI_eq w (k + 1) 14 6 (by rcases hk with rfl | rfl <;> rfl) (N_f N s) (by omega) (by decide), s1 _ (by omega)]
  have l2 : aI h (k + 1) 14 (nI (N_t N s)) = some (x (N_t N s)) := by rw [aI_eq w (k + 1) 14 6 (by rcases hk with rfl | rfl <;> rfl) (N_t N s) (by omega) (by decide), s1 _ (by omega)]
  have l3 : aI h (k + 2) 14 (nI (N_f N s)) = some (x (6 + N_f N s)) := by rw [aI_eq w (k + 2) 14 6 (by rcases hk with rfl | rfl <;> rfl) (N_f N s) (by omega) (by decide), s2 _ (by omega)]
  have mk6 : (SH[k]?).map Prod.fst = some 6 := by rcases hk with rfl | rfl <;> rfl
  have hw : ∀ y, Wf (sI h k 2 y) := fun y => w
  have gi : ∀ y, gI (sI h k 2 y) k 6 2 = some y := fun y => by rw [w_gI (hw y) k 6 2 mk6, hI_sI]; simp
  have pi : ∀ y z, pI (sI h k 2 y) k 6 2 z = some (sI h k 2 z) := fun y z => by rw [w_pI (hw y) k 6 2 z mk6, sI_sI_ne]
  have gi0 : gI h k 6 2 = some (x 12) := by rw [w_gI w k 6 2 mk6, s3]
  have pi0 : ∀ z, pI h k 6 2 z = some (sI h k 2 z) := fun z => w_pI w k 6 2 z mk6
  have eb : (1 : Int32) <<< (nI s &&& 31) = bitI s := rfl
  have k0 : nI (N_k N s) = 0 ↔ N_k N s = 0 := nI_eq (b := 0) (by omega) (by decide)
  have k1 : nI (N_k N s) = 1 ↔ N_k N s = 1 := nI_eq (b := 1) (by omega) (by decide)
  unfold fn_X0_opens
  simp only [gk0, gk1, g_3_3 w, g_3_4 w, g_3_5 w, a4, a5, a6, l1, l2, l3, Option.bind_some, eb]
  by_cases q0 : N_k N s = 0
  · rw [if_pos (k0.mpr q0)]
    have eo : onOf N x s = x 12 := by unfold onOf; rw [if_pos q0]
    rw [eo, eself]
    unfold opn b2
    rw [if_pos q0]
    by_cases c : x (N_f N s) ≤ x (N_t N s)
    · simp [c]
    · simp [c]
  · rw [if_neg (fun q => q0 (k0.mp q))]
    by_cases q1 : N_k N s = 1
    · rw [if_pos (k1.mpr q1)]
      have eo : onOf N x s = x 12 := by unfold onOf; rw [if_neg q0, if_pos q1]
      rw [eo, eself]
      unfold opn b2
      rw [if_neg q0, if_pos q1]
      by_cases c : x (N_f N s) ≤ x (6 + N_f N s)
      · simp [c]
      · simp [c]
    · rw [if_neg (fun q => q1 (k1.mp q))]
      have eo : opn N x s = !decide ((onOf N x s &&& bitI s) = 0) := by unfold opn; rw [if_neg q0, if_neg q1]
      have e2 : onOf N x s = if x (N_f N s) = 0 then (if x (N_f N s) < x (6 + N_f N s) then x 12 else x 12 ||| bitI s) &&& (bitI s ^^^ (-1)) else (if x (N_f N s) < x (6 + N_f N s) then x 12 else x 12 ||| bitI s) := by unfold onOf; rw [if_neg q0, if_neg q1]
      have fin : ∀ y, (if (y &&& bitI s) = 0 then some ((0 : Int32), sI h k 2 y) else some (1, sI h k 2 y)) = some (b2 (!decide ((y &&& bitI s) = 0)), sI h k 2 y) := fun y => by
        unfold b2
        by_cases c : (y &&& bitI s) = 0 <;> simp [c]
      rw [eo]
      by_cases c1 : x (N_f N s) < x (6 + N_f N s)
      · by_cases c2 : x (N_f N s) = 0
        · rw [if_pos c2, if_pos c1] at e2
          simp only [if_pos c1, if_pos c2, Option.bind_some, gi0, pi0, gi]
          rw [e2]
          exact fin _
        · rw [if_neg c2, if_pos c1] at e2
          simp only [if_pos c1, if_neg c2, Option.bind_some, gi0]
          rw [e2]
          have := fin (x 12)
          rw [eself] at this ⊢
          exact this
      · by_cases c2 : x (N_f N s) = 0
        · rw [if_pos c2, if_neg c1] at e2
          simp only [if_neg c1, if_pos c2, Option.bind_some, gi0, pi0, gi, pi]
          rw [e2]
          exact fin _
        · rw [if_neg c2, if_neg c1] at e2
          simp only [if_neg c1, if_neg c2, Option.bind_some, gi0, pi0, gi]
          rw [e2]
          exact fin _
theorem flow_eq (hk : k = 22 ∨ k = 28) (w : Wf h) (C : CN N h) (V : NV N) (hs : s < N_s N) (S : St h k x) (R : RuleC h r sem) : ∃ t f g, fn_X0_flow h 3 k r (nI s) = some (flw N sem x s, rI (rI (rI h 8 t) 16 f) 19 g) := by
  obtain ⟨f1, f2, f3, f4⟩ := V.2.2.2 s hs
  have h6 := V.1
  have h8 := V.2.1
  obtain ⟨c4, c5, c6⟩ := C.2.2.2 s hs
  obtain ⟨s1, s2, s3, s4, s5, s6⟩ := S
  have wt : ∀ t, Wf (rI h 8 t) := fun t => w
  have ek : k ≠ 8 ∧ k + 1 ≠ 8 ∧ k + 2 ≠ 8 := by omega
  have a4 : ∀ t, aI (rI h 8 t) 4 14 (nI s) = some (nI (N_f N s)) := fun t => by rw [aI_eq (wt t) 4 14 8 rfl s (by omega) (by decide), hI_rI, if_neg (by decide), c4]
  have a5 : ∀ t, aI (rI h 8 t) 5 14 (nI s) = some (nI (N_t N s)) := fun t => by rw [aI_eq (wt t) 5 14 8 rfl s (by omega) (by decide), hI_rI, if_neg (by decide), c5]
  have a6 : ∀ t, aI (rI h 8 t) 6 14 (nI s) = some (nI (N_k N s)) := fun t => by rw [aI_eq (wt t) 6 14 8 rfl s (by omega) (by decide), hI_rI, if_neg (by decide), c6]
  have gk0 : ∀ t, gR (rI h 8 t) k 6 0 = some (k + 1) := fun t => gk0_eq hk (wt t)
  have gk1 : ∀ t, gR (rI h 8 t) k 6 1 = some (k + 2) := fun t => gk1_eq hk (wt t)
  have e14 : SH[k + 1]? = some (14, 6) := by rcases hk with rfl | rfl <;> rfl
  have e14' : SH[k + 2]? = some (14, 6) := by rcases hk with rfl | rfl <;> rfl
  have l1 : ∀ t, aI (rI h 8 t) (k + 1) 14 (nI (N_f N s)) = some (x (N_f N s)) := fun t => by rw [aI_eq (wt t) (k + 1) 14 6 e14 (N_f N s) (by omega) (by decide), hI_rI, if_neg ek.2.1, s1 _ (by omega)]
  have l2 : ∀ t, aI (rI h 8 t) (k + 1) 14 (nI (N_t N s)) = some (x (N_t N s)) := fun t => by rw [aI_eq (wt t) (k + 1) 14 6 e14 (N_t N s) (by omega) (by decide), hI_rI, if_neg ek.2.1, s1 _ (by omega)]
  have l3 : ∀ t, aI (rI h 8 t) (k + 2) 14 (nI (N_f N s)) = some (x (6 + N_f N s)) := fun t => by rw [aI_eq (wt t) (k + 2) 14 6 e14' (N_f N s) (by omega) (by decide), hI_rI, if_neg ek.2.2, s2 _ (by omega)]
  have l4 : ∀ t, aI (rI h 8 t) (k + 2) 14 (nI (N_t N s)) = some (x (6 + N_t N s)) := fun t => by rw [aI_eq (wt t) (k + 2) 14 6 e14' (N_t N s) (by omega) (by decide), hI_rI, if_neg ek.2.2, s2 _ (by omega)]
  have mk6 : (SH[k]?).map Prod.fst = some 6 := by rcases hk with rfl | rfl <;> rfl
  have gi : ∀ t, gI (rI h 8 t) k 6 4 = some (x 14) := fun t => by rw [w_gI (wt t) k 6 4 mk6, hI_rI, if_neg ek.1, s5]
  have wi : ∀ t (j : Nat) (y : Int32), j < 7 → wI (rI h 8 t) 8 (nI j) y = some (rI h 8 (va_up t j y)) := fun t j y hj => by rw [wI_eq (wt t) 8 7 rfl j hj (by decide), sI_rI]
  have g36 : ∀ t, gR (rI h 8 t) 3 0 6 = some 8 := fun t => g_3_6 (wt t)
  have g33 : ∀ t, gR (rI h 8 t) 3 0 3 = some 4 := fun t => g_3_3 (wt t)
  have g34 : ∀ t, gR (rI h 8 t) 3 0 4 = some 5 := fun t => g_3_4 (wt t)
  have g35 : ∀ t, gR (rI h 8 t) 3 0 5 = some 6 := fun t => g_3_5 (wt t)
  obtain ⟨t0, et0⟩ : ∃ t0, t0 = hI h 8 := ⟨_, rfl⟩
  have eh : h = rI h 8 t0 := by rw [et0, rI_self]
  obtain ⟨T, eT⟩ : ∃ T, T = va_up (va_up (va_up (va_up (va_up (va_up (va_up t0 0 (x (N_f N s))) 1 (x (N_t N s))) 2 (x (6 + N_f N s))) 3 (x (6 + N_t N s))) 4 (nI s)) 5 (nI (N_k N s))) 6 (x 14 &&& 3) := ⟨_, rfl⟩
  have hT : ∀ j, j < 7 → hI (rI h 8 T) 8 j = askd N x s j := fun j hj => by
    rw [hI_rI, if_pos rfl, eT]
    match j, hj with
    | 0, _ => rfl
    | 1, _ => rfl
    | 2, _ => rfl
    | 3, _ => rfl
    | 4, _ => rfl
    | 5, _ => rfl
    | 6, _ => rfl
  obtain ⟨f, g, ev⟩ := R.2 (rI h 8 T) (askd N x s) w (by have := R.1; rw [hI_rI, if_neg (by omega)]) (by have := R.1; rw [hI_rI, if_neg (by omega)]) hT
  have ckr : ck (rI h 8 T) r 3 = some () := R.1.elim (fun e => by rw [e]; exact k_14 (wt T)) (fun e => by rw [e]; exact k_17 (wt T))
  have w0 := wi t0 0 (x (N_f N s)) (by decide)
  have w1 := wi (va_up t0 0 (x (N_f N s))) 1 (x (N_t N s)) (by decide)
  have w2 := wi (va_up (va_up t0 0 (x (N_f N s))) 1 (x (N_t N s))) 2 (x (6 + N_f N s)) (by decide)
  have w3 := wi (va_up (va_up (va_up t0 0 (x (N_f N s))) 1 (x (N_t N s))) 2 (x (6 + N_f N s))) 3 (x (6 + N_t N s)) (by decide)
  have w4 := wi (va_up (va_up (va_up (va_up t0 0 (x (N_f N s))) 1 (x (N_t N s))) 2 (x (6 + N_f N s))) 3 (x (6 + N_t N s))) 4 (nI s) (by decide)
  have w5 := wi (va_up (va_up (va_up (va_up (va_up t0 0 (x (N_f N s))) 1 (x (N_t N s))) 2 (x (6 + N_f N s))) 3 (x (6 + N_t N s))) 4 (nI s)) 5 (nI (N_k N s)) (by decide)
  have w6 := wi (va_up (va_up (va_up (va_up (va_up (va_up t0 0 (x (N_f N s))) 1 (x (N_t N s))) 2 (x (6 + N_f N s))) 3 (x (6 + N_t N s))) 4 (nI s)) 5 (nI (N_k N s))) 6 (x 14 &&& 3) (by decide)
  rw [← eT] at w6
  have n0 : (0 : Int32) = nI 0 := rfl
  have main : fn_X0_flow h 3 k r (nI s) = if mn (x (N_f N s)) (9 - x (N_t N s)) ≤ 0 then some (0, rI h 8 T) else some (flw N sem x s, rI (rI (rI h 8 T) 16 f) 19 g) := by
    conv => lhs; rw [eh]
    unfold fn_X0_flow
    simp only [gk0, gk1, g33, g34, g35, g36, a4, a5, a6, l1, l2, l3, l4, gi, Option.bind_some]
    show ((wI (rI h 8 t0) 8 (nI 0) (x (N_f N s))).bind _) = _
    rw [w0, Option.bind_some, g36, Option.bind_some]
    show ((wI _ 8 (nI 1) (x (N_t N s))).bind _) = _
    rw [w1, Option.bind_some]
    simp only [gk0, gk1, g33, g34, g35, g36, a4, a5, a6, l1, l2, l3, l4, gi, Option.bind_some]
    show ((wI _ 8 (nI 2) _).bind _) = _
    rw [w2, Option.bind_some]
    simp only [gk0, gk1, g33, g34, g35, g36, a4, a5, a6, l1, l2, l3, l4, gi, Option.bind_some]
    show ((wI _ 8 (nI 3) _).bind _) = _
    rw [w3, Option.bind_some]
    simp only [gk0, gk1, g33, g34, g35, g36, a4, a5, a6, l1, l2, l3, l4, gi, Option.bind_some]
    show ((wI _ 8 (nI 4) _).bind _) = _
    rw [w4, Option.bind_some]
    simp only [gk0, gk1, g33, g34, g35, g36, a4, a5, a6, l1, l2, l3, l4, gi, Option.bind_some]
    show ((wI _ 8 (nI 5) _).bind _) = _
    rw [w5, Option.bind_some]
    simp only [gk0, gk1, g33, g34, g35, g36, a4, a5, a6, l1, l2, l3, l4, gi, Option.bind_some]
    show ((wI _ 8 (nI 6) _).bind _) = _
    rw [w6, Option.bind_some]
    simp only [g36, Option.bind_some, ckr, ev]
    rfl
  rw [main]
  by_cases c : mn (x (N_f N s)) (9 - x (N_t N s)) ≤ 0
  · rw [if_pos c]
    refine ⟨T, hI (rI h 8 T) 16, hI (rI h 8 T) 19, ?_⟩
    have e16 : rI (rI h 8 T) 16 (hI (rI h 8 T) 16) = rI h 8 T := rI_self _ _
    rw [e16, rI_self]
    unfold flw
    rw [mx0_le c]
  · rw [if_neg c]
    exact ⟨T, f, g, rfl⟩
end PassC
