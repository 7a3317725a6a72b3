/-! the reference's hour is the mathematical one -/
def XM (h : aH) (a : Nat) (x : XX) : Prop := ∀ i, i < 16 → hI h a i = x i
def MN (N : Net) (h : aH) : Prop := hI h 86 1 = nI (N_b N) ∧ hI h 86 2 = nI (N_s N) ∧ hI h 86 3 = nI (N_l N) ∧ ∀ i, i < N_s N → hI h 88 i = nI (N_f N i) ∧ hI h 89 i = nI (N_t N i) ∧ hI h 90 i = nI (N_k N i)
def mq (a j : Nat) : Bool := a == 86 && (j == 15 || j == 16)
def mf (a j : Nat) : Bool := (a == 86 && (j == 12 || (j == 13 || (j == 14 || (j == 15 || (j == 16 || j == 21)))))) || a == 96
def mh (k : Nat) (a j : Nat) : Bool := (a == 86 && (j == 12 || (j == 13 || (j == 14 || (j == 15 || (j == 16 || (j == 21 || (j == 27 || j == 28)))))))) || (a == 96 || (a == 100 || a == k))
/-- the reference's rule computes sem -/
def RuleM (h : aH) (q : Nat) (sem : Sem) : Prop := hR h 86 18 = some q ∧ (q = 94 ∨ q = 95) ∧
  ((hI h 86 20 = 0 ∧ ∀ y, sem y = 1 + (if y 0 - y 1 ≤ 4 then 0 else 1)) ∨
   (¬ hI h 86 20 ≤ 0 ∧ ∀ h' y, Wf h' → hI h' q = hI h q → hI h' 86 20 = hI h 86 20 → hI h' 86 21 = 1 → hR h' 86 12 = some q → hI h' 86 13 = hI h 86 20 → hI h' 86 14 = 40 → hI h' 86 15 = 0 → hI h' 86 16 = -1 → (∀ j, j < 7 → hI h' 96 j = y j) →
      ∃ h'', fn_X12_held (fn_X12_thing 60) h' 86 0 = some (sem y, h'') ∧ Fr mq h' h''))
theorem mq_mf (a j : Nat) (e : mf a j = false) : mq a j = false := by
  unfold mf at e
  unfold mq
  simp at e ⊢
  intro h1
  have := e.1 h1
  omega
theorem mf_mh (k a j : Nat) (e : mh k a j = false) : mf a j = false := by
  unfold mh at e
  unfold mf
  simp at e ⊢
  refine ⟨fun h1 => ?_, e.2.1⟩
  have := e.1 h1
  omega
theorem mh_k (k j : Nat) : mh k k j = true := by simp [mh]
theorem MN.to {N : Net} {h h1 : aH} {k : Nat} (hk : k = 87 ∨ k = 99) (f : Fr (mh k) h h1) (c : MN N h) : MN N h1 := by
  obtain ⟨c1, c2, c3, c4⟩ := c
  rcases hk with rfl | rfl
  · refine ⟨(f.i 86 1 rfl).trans c1, (f.i 86 2 rfl).trans c2, (f.i 86 3 rfl).trans c3, fun i hi => ?_⟩
    rw [f.i 88 i rfl, f.i 89 i rfl, f.i 90 i rfl]
    exact c4 i hi
  · refine ⟨(f.i 86 1 rfl).trans c1, (f.i 86 2 rfl).trans c2, (f.i 86 3 rfl).trans c3, fun i hi => ?_⟩
    rw [f.i 88 i rfl, f.i 89 i rfl, f.i 90 i rfl]
    exact c4 i hi
theorem RuleM.to {h h1 : aH} {q k : Nat} {sem : Sem} (hk : k = 87 ∨ k = 99) (f : Fr (mh k) h h1) (c : RuleM h q sem) : RuleM h1 q sem := by
  obtain ⟨c1, c2, c3⟩ := c
  have e20 : hI h1 86 20 = hI h 86 20 := f.i 86 20 (by rcases hk with rfl | rfl <;> rfl)
  have eq : hI h1 q = hI h q := f.row q (fun j => by rcases hk with rfl | rfl <;> rcases c2 with rfl | rfl <;> rfl)
  refine ⟨(f.r 86 18 (Or.inl (by rcases hk with rfl | rfl <;> rfl))).trans c1, c2, ?_⟩
  rcases c3 with ⟨d1, d2⟩ | ⟨d1, d2⟩
  · exact Or.inl ⟨e20.trans d1, d2⟩
  · refine Or.inr ⟨by rw [e20]; exact d1, fun h' y w a1 a2 a3 a4 a5 a6 a7 a8 a9 => ?_⟩
    exact d2 h' y w (a1.trans eq) (a2.trans e20) a3 a4 (a5.trans e20) a6 a7 a8 a9
theorem irm4 {t : Nat} (ht : t < 2 ^ 31) : irm (nI t) 4 = some (nI (t % 4)) := by
  have e4 : (4 : Int32) = nI (2 ^ 2) := by decide
  have := fa_rem (a := t) (k := 2) ht (by decide)
  unfold irm
  rw [if_neg (by decide), e4, this]
theorem and3 (t : Nat) : nI t &&& 3 = nI (t % 4) := fa_mask t 2
section GoM
variable {N : Net} {h : aH} {k s : Nat} {x : XX} {sem : Sem} {q : Nat}
theorem isOpen_eq (hk : k = 87 ∨ k = 99) (w : Wf h) (C : MN N h) (V : NV N) (hs : s < N_s N) (S : XM h k x) : fn_X12_isOpen h 86 k (nI s) = some (b2 (opn N x s), sI h k 12 (onOf N x s)) := by
  obtain ⟨f1, f2, f3, f4⟩ := V.2.2.2 s hs
  have h6 := V.1
  have h8 := V.2.1
  obtain ⟨c4, c5, c6⟩ := C.2.2.2 s hs
  have ek : SH[k]? = some (14, 16) := by rcases hk with rfl | rfl <;> rfl
  have a4 : aI h 88 14 (nI s) = some (nI (N_f N s)) := by rw [aI_eq w 88 14 8 rfl s (by omega) (by decide), c4]
  have a5 : aI h 89 14 (nI s) = some (nI (N_t N s)) := by rw [aI_eq w 89 14 8 rfl s (by omega) (by decide), c5]
  have a6 : aI h 90 14 (nI s) = some (nI (N_k N s)) := by rw [aI_eq w 90 14 8 rfl s (by omega) (by decide), c6]
  have eself : sI h k 12 (x 12) = h := sI_self (S 12 (by decide))
  have l1 : aI h k 14 (nI (N_f N s)) = some (x (N_f N s)) := by rw [aI_eq w k 14 16 ek (N_f N s) (by omega) (by decide), S _ (by omega)]
  have l2 : aI h k 14 (nI (N_t N s)) = some (x (N_t N s)) := by rw [aI_eq w k 14 16 ek (N_t N s) (by omega) (by decide), S _ (by omega)]
  have l3 : aI h k 14 (6 + nI (N_f N s)) = some (x (6 + N_f N s)) := by
    show aI h k 14 (nI 6 + nI (N_f N s)) = _
    rw [nI_add, aI_eq w k 14 16 ek (6 + N_f N s) (by omega) (by decide), S _ (by omega)]
  have hw : ∀ y, Wf (sI h k 12 y) := fun y => w
  have gi : ∀ y, aI (sI h k 12 y) k 14 12 = some y := fun y => by
    have := aI_eq (hw y) k 14 16 ek 12 (by omega) (by decide)
    rw [hI_sI, if_pos ⟨rfl, rfl⟩] at this
    exact this
  have pi : ∀ y z, wI (sI h k 12 y) k 12 z = some (sI h k 12 z) := fun y z => by
    have := wI_eq (hw y) k 16 ek 12 (by omega) (by decide) z
    rw [sI_sI_ne] at this
    exact this
  have gi0 : aI h k 14 12 = some (x 12) := by
    have := aI_eq w k 14 16 ek 12 (by omega) (by decide)
    rw [S 12 (by decide)] at this
    exact this
  have pi0 : ∀ z, wI h k 12 z = some (sI h k 12 z) := fun z => wI_eq w k 16 ek 12 (by omega) (by decide) z
  have eb : (1 : Int32) <<< (nI s &&& 31) = bitI s := rfl
  have k0 : nI (N_k N s) = 0 ↔ N_k N s = 0 := nI_eq (b := 0) (by omega) (by decide)
  have k1 : nI (N_k N s) = 1 ↔ N_k N s = 1 := nI_eq (b := 1) (by omega) (by decide)
  unfold fn_X12_isOpen
  simp only [g_86_4 w, g_86_5 w, g_86_6 w, a4, a5, a6, l1, l2, l3, Option.bind_some, eb]
  by_cases q0 : N_k N s = 0
  · rw [if_pos (k0.mpr q0)]
    have eo : onOf N x s = x 12 := by unfold onOf; rw [if_pos q0]
    rw [eo, eself]
    unfold opn b2
    rw [if_pos q0]
    by_cases c : x (N_f N s) ≤ x (N_t N s)
    · simp [c]
    · simp [c]
  · rw [if_neg (fun q => q0 (k0.mp q))]
    by_cases q1 : N_k N s = 1
    · rw [if_pos (k1.mpr q1)]
      have eo : onOf N x s = x 12 := by unfold onOf; rw [if_neg q0, if_pos q1]
      rw [eo, eself]
      unfold opn b2
      rw [if_neg q0, if_pos q1]
      by_cases c : x (N_f N s) ≤ x (6 + N_f N s)
      · simp [c]
      · simp [c]
    · rw [if_neg (fun q => q1 (k1.mp q))]
      have eo : opn N x s = !decide ((onOf N x s &&& bitI s) = 0) := by unfold opn; rw [if_neg q0, if_neg q1]
      have e2 : onOf N x s = if x (N_f N s) = 0 then (if x (N_f N s) < x (6 + N_f N s) then x 12 else x 12 ||| bitI s) &&& (bitI s ^^^ (-1)) else (if x (N_f N s) < x (6 + N_f N s) then x 12 else x 12 ||| bitI s) := by unfold onOf; rw [if_neg q0, if_neg q1]
      have fin : ∀ y (H : aH), ((fn_X12_has H y (nI s)).bind fun x14 => (bz x14).bind fun x15 => some (x15, H)) = some (b2 (!decide ((y &&& bitI s) = 0)), H) := fun y H => by
        rw [has_eq H y (show s < 31 by omega), Option.bind_some, bz_b2, Option.bind_some]
        congr 3
        rw [isBit_bt y (by omega)]
        cases e : bt y s
        · simp [(bit_and y (show s < 31 by omega)).mpr e]
        · have : ¬ (y &&& bitI s) = 0 := fun q => by rw [(bit_and y (show s < 31 by omega)).mp q] at e; cases e
          simp [this]
      rw [eo]
      by_cases c1 : x (N_f N s) < x (6 + N_f N s)
      · by_cases c2 : x (N_f N s) = 0
        · rw [if_pos c2, if_pos c1] at e2
          simp only [if_pos c1, if_pos c2, Option.bind_some, gi0, pi0, gi]
          rw [e2]
          exact fin _ _
        · rw [if_neg c2, if_pos c1] at e2
          simp only [if_pos c1, if_neg c2, Option.bind_some, gi0]
          rw [e2]
          rw [eself]
          exact fin _ _
      · by_cases c2 : x (N_f N s) = 0
        · rw [if_pos c2, if_neg c1] at e2
          simp only [if_neg c1, if_pos c2, Option.bind_some, gi0, pi0, gi, pi]
          rw [e2]
          exact fin _ _
        · rw [if_neg c2, if_neg c1] at e2
          simp only [if_neg c1, if_neg c2, Option.bind_some, gi0, pi0, gi]
          rw [e2]
          exact fin _ _
theorem pR12 (w : Wf h) (p : Nat) : pR h 86 11 12 p = some (sR h 86 12 (some p)) := by
  unfold pR
  rw [k_86 w]
  rfl
theorem pZ21 (w : Wf h) (b : Bool) : pZ h 86 11 21 (b2 b) = some (sI h 86 21 (b2 b)) := by
  unfold pZ
  rw [k_86 w, Option.bind_some, bz_b2]
  rfl
theorem Wf_sR (w : Wf h) {j : Nat} (e : rx 86 j = true) (p : Option Nat) : Wf (sR h 86 j p) := ((Fr.refl (fun _ _ => true) h).sR p rfl e).wf w
theorem begin_eq (w : Wf h) (p : Nat) (n m : Int32) : fn_X12_begin h 86 p n m = some (sI (sI (sI (sI (sR h 86 12 (some p)) 86 13 n) 86 14 m) 86 15 0) 86 16 (-1)) := by
  have w1 : Wf (sR h 86 12 (some p)) := Wf_sR w rfl _
  have w2 : Wf (sI (sR h 86 12 (some p)) 86 13 n) := w1
  have w3 : Wf (sI (sI (sR h 86 12 (some p)) 86 13 n) 86 14 m) := w1
  have w4 : Wf (sI (sI (sI (sR h 86 12 (some p)) 86 13 n) 86 14 m) 86 15 0) := w1
  unfold fn_X12_begin
  simp only [pR12 w, Option.bind_some, w_pI w1 86 11 13 _ rfl, w_pI w2 86 11 14 _ rfl, w_pI w3 86 11 15 _ rfl, w_pI w4 86 11 16 _ rfl]
set_option maxHeartbeats 1000000 in
theorem flowOf_eq (hk : k = 87 ∨ k = 99) (w : Wf h) (C : MN N h) (V : NV N) (hs : s < N_s N) (S : XM h k x) {B : Nat} (v : VS N B x) (hB : B < 2 ^ 31) (R : RuleM h q sem) : ∃ h', fn_X12_flowOf h 86 k (nI s) = some (flw N sem x s, h') ∧ Fr mf h h' := by
  obtain ⟨f1, f2, f3, f4⟩ := V.2.2.2 s hs
  have h6 := V.1
  have h8 := V.2.1
  obtain ⟨c4, c5, c6⟩ := C.2.2.2 s hs
  obtain ⟨R1, R2, R3⟩ := R
  have wt : ∀ t, Wf (rI h 96 t) := fun t => w
  have ek : SH[k]? = some (14, 16) := by rcases hk with rfl | rfl <;> rfl
  have nk : k ≠ 96 := by omega
  have a4 : ∀ t, aI (rI h 96 t) 88 14 (nI s) = some (nI (N_f N s)) := fun t => by rw [aI_eq (wt t) 88 14 8 rfl s (by omega) (by decide), hI_rI, if_neg (by decide), c4]
  have a5 : ∀ t, aI (rI h 96 t) 89 14 (nI s) = some (nI (N_t N s)) := fun t => by rw [aI_eq (wt t) 89 14 8 rfl s (by omega) (by decide), hI_rI, if_neg (by decide), c5]
  have a6 : ∀ t, aI (rI h 96 t) 90 14 (nI s) = some (nI (N_k N s)) := fun t => by rw [aI_eq (wt t) 90 14 8 rfl s (by omega) (by decide), hI_rI, if_neg (by decide), c6]
  have l1 : ∀ t, aI (rI h 96 t) k 14 (nI (N_f N s)) = some (x (N_f N s)) := fun t => by rw [aI_eq (wt t) k 14 16 ek (N_f N s) (by omega) (by decide), hI_rI, if_neg nk, S _ (by omega)]
  have l2 : ∀ t, aI (rI h 96 t) k 14 (nI (N_t N s)) = some (x (N_t N s)) := fun t => by rw [aI_eq (wt t) k 14 16 ek (N_t N s) (by omega) (by decide), hI_rI, if_neg nk, S _ (by omega)]
  have l3 : ∀ t, aI (rI h 96 t) k 14 (6 + nI (N_f N s)) = some (x (6 + N_f N s)) := fun t => by
    show aI _ k 14 (nI 6 + nI (N_f N s)) = _
    rw [nI_add, aI_eq (wt t) k 14 16 ek (6 + N_f N s) (by omega) (by decide), hI_rI, if_neg nk, S _ (by omega)]
  have l4 : ∀ t, aI (rI h 96 t) k 14 (6 + nI (N_t N s)) = some (x (6 + N_t N s)) := fun t => by
    show aI _ k 14 (nI 6 + nI (N_t N s)) = _
    rw [nI_add, aI_eq (wt t) k 14 16 ek (6 + N_t N s) (by omega) (by decide), hI_rI, if_neg nk, S _ (by omega)]
  have gi : ∀ t, aI (rI h 96 t) k 14 14 = some (x 14) := fun t => by
    have := aI_eq (wt t) k 14 16 ek 14 (by omega) (by decide)
    rw [hI_rI, if_neg nk, S 14 (by decide)] at this
    exact this
  obtain ⟨tt, ht, et⟩ := v.2.2.2.2.1
  have gr : irm (x 14) 4 = some (x 14 &&& 3) := by rw [et, irm4 (by omega), and3]
  have wi : ∀ t (j : Nat) (y : Int32), j < 7 → wI (rI h 96 t) 96 (nI j) y = some (rI h 96 (va_up t j y)) := fun t j y hj => by rw [wI_eq (wt t) 96 7 rfl j hj (by decide), sI_rI]
  have g22 : ∀ t, gR (rI h 96 t) 86 11 22 = some 96 := fun t => g_86_22 (wt t)
  have g84 : ∀ t, gR (rI h 96 t) 86 11 4 = some 88 := fun t => g_86_4 (wt t)
  have g85 : ∀ t, gR (rI h 96 t) 86 11 5 = some 89 := fun t => g_86_5 (wt t)
  have g86' : ∀ t, gR (rI h 96 t) 86 11 6 = some 90 := fun t => g_86_6 (wt t)
  have g18 : ∀ t, gR (rI h 96 t) 86 11 18 = some q := fun t => by
    unfold gR
    rw [k_86 (wt t), Option.bind_some]
    exact R1
  have g20 : ∀ t, gI (rI h 96 t) 86 11 20 = some (hI h 86 20) := fun t => by rw [w_gI (wt t) 86 11 20 rfl]; rfl
  obtain ⟨t0, et0⟩ : ∃ t0, t0 = hI h 96 := ⟨_, rfl⟩
  have eh : h = rI h 96 t0 := by rw [et0, rI_self]
  have front : fn_X12_flowOf h 86 k (nI s) = fn_X12_flowOf (rI h 96 t0) 86 k (nI s) := by rw [← eh]
  rw [front]
  unfold fn_X12_flowOf
  simp only [g84, g85, a4, a5, l1, l2, Option.bind_some, g20]
  have ift : (if x (N_f N s) - x (N_t N s) ≤ 4 then some (0 : Int32) else some 1) = some (if x (N_f N s) - x (N_t N s) ≤ 4 then 0 else 1) := by split <;> rfl
  rw [ift, Option.bind_some]
  rcases R3 with ⟨d1, d2⟩ | ⟨d1, d2⟩
  · rw [d1, if_pos (by decide), Option.bind_some]
    refine ⟨h, ?_, Fr.refl _ _⟩
    rw [← eh]
    unfold flw
    rw [d2]
    rfl
  · rw [if_neg d1]
    obtain ⟨T, eT⟩ : ∃ T, T = va_up (va_up (va_up (va_up (va_up (va_up (va_up t0 0 (x (N_f N s))) 1 (x (N_t N s))) 2 (x (6 + N_f N s))) 3 (x (6 + N_t N s))) 4 (nI s)) 5 (nI (N_k N s))) 6 (x 14 &&& 3) := ⟨_, rfl⟩
    have w0 := wi t0 0 (x (N_f N s)) (by decide)
    have w1 := wi (va_up t0 0 (x (N_f N s))) 1 (x (N_t N s)) (by decide)
    have w2 := wi (va_up (va_up t0 0 (x (N_f N s))) 1 (x (N_t N s))) 2 (x (6 + N_f N s)) (by decide)
    have w3 := wi (va_up (va_up (va_up t0 0 (x (N_f N s))) 1 (x (N_t N s))) 2 (x (6 + N_f N s))) 3 (x (6 + N_t N s)) (by decide)
    have w4 := wi (va_up (va_up (va_up (va_up t0 0 (x (N_f N s))) 1 (x (N_t N s))) 2 (x (6 + N_f N s))) 3 (x (6 + N_t N s))) 4 (nI s) (by decide)
    have w5 := wi (va_up (va_up (va_up (va_up (va_up t0 0 (x (N_f N s))) 1 (x (N_t N s))) 2 (x (6 + N_f N s))) 3 (x (6 + N_t N s))) 4 (nI s)) 5 (nI (N_k N s)) (by decide)
    have w6 := wi (va_up (va_up (va_up (va_up (va_up (va_up t0 0 (x (N_f N s))) 1 (x (N_t N s))) 2 (x (6 + N_f N s))) 3 (x (6 + N_t N s))) 4 (nI s)) 5 (nI (N_k N s))) 6 (x 14 &&& 3) (by decide)
    rw [← eT] at w6
    obtain ⟨G, eG⟩ : ∃ G, G = sI (sI (sI (sI (sR (rI h 96 T) 86 12 (some q)) 86 13 (hI h 86 20)) 86 14 40) 86 15 0) 86 16 (-1) := ⟨_, rfl⟩
    have bg : fn_X12_begin (rI h 96 T) 86 q (hI h 86 20) 40 = some G := by rw [begin_eq (wt T), eG]
    have wG : Wf G := by rw [eG]; exact Wf_sR (h := rI h 96 T) w rfl _
    have FG : Fr mf h G := by
      rw [eG]
      exact ((((((Fr.refl mf h).rI T (fun _ => rfl)).sR (some q) rfl rfl).sI _ rfl).sI _ rfl).sI _ rfl).sI _ rfl
    obtain ⟨G2, eG2⟩ : ∃ G2, G2 = sI G 86 21 1 := ⟨_, rfl⟩
    have wG2 : Wf G2 := by rw [eG2]; exact wG
    have pz : pZ G 86 11 21 1 = some G2 := by rw [eG2]; exact pZ21 wG true
    have FG2 : Fr mf h G2 := by rw [eG2]; exact FG.sI _ rfl
    have rowG : ∀ a, a ≠ 86 → hI G2 a = hI (rI h 96 T) a := fun a ha => by
      rw [eG2, hI_sI_r, if_neg ha, eG, hI_sI_r, if_neg ha, hI_sI_r, if_neg ha, hI_sI_r, if_neg ha, hI_sI_r, if_neg ha]; rfl
    obtain ⟨h'', ev, Fq⟩ := d2 G2 (askd N x s) wG2 (by rw [rowG q (by omega), hI_rI, if_neg (by omega)]) (by rw [eG2, eG]; simp [hI_sI]; rfl) (by rw [eG2]; simp [hI_sI]) (by rw [eG2, eG]; simp [hR_sI, hR_sR]) (by rw [eG2, eG]; simp [hI_sI]) (by rw [eG2, eG]; simp [hI_sI]) (by rw [eG2, eG]; simp [hI_sI]) (by rw [eG2, eG]; simp [hI_sI])
      (fun j hj => by
        rw [rowG 96 (by decide), hI_rI, if_pos rfl, eT]
        match j, hj with
        | 0, _ => rfl
        | 1, _ => rfl
        | 2, _ => rfl
        | 3, _ => rfl
        | 4, _ => rfl
        | 5, _ => rfl
        | 6, _ => rfl)
    have w'' := Fq.wf wG2
    have F'' : Fr mf h h'' := FG2.trans (Fq.mono mq_mf)
    refine ⟨sI h'' 86 21 0, ?_, F''.sI _ rfl⟩
    have step : ((gR (rI h 96 t0) 86 11 22).bind fun a11 =>
      (wI (rI h 96 t0) a11 0 (x (N_f N s))).bind fun h12 =>
      (gR h12 86 11 22).bind fun a13 =>
      (wI h12 a13 1 (x (N_t N s))).bind fun h14 =>
      (gR h14 86 11 22).bind fun a15 =>
      (gR h14 86 11 4).bind fun a16 =>
      (aI h14 a16 14 (nI s)).bind fun x17 =>
      (aI h14 k 14 (6 + x17)).bind fun x18 =>
      (wI h14 a15 2 x18).bind fun h19 =>
      (gR h19 86 11 22).bind fun a20 =>
      (gR h19 86 11 5).bind fun a21 =>
      (aI h19 a21 14 (nI s)).bind fun x22 =>
      (aI h19 k 14 (6 + x22)).bind fun x23 =>
      (wI h19 a20 3 x23).bind fun h24 =>
      (gR h24 86 11 22).bind fun a25 =>
      (wI h24 a25 4 (nI s)).bind fun h26 =>
      (gR h26 86 11 22).bind fun a27 =>
      (gR h26 86 11 6).bind fun a28 =>
      (aI h26 a28 14 (nI s)).bind fun x29 =>
      (wI h26 a27 5 x29).bind fun h30 =>
      (gR h30 86 11 22).bind fun a31 =>
      (aI h30 k 14 14).bind fun x32 =>
      (irm x32 4).bind fun x33 =>
      (wI h30 a31 6 x33)) = some (rI h 96 T) := by
      simp only [g22, Option.bind_some]
      show ((wI (rI h 96 t0) 96 (nI 0) (x (N_f N s))).bind _) = _
      rw [w0, Option.bind_some, g22, Option.bind_some]
      show ((wI _ 96 (nI 1) (x (N_t N s))).bind _) = _
      rw [w1, Option.bind_some]
      simp only [g22, g84, g85, g86', a4, a5, a6, l1, l2, l3, l4, gi, gr, Option.bind_some]
      show ((wI _ 96 (nI 2) _).bind _) = _
      rw [w2, Option.bind_some]
      simp only [g22, g84, g85, g86', a4, a5, a6, l1, l2, l3, l4, gi, gr, Option.bind_some]
      show ((wI _ 96 (nI 3) _).bind _) = _
      rw [w3, Option.bind_some]
      simp only [g22, g84, g85, g86', a4, a5, a6, l1, l2, l3, l4, gi, gr, Option.bind_some]
      show ((wI _ 96 (nI 4) _).bind _) = _
      rw [w4, Option.bind_some]
      simp only [g22, g84, g85, g86', a4, a5, a6, l1, l2, l3, l4, gi, gr, Option.bind_some]
      show ((wI _ 96 (nI 5) _).bind _) = _
      rw [w5, Option.bind_some]
      simp only [g22, g84, g85, g86', a4, a5, a6, l1, l2, l3, l4, gi, gr, Option.bind_some]
      exact w6
    have glue : ∀ {β : Type} (F : aH → Option β), ((gR (rI h 96 t0) 86 11 22).bind fun a11 =>
      (wI (rI h 96 t0) a11 0 (x (N_f N s))).bind fun h12 =>
      (gR h12 86 11 22).bind fun a13 =>
      (wI h12 a13 1 (x (N_t N s))).bind fun h14 =>
      (gR h14 86 11 22).bind fun a15 =>
      (gR h14 86 11 4).bind fun a16 =>
      (aI h14 a16 14 (nI s)).bind fun x17 =>
      (aI h14 k 14 (6 + x17)).bind fun x18 =>
      (wI h14 a15 2 x18).bind fun h19 =>
      (gR h19 86 11 22).bind fun a20 =>
      (gR h19 86 11 5).bind fun a21 =>
      (aI h19 a21 14 (nI s)).bind fun x22 =>
      (aI h19 k 14 (6 + x22)).bind fun x23 =>
      (wI h19 a20 3 x23).bind fun h24 =>
      (gR h24 86 11 22).bind fun a25 =>
      (wI h24 a25 4 (nI s)).bind fun h26 =>
      (gR h26 86 11 22).bind fun a27 =>
      (gR h26 86 11 6).bind fun a28 =>
      (aI h26 a28 14 (nI s)).bind fun x29 =>
      (wI h26 a27 5 x29).bind fun h30 =>
      (gR h30 86 11 22).bind fun a31 =>
      (aI h30 k 14 14).bind fun x32 =>
      (irm x32 4).bind fun x33 =>
      (wI h30 a31 6 x33).bind F) = F (rI h 96 T) := fun F => by
      have := congrArg (fun o => Option.bind o F) step
      simpa only [Option.bind_assoc, Option.bind_some] using this
    rw [glue]
    simp only [g18, g20, k_86 (wt T), Option.bind_some, bg, pz, k_86 wG2, ev, show pZ h'' 86 11 21 0 = some (sI h'' 86 21 0) from pZ21 w'' false]
    rfl
end GoM
