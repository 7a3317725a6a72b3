/-! how many sluices it is from one basin to another -/
def anyB : Nat → (Nat → Bool) → Bool
  | 0, _ => false
  | n + 1, p => anyB n p || p n
theorem anyB_iff {p : Nat → Bool} : ∀ n, anyB n p = true ↔ ∃ s, s < n ∧ p s = true
  | 0 => ⟨fun h => absurd h (by simp [anyB]), fun ⟨s, h, _⟩ => absurd h (Nat.not_lt_zero _)⟩
  | n + 1 => by
    show (anyB n p || p n) = true ↔ _
    rw [Bool.or_eq_true, anyB_iff n]
    constructor
    · rintro (⟨s, hs, e⟩ | e)
      · exact ⟨s, by omega, e⟩
      · exact ⟨n, by omega, e⟩
    · rintro ⟨s, hs, e⟩
      by_cases hh : s = n
      · subst hh; exact Or.inr e
      · exact Or.inl ⟨s, by omega, e⟩
section DST
variable {N : Net} {sem : Sem} {x : XX} {l : List Int64} {C M : aH} {u : Int32} {T m i s : Nat}
def wkS (N : Net) (u : Int32) (a : Nat → Bool) : Nat → Bool := fun i => a i || anyB (N_s N) (fun s => !isBit u s && (N_f N s == i && a (N_t N s)))
def wk (N : Net) (u : Int32) (T m : Nat) : Nat → Bool := itr (wkS N u) m (fun i => i == T)
theorem wk_up (h : wk N u T m i = true) : wk N u T (m + 1) i = true := by
  show (wk N u T m i || _) = true
  rw [h]; rfl
theorem wk_mono {q : Nat} (hq : m ≤ q) (h : wk N u T m i = true) : wk N u T q i = true := by
  obtain ⟨d, rfl⟩ : ∃ d, q = m + d := ⟨q - m, by omega⟩
  clear hq
  induction d with
  | zero => exact h
  | succ d ih => exact wk_up ih
theorem wk_go (hs : s < N_s N) (ho : isBit u s = false) (h : wk N u T m (N_t N s) = true) : wk N u T (m + 1) (N_f N s) = true := by
  show (wk N u T m (N_f N s) || anyB (N_s N) (fun s' => !isBit u s' && (N_f N s' == N_f N s && wk N u T m (N_t N s')))) = true
  rw [Bool.or_eq_true]
  right
  rw [anyB_iff]
  refine ⟨s, hs, ?_⟩
  simp [ho, h]
theorem wk_inv (h : wk N u T (m + 1) i = true) : wk N u T m i = true ∨ ∃ s, s < N_s N ∧ isBit u s = false ∧ N_f N s = i ∧ wk N u T m (N_t N s) = true := by
  have h' : (wk N u T m i || anyB (N_s N) (fun s' => !isBit u s' && (N_f N s' == i && wk N u T m (N_t N s')))) = true := h
  rw [Bool.or_eq_true, anyB_iff] at h'
  rcases h' with e | ⟨s, hs, e⟩
  · exact Or.inl e
  · simp at e
    exact Or.inr ⟨s, hs, e.1, e.2.1, e.2.2⟩
theorem wk_0 : wk N u T 0 i = true ↔ i = T := by
  show (i == T) = true ↔ _
  exact beq_iff_eq
theorem wk_top (V : NV N) (hT : T < N_b N) (h : wk N u T m i = true) : wk N u T (N_b N - 1) i = true := by
  rcases Nat.lt_or_ge m (N_b N - 1) with hm | hm
  · exact wk_mono (by omega) h
  · have e := itr_stab (wkS N u) (fun a => cntB (N_b N) a) (fun a => ∀ i, N_b N ≤ i → a i = false) ?_ ?_ (N_b N) (fun a _ => cntB_le _ _) (fun i => i == T) (fun i hi => ?_) (cntB_pos (i := T) (by simp) _ hT) m (by omega)
    · have e' : wk N u T m = wk N u T (N_b N - 1) := e
      rw [← e']; exact h
    · intro a ha i hi
      show (a i || anyB (N_s N) (fun s => !isBit u s && (N_f N s == i && a (N_t N s)))) = false
      rw [ha i hi, Bool.false_or]
      cases q : anyB (N_s N) (fun s => !isBit u s && (N_f N s == i && a (N_t N s)))
      · rfl
      · obtain ⟨s, hs, e⟩ := (anyB_iff _).mp q
        simp at e
        have := (V.2.2.2 s hs).1
        omega
    · intro a ha
      rcases cntB_lt (a := a) (b := wkS N u a) (N_b N) (fun i _ e => by show (a i || _) = true; rw [e]; rfl) with ⟨e, -⟩ | e
      · left
        funext i
        rcases Nat.lt_or_ge i (N_b N) with hi | hi
        · exact e i hi
        · rw [ha i hi]
          show (a i || anyB (N_s N) (fun s => !isBit u s && (N_f N s == i && a (N_t N s)))) = false
          rw [ha i hi, Bool.false_or]
          cases q : anyB (N_s N) (fun s => !isBit u s && (N_f N s == i && a (N_t N s)))
          · rfl
          · obtain ⟨s, hs, e⟩ := (anyB_iff _).mp q
            simp at e
            have := (V.2.2.2 s hs).1
            omega
      · exact Or.inr e
    · simp; omega
/-- distances as they are found -/
def dsS (N : Net) (u : Int32) (s : Nat) (D : Nat → Nat) : Nat → Nat := if isBit u s = true then D else va_up D (N_f N s) (min (D (N_f N s)) (D (N_t N s) + 1))
def dsR (N : Net) (u : Int32) : Nat → (Nat → Nat) → Nat → Nat
  | 0, D => D
  | n + 1, D => dsS N u n (dsR N u n D)
def ds0 (K T : Nat) : Nat → Nat := fun i => if i = T then 0 else K
def DI (N : Net) (u : Int32) (T K n : Nat) (D : Nat → Nat) : Prop := (∀ i, D i ≤ K) ∧ (∀ i, D i < K → wk N u T (D i) i = true) ∧ ∀ m i, m ≤ n → wk N u T m i = true → D i ≤ m
def FD (N : Net) (u : Int32) (T K : Nat) (D : Nat → Nat) : Prop := (∀ i, D i ≤ K) ∧ (∀ i, D i < K → wk N u T (D i) i = true) ∧ ∀ m i, wk N u T m i = true → D i ≤ m
theorem DI.zero (K : Nat) : DI N u T K 0 (ds0 K T) := by
  refine ⟨fun i => ?_, fun i h => ?_, fun m i hm h => ?_⟩
  · unfold ds0; split <;> omega
  · unfold ds0 at h ⊢
    by_cases e : i = T
    · rw [if_pos e]; exact wk_0.mpr e
    · rw [if_neg e] at h; omega
  · obtain rfl : m = 0 := by omega
    unfold ds0
    rw [if_pos (wk_0.mp h)]; exact Nat.le_refl _
theorem dsS_le (D : Nat → Nat) : dsS N u s D i ≤ D i := by
  unfold dsS
  split
  · exact Nat.le_refl _
  · unfold va_up
    split
    · rename_i e; rw [e]; exact Nat.min_le_left _ _
    · exact Nat.le_refl _
theorem DI.step {K n : Nat} {D : Nat → Nat} (hs : s < N_s N) (d : DI N u T K n D) : DI N u T K n (dsS N u s D) := by
  obtain ⟨d1, d2, d3⟩ := d
  refine ⟨fun i => Nat.le_trans (dsS_le D) (d1 i), fun i h => ?_, fun m i hm h => Nat.le_trans (dsS_le D) (d3 m i hm h)⟩
  unfold dsS at h ⊢
  cases e : isBit u s
  · rw [e, if_neg (by decide)] at h
    rw [if_neg (by decide)]
    unfold va_up at h ⊢
    by_cases e2 : i = N_f N s
    · rw [if_pos e2] at h ⊢
      rcases Nat.le_total (D (N_f N s)) (D (N_t N s) + 1) with q | q
      · rw [Nat.min_eq_left q] at h ⊢
        rw [e2]; exact d2 _ h
      · rw [Nat.min_eq_right q] at h ⊢
        rw [e2]
        exact wk_go hs e (d2 _ (by omega))
    · rw [if_neg e2] at h ⊢
      exact d2 i h
  · rw [e, if_pos rfl] at h
    rw [if_pos rfl]
    exact d2 i h
theorem DI.round {K n : Nat} {D : Nat → Nat} (d : DI N u T K n D) : ∀ k, k ≤ N_s N → DI N u T K n (dsR N u k D) ∧ ∀ s, s < k → isBit u s = false → wk N u T n (N_t N s) = true → dsR N u k D (N_f N s) ≤ n + 1
  | 0, _ => ⟨d, fun s h => absurd h (Nat.not_lt_zero _)⟩
  | k + 1, hk => by
    obtain ⟨q1, q2⟩ := DI.round d k (by omega)
    refine ⟨DI.step (by omega) q1, fun s hs e h => ?_⟩
    show dsS N u k (dsR N u k D) (N_f N s) ≤ n + 1
    by_cases hh : s = k
    · subst hh
      unfold dsS
      rw [e, if_neg (by decide)]
      unfold va_up
      rw [if_pos rfl]
      have := q1.2.2 n _ (Nat.le_refl _) h
      omega
    · exact Nat.le_trans (dsS_le _) (q2 s (by omega) e h)
theorem DI.next {K n : Nat} {D : Nat → Nat} (d : DI N u T K n D) : DI N u T K (n + 1) (dsR N u (N_s N) D) := by
  obtain ⟨⟨q1, q2, q3⟩, q4⟩ := d.round (N_s N) (Nat.le_refl _)
  refine ⟨q1, q2, fun m i hm h => ?_⟩
  by_cases e : m = n + 1
  · subst e
    rcases wk_inv h with h1 | ⟨s, hs, ho, rfl, h1⟩
    · have := q3 n i (Nat.le_refl _) h1
      omega
    · exact q4 s hs ho h1
  · exact q3 m i (by omega) h
theorem DI.fin {K n : Nat} {D : Nat → Nat} (V : NV N) (hT : T < N_b N) (hn : N_b N ≤ n + 1) (d : DI N u T K n D) : FD N u T K D := by
  refine ⟨d.1, d.2.1, fun m i h => ?_⟩
  rcases Nat.lt_or_ge n m with e | e
  · have := d.2.2 (N_b N - 1) i (by omega) (wk_top V hT h)
    omega
  · exact d.2.2 m i e h
theorem FD.five {K : Nat} {D : Nat → Nat} (V : NV N) (hT : T < N_b N) (d : FD N u T K D) (h : D i < K) : D i ≤ 5 := by
  have h6 := V.1
  have := d.2.2 _ i (wk_top V hT (d.2.1 i h))
  omega
theorem FD.two {K : Nat} {D E : Nat → Nat} (V : NV N) (hT : T < N_b N) (hK : 1000 ≤ K) (d : FD N u T 1000 D) (e : FD N u T K E) (i : Nat) : (D i ≤ 5 ∧ E i = D i) ∨ (D i = 1000 ∧ E i = K) := by
  have a := d.1 i
  have b := e.1 i
  rcases Nat.lt_or_ge (D i) 1000 with h | h
  · have h1 := e.2.2 _ i (d.2.1 i h)
    have h5 := d.five V hT h
    have h2 := d.2.2 _ i (e.2.1 i (by omega))
    exact Or.inl ⟨h5, by omega⟩
  · rcases Nat.lt_or_ge (E i) K with h' | h'
    · have := d.2.2 _ i (wk_top V hT (e.2.1 i h'))
      have := V.1
      omega
    · exact Or.inr ⟨by omega, by omega⟩
/-- to one place nearer -/
theorem FD.ahead {K : Nat} {D : Nat → Nat} (d : FD N u T K D) (h : D i < K) (h0 : 0 < D i) : ∃ s, s < N_s N ∧ isBit u s = false ∧ N_f N s = i ∧ D (N_t N s) + 1 = D i := by
  obtain ⟨m, hm⟩ : ∃ m, D i = m + 1 := ⟨D i - 1, by omega⟩
  have e := d.2.1 i h
  rw [hm] at e
  rcases wk_inv e with h1 | ⟨s, hs, ho, hf, h1⟩
  · have := d.2.2 _ _ h1
    omega
  · refine ⟨s, hs, ho, hf, ?_⟩
    have a := d.2.2 _ _ h1
    have b := d.2.2 _ _ (wk_go hs ho (d.2.1 _ (show D (N_t N s) < K by omega)))
    rw [hf] at b
    omega
theorem FD.near {K : Nat} {D : Nat → Nat} (d : FD N u T K D) (hs : s < N_s N) (ho : isBit u s = false) : D (N_f N s) ≤ D (N_t N s) + 1 := by
  rcases Nat.lt_or_ge (D (N_t N s)) K with h | h
  · exact d.2.2 _ _ (wk_go hs ho (d.2.1 _ h))
  · have := d.1 (N_f N s)
    omega
theorem FD.zero {K : Nat} {D : Nat → Nat} (d : FD N u T K D) (hK : 0 < K) : D i = 0 ↔ i = T := by
  constructor
  · intro e
    have := d.2.1 i (by omega)
    rw [e] at this
    exact wk_0.mp this
  · rintro rfl
    have := d.2.2 0 i (wk_0.mpr rfl)
    omega
def tenC (a j : Nat) : Bool := a == 10
theorem tenC_sc (a j : Nat) (e : sc a j = false) : tenC a j = false := by
  unfold sc at e
  unfold tenC
  simp at e ⊢
  omega
def tenM (a j : Nat) : Bool := a == 109
theorem tenM_sm (a j : Nat) (e : sm a j = false) : tenM a j = false := by
  unfold sm at e
  unfold tenM
  simp at e ⊢
  omega
theorem hI_row (h : aH) (a j : Nat) (v : Int32) (i : Nat) : hI (sI h a j v) a i = if i = j then v else hI h a i := by
  rw [hI_sI_r, if_pos rfl]; rfl
theorem measureC (w : CW N sem x C) (V : NV N) (u : Int32) (hT : T < N_b N) : ∃ C' D, fn_X10_measure C 9 (nI T) u = some C' ∧ Fr tenC C C' ∧ FD N u T 1000 D ∧ ∀ i, i < 6 → hI C' 10 i = nI (D i) := by
  have h6 := V.1
  have h8 := V.2.1
  obtain ⟨C1, e1, F1, R1⟩ : ∃ C1, lp (lb_X10_measure_2 9 (nI T) u) lpN (0, C) = some C1 ∧ Fr tenC C C1 ∧ ∀ i, i < 6 → hI C1 10 i = nI (ds0 1000 T i) := by
    refine lp_inv (fun k (s : Int32 × aH) => s.1 = nI k ∧ Fr tenC C s.2 ∧ ∀ i, i < k → hI s.2 10 i = nI (ds0 1000 T i)) (fun C1 => Fr tenC C C1 ∧ ∀ i, i < 6 → hI C1 10 i = nI (ds0 1000 T i)) 6 (by decide) ?_ ?_ ⟨rfl, Fr.refl _ _, fun i h => absurd h (Nat.not_lt_zero _)⟩
    · rintro k ⟨s1, h⟩ hk ⟨rfl, F, R⟩
      dsimp only at F R
      have wf := F.wf w.1
      refine Or.inl ⟨(nI (k + 1), sI h 10 k (nI (ds0 1000 T k))), ?_, rfl, F.sI _ rfl, fun i hi => ?_⟩
      · unfold lb_X10_measure_2
        have et : (if nI k = nI T then some (0 : Int32) else some 1000) = some (nI (ds0 1000 T k)) := by
          unfold ds0
          by_cases q : k = T
          · rw [q, if_pos rfl, if_pos rfl]; rfl
          · rw [if_neg (nI_ne (by omega) (by omega) q), if_neg q]; rfl
        simp only [if_pos (show nI k < 6 from nI_lt (b := 6) hk (by decide)), g_9_1 wf, Option.bind_some, et, wI_eq wf 10 6 rfl k hk (by decide), nI_1]
      · rw [hI_row]
        by_cases q : i = k
        · rw [if_pos q, q]
        · rw [if_neg q]; exact R i (by omega)
    · rintro ⟨s1, h⟩ ⟨rfl, F, R⟩
      refine ⟨h, ?_, F, R⟩
      unfold lb_X10_measure_2
      rw [if_neg (show ¬ nI 6 < 6 by decide)]
  obtain ⟨C2, e2, F2, D, d, R2⟩ : ∃ C2, lp (lb_X10_measure_34 9 u) lpN (0, C1) = some C2 ∧ Fr tenC C C2 ∧ ∃ D, DI N u T 1000 6 D ∧ ∀ i, i < 6 → hI C2 10 i = nI (D i) := by
    refine lp_inv (fun k (s : Int32 × aH) => s.1 = nI k ∧ Fr tenC C s.2 ∧ ∃ D, DI N u T 1000 k D ∧ ∀ i, i < 6 → hI s.2 10 i = nI (D i)) (fun C1 => Fr tenC C C1 ∧ ∃ D, DI N u T 1000 6 D ∧ ∀ i, i < 6 → hI C1 10 i = nI (D i)) 6 (by decide) ?_ ?_ ⟨rfl, F1, ds0 1000 T, DI.zero 1000, R1⟩
    · rintro k ⟨s1, h⟩ hk ⟨rfl, F, D, d, R⟩
      dsimp only at F R
      obtain ⟨h', e', F', R'⟩ : ∃ h', lp (lb_X10_measure_43 9 u (nI k)) lpN (0, h) = some h' ∧ Fr tenC C h' ∧ ∀ i, i < 6 → hI h' 10 i = nI (dsR N u (N_s N) D i) := by
        refine lp_inv (fun q (s : Int32 × aH) => s.1 = nI q ∧ Fr tenC C s.2 ∧ ∀ i, i < 6 → hI s.2 10 i = nI (dsR N u q D i)) (fun h' => Fr tenC C h' ∧ ∀ i, i < 6 → hI h' 10 i = nI (dsR N u (N_s N) D i)) (N_s N) (by omega) ?_ ?_ ⟨rfl, F, R⟩
        · rintro q ⟨s1, g⟩ hq ⟨rfl, G, S⟩
          dsimp only at G S
          left
          have cw := w.to (G.mono tenC_sc)
          have wf := cw.1
          have cn := cw.2.1
          obtain ⟨f1, f2, -, -⟩ := V.2.2.2 q hq
          have dq := (d.round q (by omega)).1
          have b1 := dq.1 (N_f N q)
          have b3 := dq.1 (N_t N q)
          have go : ∀ g', lb_X10_measure_43 9 u (nI k) (nI q, g) = some (.inl (nI (q + 1), g')) → Fr tenC C g' → (∀ i, i < 6 → hI g' 10 i = nI (dsS N u q (dsR N u q D) i)) → ∃ s', lb_X10_measure_43 9 u (nI k) (nI q, g) = some (.inl s') ∧ s'.1 = nI (q + 1) ∧ Fr tenC C s'.2 ∧ ∀ i, i < 6 → hI s'.2 10 i = nI (dsR N u (q + 1) D i) := fun g' a b c => ⟨_, a, rfl, b, c⟩
          cases e : isBit u q
          · have e' : dsS N u q (dsR N u q D) = va_up (dsR N u q D) (N_f N q) (min (dsR N u q D (N_f N q)) (dsR N u q D (N_t N q) + 1)) := by unfold dsS; rw [e, if_neg (by decide)]
            by_cases lt : dsR N u q D (N_t N q) + 1 < dsR N u q D (N_f N q)
            · refine go (sI g 10 (N_f N q) (nI (dsR N u q D (N_t N q) + 1))) ?_ (G.sI _ rfl) (fun i hi => ?_)
              · unfold lb_X10_measure_43
                simp only [g_9_0 wf, g_9_1 wf, w_gI wf 3 0 1 rfl, cn.2.1, Option.bind_some, if_pos (nI_lt hq (show N_s N < 2 ^ 31 by omega)), g_3_4 wf, g_3_3 wf, aI_eq wf 5 14 8 rfl q (by omega) (by decide), aI_eq wf 4 14 8 rfl q (by omega) (by decide), (cn.2.2.2 q hq).1, (cn.2.2.2 q hq).2.1, aI_eq wf 10 14 6 rfl (N_t N q) (by omega) (by decide), aI_eq wf 10 14 6 rfl (N_f N q) (by omega) (by decide), S _ (show N_t N q < 6 by omega), S _ (show N_f N q < 6 by omega), openC_eq, e, nI_1]
                rw [if_neg (show ¬ b2 (!false) = 0 by decide), if_pos (nI_lt lt (by omega))]
                simp only [wI_eq wf 10 6 rfl (N_f N q) (by omega) (by decide), Option.bind_some]
              · rw [hI_row, e']
                unfold va_up
                by_cases qq : i = N_f N q
                · rw [if_pos qq, if_pos qq, Nat.min_eq_right (by omega)]
                · rw [if_neg qq, if_neg qq]; exact S i hi
            · refine go g ?_ G (fun i hi => ?_)
              · unfold lb_X10_measure_43
                simp only [g_9_0 wf, g_9_1 wf, w_gI wf 3 0 1 rfl, cn.2.1, Option.bind_some, if_pos (nI_lt hq (show N_s N < 2 ^ 31 by omega)), g_3_4 wf, g_3_3 wf, aI_eq wf 5 14 8 rfl q (by omega) (by decide), aI_eq wf 4 14 8 rfl q (by omega) (by decide), (cn.2.2.2 q hq).1, (cn.2.2.2 q hq).2.1, aI_eq wf 10 14 6 rfl (N_t N q) (by omega) (by decide), aI_eq wf 10 14 6 rfl (N_f N q) (by omega) (by decide), S _ (show N_t N q < 6 by omega), S _ (show N_f N q < 6 by omega), openC_eq, e, nI_1]
                rw [if_neg (show ¬ b2 (!false) = 0 by decide), if_neg (nI_nlt (by omega) (by omega))]
              · rw [e']
                unfold va_up
                by_cases qq : i = N_f N q
                · rw [if_pos qq, Nat.min_eq_left (by omega), qq]; exact S _ (by omega)
                · rw [if_neg qq]; exact S i hi
          · refine go g ?_ G (fun i hi => ?_)
            · unfold lb_X10_measure_43
              simp only [g_9_0 wf, g_9_1 wf, w_gI wf 3 0 1 rfl, cn.2.1, Option.bind_some, if_pos (nI_lt hq (show N_s N < 2 ^ 31 by omega)), g_3_4 wf, aI_eq wf 5 14 8 rfl q (by omega) (by decide), (cn.2.2.2 q hq).2.1, aI_eq wf 10 14 6 rfl (N_t N q) (by omega) (by decide), openC_eq, e, nI_1]
              rw [if_pos (show b2 (!true) = 0 by decide)]
            · unfold dsS
              rw [e, if_pos rfl]; exact S i hi
        · rintro ⟨s1, g⟩ ⟨rfl, G, S⟩
          have cw := w.to (G.mono tenC_sc)
          refine ⟨g, ?_, G, S⟩
          unfold lb_X10_measure_43
          simp only [g_9_0 cw.1, w_gI cw.1 3 0 1 rfl, cw.2.1.2.1, Option.bind_some, if_neg (nI_nlt (Nat.le_refl (N_s N)) (show N_s N < 2 ^ 31 by omega))]
      refine Or.inl ⟨(nI (k + 1), h'), ?_, rfl, F', _, d.next, R'⟩
      unfold lb_X10_measure_34
      simp only [if_pos (show nI k < 6 from nI_lt (b := 6) hk (by decide)), e', Option.bind_some, nI_1]
    · rintro ⟨s1, h⟩ ⟨rfl, F, D, d, R⟩
      refine ⟨h, ?_, F, D, d, R⟩
      unfold lb_X10_measure_34
      rw [if_neg (show ¬ nI 6 < 6 by decide)]
  refine ⟨C2, D, ?_, F2, d.fin V hT (by omega), R2⟩
  unfold fn_X10_measure
  rw [e1, Option.bind_some, e2]
  rfl
theorem layStepsM (w : MW N sem x M) (V : NV N) (hT : T < N_b N) : ∃ M' D, fn_X12_laySteps M 86 (nI T) = some M' ∧ Fr tenM M M' ∧ FD N (x 13) T 1000000 D ∧ ∀ i, i < 6 → hI M' 109 i = nI (D i) := by
  have h6 := V.1
  have h8 := V.2.1
  obtain ⟨C1, e1, F1, R1⟩ : ∃ C1, lp (lb_X12_laySteps_2 86 (nI T)) lpN (0, M) = some C1 ∧ Fr tenM M C1 ∧ ∀ i, i < 6 → hI C1 109 i = nI (ds0 1000000 T i) := by
    refine lp_inv (fun k (s : Int32 × aH) => s.1 = nI k ∧ Fr tenM M s.2 ∧ ∀ i, i < k → hI s.2 109 i = nI (ds0 1000000 T i)) (fun C1 => Fr tenM M C1 ∧ ∀ i, i < 6 → hI C1 109 i = nI (ds0 1000000 T i)) 6 (by decide) ?_ ?_ ⟨rfl, Fr.refl _ _, fun i h => absurd h (Nat.not_lt_zero _)⟩
    · rintro k ⟨s1, h⟩ hk ⟨rfl, F, R⟩
      dsimp only at F R
      have wf := F.wf w.1
      refine Or.inl ⟨(nI (k + 1), sI h 109 k (nI (ds0 1000000 T k))), ?_, rfl, F.sI _ rfl, fun i hi => ?_⟩
      · unfold lb_X12_laySteps_2
        have et : (if nI k = nI T then some (0 : Int32) else some 1000000) = some (nI (ds0 1000000 T k)) := by
          unfold ds0
          by_cases q : k = T
          · rw [q, if_pos rfl, if_pos rfl]; rfl
          · rw [if_neg (nI_ne (by omega) (by omega) q), if_neg q]; rfl
        simp only [if_pos (show nI k < 6 from nI_lt (b := 6) hk (by decide)), g_86_39 wf, Option.bind_some, et, wI_eq wf 109 6 rfl k hk (by decide), nI_1]
      · rw [hI_row]
        by_cases q : i = k
        · rw [if_pos q, q]
        · rw [if_neg q]; exact R i (by omega)
    · rintro ⟨s1, h⟩ ⟨rfl, F, R⟩
      refine ⟨h, ?_, F, R⟩
      unfold lb_X12_laySteps_2
      rw [if_neg (show ¬ nI 6 < 6 by decide)]
  obtain ⟨C2, e2, F2, D, d, R2⟩ : ∃ C2, lp (lb_X12_laySteps_34 86) lpN (0, C1) = some C2 ∧ Fr tenM M C2 ∧ ∃ D, DI N (x 13) T 1000000 (N_b N) D ∧ ∀ i, i < 6 → hI C2 109 i = nI (D i) := by
    refine lp_inv (fun k (s : Int32 × aH) => s.1 = nI k ∧ Fr tenM M s.2 ∧ ∃ D, DI N (x 13) T 1000000 k D ∧ ∀ i, i < 6 → hI s.2 109 i = nI (D i)) (fun C1 => Fr tenM M C1 ∧ ∃ D, DI N (x 13) T 1000000 (N_b N) D ∧ ∀ i, i < 6 → hI C1 109 i = nI (D i)) (N_b N) (by omega) ?_ ?_ ⟨rfl, F1, ds0 1000000 T, DI.zero 1000000, R1⟩
    · rintro k ⟨s1, h⟩ hk ⟨rfl, F, D, d, R⟩
      dsimp only at F R
      obtain ⟨h', e', F', R'⟩ : ∃ h', lp (lb_X12_laySteps_44 86 (nI k)) lpN (0, h) = some h' ∧ Fr tenM M h' ∧ ∀ i, i < 6 → hI h' 109 i = nI (dsR N (x 13) (N_s N) D i) := by
        refine lp_inv (fun q (s : Int32 × aH) => s.1 = nI q ∧ Fr tenM M s.2 ∧ ∀ i, i < 6 → hI s.2 109 i = nI (dsR N (x 13) q D i)) (fun h' => Fr tenM M h' ∧ ∀ i, i < 6 → hI h' 109 i = nI (dsR N (x 13) (N_s N) D i)) (N_s N) (by omega) ?_ ?_ ⟨rfl, F, R⟩
        · rintro q ⟨s1, g⟩ hq ⟨rfl, G, S⟩
          dsimp only at G S
          left
          have cw := w.to (G.mono tenM_sm)
          have wf := cw.1
          have cn := cw.2.1
          obtain ⟨f1, f2, -, -⟩ := V.2.2.2 q hq
          have dq := (d.round q (by omega)).1
          have b1 := dq.1 (N_f N q)
          have b3 := dq.1 (N_t N q)
          have go : ∀ g', lb_X12_laySteps_44 86 (nI k) (nI q, g) = some (.inl (nI (q + 1), g')) → Fr tenM M g' → (∀ i, i < 6 → hI g' 109 i = nI (dsS N (x 13) q (dsR N (x 13) q D) i)) → ∃ s', lb_X12_laySteps_44 86 (nI k) (nI q, g) = some (.inl s') ∧ s'.1 = nI (q + 1) ∧ Fr tenM M s'.2 ∧ ∀ i, i < 6 → hI s'.2 109 i = nI (dsR N (x 13) (q + 1) D i) := fun g' a b c => ⟨_, a, rfl, b, c⟩
          have fr := freeM_eq cw (show q < 31 by omega) 0
          rw [or0] at fr
          cases e : isBit (x 13) q
          · have e' : dsS N (x 13) q (dsR N (x 13) q D) = va_up (dsR N (x 13) q D) (N_f N q) (min (dsR N (x 13) q D (N_f N q)) (dsR N (x 13) q D (N_t N q) + 1)) := by unfold dsS; rw [e, if_neg (by decide)]
            refine go (sI g 109 (N_f N q) (nI (min (dsR N (x 13) q D (N_f N q)) (dsR N (x 13) q D (N_t N q) + 1)))) ?_ (G.sI _ rfl) (fun i hi => ?_)
            · unfold lb_X12_laySteps_44
              simp only [w_gI wf 86 11 2 rfl, cn.2.1, Option.bind_some, if_pos (nI_lt hq (show N_s N < 2 ^ 31 by omega)), k_86 wf, fr, e, g_86_39 wf, g_86_4 wf, g_86_5 wf, aI_eq wf 88 14 8 rfl q (by omega) (by decide), aI_eq wf 89 14 8 rfl q (by omega) (by decide), (cn.2.2.2 q hq).1, (cn.2.2.2 q hq).2.1, aI_eq wf 109 14 6 rfl (N_t N q) (by omega) (by decide), aI_eq wf 109 14 6 rfl (N_f N q) (by omega) (by decide), S _ (show N_t N q < 6 by omega), S _ (show N_f N q < 6 by omega), nI_1]
              rw [if_neg (show ¬ b2 (!false) = 0 by decide), mn_nI (by omega) (by omega)]
              simp only [wI_eq wf 109 6 rfl (N_f N q) (by omega) (by decide), Option.bind_some]
            · rw [hI_row, e']
              unfold va_up
              by_cases qq : i = N_f N q
              · rw [if_pos qq, if_pos qq]
              · rw [if_neg qq, if_neg qq]; exact S i hi
          · refine go g ?_ G (fun i hi => ?_)
            · unfold lb_X12_laySteps_44
              simp only [w_gI wf 86 11 2 rfl, cn.2.1, Option.bind_some, if_pos (nI_lt hq (show N_s N < 2 ^ 31 by omega)), k_86 wf, fr, e, nI_1]
              rw [if_pos (show b2 (!true) = 0 by decide)]
            · unfold dsS
              rw [e, if_pos rfl]; exact S i hi
        · rintro ⟨s1, g⟩ ⟨rfl, G, S⟩
          have cw := w.to (G.mono tenM_sm)
          refine ⟨g, ?_, G, S⟩
          unfold lb_X12_laySteps_44
          simp only [w_gI cw.1 86 11 2 rfl, cw.2.1.2.1, Option.bind_some, if_neg (nI_nlt (Nat.le_refl (N_s N)) (show N_s N < 2 ^ 31 by omega))]
      have cw := w.to (F.mono tenM_sm)
      refine Or.inl ⟨(nI (k + 1), h'), ?_, rfl, F', _, d.next, R'⟩
      unfold lb_X12_laySteps_34
      simp only [w_gI cw.1 86 11 1 rfl, cw.2.1.1, Option.bind_some, if_pos (nI_lt hk (show N_b N < 2 ^ 31 by omega)), e', nI_1]
    · rintro ⟨s1, h⟩ ⟨rfl, F, D, d, R⟩
      have cw := w.to (F.mono tenM_sm)
      refine ⟨h, ?_, F, D, d, R⟩
      unfold lb_X12_laySteps_34
      simp only [w_gI cw.1 86 11 1 rfl, cw.2.1.1, Option.bind_some, if_neg (nI_nlt (Nat.le_refl (N_b N)) (show N_b N < 2 ^ 31 by omega))]
  refine ⟨C2, D, ?_, F2, d.fin V hT (by omega), R2⟩
  unfold fn_X12_laySteps
  rw [e1, Option.bind_some, e2]
  rfl
end DST
