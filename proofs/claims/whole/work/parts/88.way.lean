/-! the least of the shortest ways -/
def fb (p : Nat → Bool) : Nat → Nat
  | 0 => 0
  | n + 1 => if anyB n p = true then fb p n else n
theorem fb_spec {p : Nat → Bool} : ∀ n, anyB n p = true → fb p n < n ∧ p (fb p n) = true ∧ ∀ k, k < fb p n → p k = false
  | 0, h => absurd h (by simp [anyB])
  | n + 1, h => by
    unfold fb
    by_cases e : anyB n p = true
    · rw [if_pos e]
      obtain ⟨h1, h2, h3⟩ := fb_spec n e
      exact ⟨by omega, h2, h3⟩
    · rw [if_neg e]
      have h' : (anyB n p || p n) = true := h
      refine ⟨Nat.lt_succ_self _, ?_, fun k hk => ?_⟩
      · rw [Bool.or_eq_true] at h'
        exact h'.resolve_left e
      · cases q : p k
        · rfl
        · exact absurd ((anyB_iff n).mpr ⟨k, hk, q⟩) e
section WAY
variable {N : Net} {sem : Sem} {x : XX} {l : List Int64} {C M : aH} {u : Int32} {T m i s : Nat} {D E : Nat → Nat}
def ahd (N : Net) (u : Int32) (D : Nat → Nat) (i s : Nat) : Bool := !isBit u s && (N_f N s == i && D (N_t N s) + 1 == D i)
def nx (N : Net) (u : Int32) (D : Nat → Nat) (i : Nat) : Nat := fb (ahd N u D i) (N_s N)
def gpath (N : Net) (u : Int32) (D : Nat → Nat) : Nat → Nat → List Nat
  | 0, _ => []
  | k + 1, i => nx N u D i :: gpath N u D k (N_t N (nx N u D i))
theorem gpath_len : ∀ k i, (gpath N u D k i).length = k
  | 0, _ => rfl
  | k + 1, i => by show (gpath N u D k _).length + 1 = k + 1; rw [gpath_len k]
theorem ahd_iff : ahd N u D i s = true ↔ isBit u s = false ∧ N_f N s = i ∧ D (N_t N s) + 1 = D i := by
  unfold ahd; simp
theorem nx_spec {K : Nat} (d : FD N u T K D) (h : D i < K) (h0 : 0 < D i) : nx N u D i < N_s N ∧ (isBit u (nx N u D i) = false ∧ N_f N (nx N u D i) = i ∧ D (N_t N (nx N u D i)) + 1 = D i) ∧ ∀ k, k < nx N u D i → ahd N u D i k = false := by
  obtain ⟨s, hs, a, b, c⟩ := d.ahead h h0
  obtain ⟨h1, h2, h3⟩ := fb_spec (p := ahd N u D i) (N_s N) ((anyB_iff _).mpr ⟨s, hs, ahd_iff.mpr ⟨a, b, c⟩⟩)
  exact ⟨h1, ahd_iff.mp h2, h3⟩
def tl (s : Nat) : Int64 := Int32.toInt64 (nI s)
theorem nI_sub1 {n : Nat} (h0 : 0 < n) : nI n - 1 = nI (n - 1) := by
  obtain ⟨k, rfl⟩ : ∃ k, n = k + 1 := ⟨n - 1, by omega⟩
  rw [← nI_1 k]
  rw [Int32.add_sub_cancel, Nat.add_sub_cancel]
theorem leastAheadC (w : CW N sem x C) (V : NV N) (R : ∀ i, i < 6 → hI C 10 i = nI (D i)) (hD : ∀ i, D i ≤ 1000) (hi : i < N_b N) (h0 : 0 < D i) (hs : s < N_s N) (h1 : ahd N u D i s = true) (h2 : ∀ k, k < s → ahd N u D i k = false) : fn_X10_leastAhead C 9 (nI i) u = some (nI s) := by
  have h6 := V.1
  have h8 := V.2.1
  have wf := w.1
  have cn := w.2.1
  have body : ∀ k, k < N_s N → lb_X10_leastAhead_2 C 9 (nI i) u (nI k) = some (if ahd N u D i k = true then .inr (nI k) else .inl (nI (k + 1))) := by
    intro k hk
    obtain ⟨f1, f2, -, -⟩ := V.2.2.2 k hk
    unfold lb_X10_leastAhead_2
    simp only [g_9_0 wf, g_9_1 wf, w_gI wf 3 0 1 rfl, cn.2.1, Option.bind_some, if_pos (nI_lt hk (show N_s N < 2 ^ 31 by omega)), g_3_3 wf, g_3_4 wf, aI_eq wf 4 14 8 rfl k (by omega) (by decide), aI_eq wf 5 14 8 rfl k (by omega) (by decide), (cn.2.2.2 k hk).1, (cn.2.2.2 k hk).2.1, aI_eq wf 10 14 6 rfl (N_t N k) (by omega) (by decide), aI_eq wf 10 14 6 rfl i (by omega) (by decide), R _ (show N_t N k < 6 by omega), R _ (show i < 6 by omega), openC_eq, nI_1, nI_sub1 h0]
    have b1 := hD (N_t N k)
    have b3 := hD i
    by_cases c1 : N_f N k = i
    · rw [if_pos (by rw [c1])]
      by_cases c2 : D (N_t N k) + 1 = D i
      · rw [if_pos (show nI (D (N_t N k)) = nI (D i - 1) by rw [← c2]; rfl), Option.bind_some, if_neg one0]
        cases c3 : isBit u k
        · rw [if_neg (show ¬ b2 (!false) = 0 by decide), if_pos (ahd_iff.mpr ⟨c3, c1, c2⟩)]
        · rw [if_pos (show b2 (!true) = 0 by decide), if_neg (fun q => by have := (ahd_iff.mp q).1; rw [c3] at this; cases this)]
      · rw [if_neg (fun q => by have := (nI_eq (by omega) (by omega)).mp q; omega), Option.bind_some, if_pos rfl, if_neg (fun q => c2 (ahd_iff.mp q).2.2)]
    · rw [if_neg (nI_ne (by omega) (by omega) c1), Option.bind_some, if_pos rfl, if_neg (fun q => c1 (ahd_iff.mp q).2.1)]
  have loop : lp (lb_X10_leastAhead_2 C 9 (nI i) u) lpN 0 = some (nI s) := by
    refine lp_run (fun k => nI k) s (nI s) ?_ ?_ (by omega) rfl
    · intro k hk
      rw [body k (by omega), h2 k hk, if_neg (by decide)]
    · rw [body s hs, if_pos h1]
  unfold fn_X10_leastAhead
  rw [loop]
  rfl
theorem walkC (w : CW N sem x C) (V : NV N) (t : ToC C l) (hl : l.length ≤ 2) (d : FD N u T 1000 D) (R : ∀ i, i < 6 → hI C 10 i = nI (D i)) {a : Nat} (ha : a < N_b N) (h5 : D a ≤ 5) : ∃ C', fn_X10_walk C 9 (nI a) u 77 = some C' ∧ Fr stC C C' ∧ ToC C' (l ++ (gpath N u D (D a) a).map tl) := by
  have h6 := V.1
  obtain ⟨C', e, F, t'⟩ : ∃ C', lp (lb_X10_walk_6 9 u 77) lpN (nI a, 0, C) = some C' ∧ Fr stC C C' ∧ ToC C' (l ++ (gpath N u D (D a) a).map tl) := by
    refine lp_inv (fun k (s : Int32 × Int32 × aH) => ∃ i, i < N_b N ∧ s.1 = nI i ∧ s.2.1 = nI k ∧ D i + k = D a ∧ Fr stC C s.2.2 ∧ ∃ l', ToC s.2.2 l' ∧ l'.length = l.length + k ∧ l' ++ (gpath N u D (D i) i).map tl = l ++ (gpath N u D (D a) a).map tl) (fun C' => Fr stC C C' ∧ ToC C' (l ++ (gpath N u D (D a) a).map tl)) (D a) (by omega) ?_ ?_ ⟨a, ha, rfl, rfl, rfl, Fr.refl _ _, l, t, rfl, rfl⟩
    · rintro k ⟨s1, s2, h⟩ hk ⟨i, hi, rfl, rfl, hik, F, l', t', hl', el⟩
      dsimp only at F t'
      left
      have cw := w.to (F.mono stC_sc)
      have wf := cw.1
      have R' : ∀ i, i < 6 → hI h 10 i = nI (D i) := fun i hi => (F.i 10 i rfl).trans (R i hi)
      have h0 : 0 < D i := by omega
      obtain ⟨n1, n2, n3⟩ := nx_spec d (i := i) (by omega) h0
      have la := leastAheadC cw V R' d.1 hi h0 n1 (ahd_iff.mpr n2) n3
      obtain ⟨h', ea, Fa, ta⟩ := toldAdd wf t' (by omega) (tl (nx N u D i))
      have cw' := cw.to (Fa.mono stC_sc)
      have wf' := cw'.1
      obtain ⟨f1, f2, -, -⟩ := V.2.2.2 _ n1
      have h8 := V.2.1
      refine ⟨(nI (N_t N (nx N u D i)), nI (k + 1), h'), ?_, N_t N (nx N u D i), f2, rfl, rfl, by omega, F.trans Fa, _, ta, ?_, ?_⟩
      · unfold lb_X10_walk_6
        have ea' : fn_X3_add h 77 (Int32.toInt64 (nI (nx N u D i))) = some h' := ea
        simp only [if_pos (show nI k < 6 from nI_lt (b := 6) (by omega) (by decide)), g_9_1 wf, Option.bind_some, aI_eq wf 10 14 6 rfl i (by omega) (by decide), R' i (by omega), k_9 wf, la, k_77 wf, ea', g_9_0 wf', g_3_4 wf', aI_eq wf' 5 14 8 rfl (nx N u D i) (by omega) (by decide), (cw'.2.1.2.2.2 _ n1).2.1, nI_1]
        rw [if_neg (show ¬ nI (D i) ≤ 0 from fun q => by have := nI_lt (a := 0) (b := D i) h0 (by omega); exact absurd this (Int32.not_lt.mpr q)), if_neg (cu_m1 _ (by omega))]
      · simp; omega
      · rw [← el, show D i = D (N_t N (nx N u D i)) + 1 from n2.2.2.symm]
        show _ = l' ++ (tl (nx N u D i) :: (gpath N u D (D (N_t N (nx N u D i))) (N_t N (nx N u D i))).map tl)
        rw [List.append_assoc]
        rfl
    · rintro ⟨s1, s2, h⟩ ⟨i, hi, rfl, rfl, hik, F, l', t', hl', el⟩
      dsimp only at F t'
      have wf := F.wf w.1
      have R' : hI h 10 i = nI (D i) := (F.i 10 i rfl).trans (R i (by omega))
      have h0 : D i = 0 := by omega
      rw [h0] at el R'
      have el' : l' = l ++ (gpath N u D (D a) a).map tl := by rw [← el]; exact (List.append_nil _).symm
      refine ⟨h, ?_, F, by rw [← el']; exact t'⟩
      unfold lb_X10_walk_6
      simp only [if_pos (show nI (D a) < 6 from nI_lt (b := 6) (by omega) (by decide)), g_9_1 wf, Option.bind_some, aI_eq wf 10 14 6 rfl i (by omega) (by decide), R']
      rw [if_pos (show nI 0 ≤ 0 by decide)]
  refine ⟨C', ?_, F, t'⟩
  unfold fn_X10_walk
  rw [e]
  rfl
theorem tellWayM (w : MW N sem x M) (V : NV N) (t : ToM M l) (hl : l.length ≤ 2) (d : FD N (x 13) T 1000 D) (hE : ∀ i, (D i ≤ 5 ∧ E i = D i) ∨ (D i = 1000 ∧ E i = 1000000)) (R : ∀ i, i < 6 → hI M 109 i = nI (E i)) {a : Nat} (ha : a < N_b N) (h5 : D a ≤ 5) : ∃ M', fn_X12_tellWay M 86 (nI a) = some M' ∧ Fr stM M M' ∧ ToM M' (l ++ (gpath N (x 13) D (D a) a).map tl) := by
  have h6 := V.1
  have h8 := V.2.1
  obtain ⟨C', e, F, t'⟩ : ∃ C', lp (lb_X12_tellWay_2 86) lpN (nI a, M) = some C' ∧ Fr stM M C' ∧ ToM C' (l ++ (gpath N (x 13) D (D a) a).map tl) := by
    refine lp_inv (fun k (s : Int32 × aH) => ∃ i, i < N_b N ∧ s.1 = nI i ∧ D i + k = D a ∧ Fr stM M s.2 ∧ ∃ l', ToM s.2 l' ∧ l'.length = l.length + k ∧ l' ++ (gpath N (x 13) D (D i) i).map tl = l ++ (gpath N (x 13) D (D a) a).map tl) (fun C' => Fr stM M C' ∧ ToM C' (l ++ (gpath N (x 13) D (D a) a).map tl)) (D a) (by omega) ?_ ?_ ⟨a, ha, rfl, rfl, Fr.refl _ _, l, t, rfl, rfl⟩
    · rintro k ⟨s1, h⟩ hk ⟨i, hi, rfl, hik, F, l', t', hl', el⟩
      dsimp only at F t'
      left
      have cw := w.to (F.mono stM_sm)
      have wf := cw.1
      have cn := cw.2.1
      have R' : ∀ i, i < 6 → hI h 109 i = nI (E i) := fun i hi => (F.i 109 i rfl).trans (R i hi)
      have h0 : 0 < D i := by omega
      have eD : E i = D i := by rcases hE i with ⟨_, q⟩ | ⟨q, _⟩ <;> omega
      obtain ⟨n1, n2, n3⟩ := nx_spec d (i := i) (by omega) h0
      have body : ∀ k, k < N_s N → lb_X12_tellWay_13 h 86 (nI i) (nI k) = some (if ahd N (x 13) D i k = true then .inr (nI k) else .inl (nI (k + 1))) := by
        intro k hk
        obtain ⟨f1, f2, -, -⟩ := V.2.2.2 k hk
        have fr := freeM_eq cw (show k < 31 by omega) 0
        rw [or0] at fr
        unfold lb_X12_tellWay_13
        simp only [k_86 wf, fr, Option.bind_some, g_86_4 wf, g_86_5 wf, g_86_39 wf, aI_eq wf 88 14 8 rfl k (by omega) (by decide), aI_eq wf 89 14 8 rfl k (by omega) (by decide), (cn.2.2.2 k hk).1, (cn.2.2.2 k hk).2.1, aI_eq wf 109 14 6 rfl (N_t N k) (by omega) (by decide), aI_eq wf 109 14 6 rfl i (by omega) (by decide), R' _ (show N_t N k < 6 by omega), R' _ (show i < 6 by omega), eD, nI_sub1 h0, nI_1]
        cases c3 : isBit (x 13) k
        · rw [if_neg (show ¬ b2 (!false) = 0 by decide)]
          by_cases c1 : N_f N k = i
          · rw [if_pos (by rw [c1])]
            by_cases c2 : D (N_t N k) + 1 = D i
            · have eT : E (N_t N k) = D (N_t N k) := by rcases hE (N_t N k) with ⟨_, q⟩ | ⟨q, _⟩ <;> omega
              rw [if_pos (show nI (E (N_t N k)) = nI (D i - 1) by rw [eT, ← c2]; rfl), if_pos (ahd_iff.mpr ⟨c3, c1, c2⟩)]
            · have bT : E (N_t N k) ≤ 1000000 := by rcases hE (N_t N k) with ⟨_, q⟩ | ⟨_, q⟩ <;> omega
              rw [if_neg (fun q => by
                have q1 := (nI_eq (by omega) (by omega)).mp q
                rcases hE (N_t N k) with ⟨_, q2⟩ | ⟨_, q2⟩ <;> omega), if_neg (fun q => c2 (ahd_iff.mp q).2.2)]
          · rw [if_neg (nI_ne (by omega) (by omega) c1), if_neg (fun q => c1 (ahd_iff.mp q).2.1)]
        · rw [if_pos (show b2 (!true) = 0 by decide), if_neg (fun q => by have := (ahd_iff.mp q).1; rw [c3] at this; cases this)]
      have loop : lp (lb_X12_tellWay_13 h 86 (nI i)) lpN 0 = some (nI (nx N (x 13) D i)) := by
        refine lp_run (fun k => nI k) (nx N (x 13) D i) _ ?_ ?_ (by omega) rfl
        · intro k hk
          rw [body k (by omega), n3 k hk, if_neg (by decide)]
        · rw [body _ n1, if_pos (ahd_iff.mpr n2)]
      obtain ⟨h', ea, Fa, ta⟩ := tellM wf t' (by omega) (tl (nx N (x 13) D i))
      have cw' := cw.to (Fa.mono stM_sm)
      have wf' := cw'.1
      obtain ⟨f1, f2, -, -⟩ := V.2.2.2 _ n1
      refine ⟨(nI (N_t N (nx N (x 13) D i)), h'), ?_, N_t N (nx N (x 13) D i), f2, rfl, by omega, F.trans Fa, _, ta, ?_, ?_⟩
      · unfold lb_X12_tellWay_2
        have ea' : fn_X12_tell h 86 (Int32.toInt64 (nI (nx N (x 13) D i))) = some h' := ea
        simp only [g_86_39 wf, Option.bind_some, aI_eq wf 109 14 6 rfl i (by omega) (by decide), R' i (by omega), eD]
        rw [if_neg (show ¬ nI (D i) ≤ 0 from fun q => by have := nI_lt (a := 0) (b := D i) h0 (by omega); exact absurd this (Int32.not_lt.mpr q))]
        simp only [loop, Option.bind_some, k_86 wf, ea', g_86_5 wf', aI_eq wf' 89 14 8 rfl (nx N (x 13) D i) (by omega) (by decide), (cw'.2.1.2.2.2 _ n1).2.1]
      · simp; omega
      · rw [← el, show D i = D (N_t N (nx N (x 13) D i)) + 1 from n2.2.2.symm]
        show _ = l' ++ (tl (nx N (x 13) D i) :: (gpath N (x 13) D (D (N_t N (nx N (x 13) D i))) (N_t N (nx N (x 13) D i))).map tl)
        rw [List.append_assoc]
        rfl
    · rintro ⟨s1, h⟩ ⟨i, hi, rfl, hik, F, l', t', hl', el⟩
      dsimp only at F t'
      have wf := F.wf w.1
      have h0 : D i = 0 := by omega
      have eD : E i = 0 := by rcases hE i with ⟨_, q⟩ | ⟨q, _⟩ <;> omega
      have R' : hI h 109 i = nI 0 := by rw [F.i 109 i rfl, R i (by omega), eD]
      rw [h0] at el
      have el' : l' = l ++ (gpath N (x 13) D (D a) a).map tl := by rw [← el]; exact (List.append_nil _).symm
      refine ⟨h, ?_, F, by rw [← el']; exact t'⟩
      unfold lb_X12_tellWay_2
      simp only [g_86_39 wf, Option.bind_some, aI_eq wf 109 14 6 rfl i (by omega) (by decide), R']
      rw [if_pos (show nI 0 ≤ 0 by decide)]
  refine ⟨C', ?_, F, t'⟩
  unfold fn_X12_tellWay
  rw [e]
  rfl
theorem q_way (w : WW N sem x l C M) (a b : Int32) : QR (fn_X11_way C 0 a b) (fn_X12_way M 86 a b) C M := by
  obtain ⟨M1, p1, F1, w1⟩ := w.thr
  have h6 := w.v.1
  have wc := w1.wc
  have wm := w1.wm
  rcases w1.bas a with ⟨a1, a2⟩ | ⟨i, hi, rfl, a1, a2⟩
  · refine w1.qr (-1) ?_ ?_ (Fr.refl _ _) F1
    · unfold fn_X11_way; simp only [g_0_1 wc, k_3 wc, Option.bind_some, a1, if_true]
    · unfold fn_X12_way; simp only [p1, k_86 wm, Option.bind_some, a2, if_true]
  rcases w1.bas b with ⟨c1, c2⟩ | ⟨j, hj, rfl, c1, c2⟩
  · refine w1.qr (-1) ?_ ?_ (Fr.refl _ _) F1
    · unfold fn_X11_way; simp only [g_0_1 wc, k_3 wc, Option.bind_some, a1, if_neg one0, c1, if_true]
    · unfold fn_X12_way; simp only [p1, k_86 wm, Option.bind_some, a2, if_neg one0, c2, if_true]
  obtain ⟨C2, D, e2, G2, d, R2⟩ := measureC w1.1 w1.v (x 13) hj
  obtain ⟨M2, E, e2', H2, dE, R2'⟩ := layStepsM w1.2.1 w1.v hj
  have hE := d.two w1.v hj (by decide) dE
  have w2 : WW N sem x l C2 M2 := (w1.toC G2 tenC_sc rfl (fun _ => rfl)).toM H2 tenM_sm rfl (fun _ => rfl)
  have wc2 := w2.wc
  have wm2 := w2.wm
  rcases hE i with ⟨h5, q⟩ | ⟨q1, q2⟩
  · obtain ⟨C3, M3, e3, e3', G3, H3, w3⟩ := w2.begin
    obtain ⟨C4, e4, G4, t4⟩ := walkC w3.1 w3.v w3.2.2.1 (by decide) d (fun i hi => (G3.i 10 i rfl).trans (R2 i hi)) hi h5
    obtain ⟨M4, e4', H4, t4'⟩ := tellWayM w3.2.1 w3.v w3.2.2.2.1 (by decide) d hE (fun i hi => (H3.i 109 i rfl).trans (R2' i hi)) hi h5
    refine ⟨nI (D i), C4, M4, _, ?_, ?_, (G2.mono tenC_sc).trans ((G3.trans G4).mono stC_sc), F1.trans ((H2.mono tenM_sm).trans ((H3.trans H4).mono stM_sm)), t4, t4'⟩
    · unfold fn_X11_way
      simp only [g_0_1 wc, k_3 wc, Option.bind_some, a1, c1, if_neg one0, g_0_2 wc, g_0_7 wc, stuckC w1, k_9 wc, e2, g_0_2 wc2, g_9_1 wc2, aI_eq wc2 10 14 6 rfl i (by omega) (by decide), R2 i (by omega)]
      rw [if_pos (show nI (D i) < 1000 from nI_lt (b := 1000) (by omega) (by decide))]
      simp only [g_0_11 wc2, k_77 wc2, Option.bind_some, e3, g_0_2 w3.wc, g_0_7 w3.wc, stuckC w3, g_0_11 w3.wc, k_9 w3.wc, e4]
    · have wm4 := H4.wf w3.wm
      have r4 : hI M4 109 i = nI (D i) := by rw [H4.i 109 i rfl, H3.i 109 i rfl, R2' i (by omega), q]
      unfold fn_X12_way
      simp only [p1, k_86 wm, Option.bind_some, a2, c2, if_neg one0, e2', g_86_39 wm2, aI_eq wm2 109 14 6 rfl i (by omega) (by decide), R2' i (by omega), q]
      rw [if_pos (show nI (D i) < 1000000 from nI_lt (b := 1000000) (by omega) (by decide))]
      simp only [e3', k_86 w3.wm, Option.bind_some, e4', g_86_39 wm4, aI_eq wm4 109 14 6 rfl i (by omega) (by decide), r4]
  · refine w2.qr (-2) ?_ ?_ (G2.mono tenC_sc) (F1.trans (H2.mono tenM_sm))
    · unfold fn_X11_way
      simp only [g_0_1 wc, k_3 wc, Option.bind_some, a1, c1, if_neg one0, g_0_2 wc, g_0_7 wc, stuckC w1, k_9 wc, e2, g_0_2 wc2, g_9_1 wc2, aI_eq wc2 10 14 6 rfl i (by omega) (by decide), R2 i (by omega), q1]
      rw [if_neg (show ¬ nI 1000 < 1000 by decide)]
    · unfold fn_X12_way
      simp only [p1, k_86 wm, Option.bind_some, a2, c2, if_neg one0, e2', g_86_39 wm2, aI_eq wm2 109 14 6 rfl i (by omega) (by decide), R2' i (by omega), q2]
      rw [if_neg (show ¬ nI 1000000 < 1000000 by decide)]
theorem stp_way {c : Nat} (hc : c ≤ 64) (a b : Int32) : STEP c (fun h => fn_X11_way h 0 a b) (fun h => fn_X12_way h 86 a b) := STEP.of hc fun N sem x l C M w _ => q_way w a b
end WAY
