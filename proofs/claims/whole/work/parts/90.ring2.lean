/-! the shortest ring: both sides find the same -/
section RING2
variable {N : Net} {sem : Sem} {x : XX} {l : List Int64} {C M : aH} {u : Int32} {T m i s : Nat} {D E : Nat → Nat}
theorem dfs_hit (V : NV N) {s0 ms : Nat} (hs0 : s0 < N_s N) (ho : isBit (x 13) s0 = false) (hf : ∀ s, s < s0 → isBit (x 13) s = false → ms < dst N (x 13) (N_f N s) (N_t N s) + 1) : ∀ g h n e v bm, 7 ≤ n + g → MW N sem x h → RgP N h n s0 e v bm → n + dst N (x 13) (N_f N s0) e = ms → dst N (x 13) (N_f N s0) e < 1000 → (∀ b, v.testBit b = true → b = N_f N s0 ∨ dst N (x 13) (N_f N s0) e < dst N (x 13) (N_f N s0) b) → wk N (x 13) e (n - 1) (N_t N s0) = true → ms < bm →
    ∃ h', fn_X12_goRing g h 86 (nI n) (nI v) = some h' ∧ Fr rgM h h' ∧ (∀ i, i < n → hI h' 110 i = hI h 110 i) ∧ hI h' 86 42 = nI ms ∧ (∀ i, i < n → hI h' 111 i = hI h 110 i) ∧ ∀ i, i < dst N (x 13) (N_f N s0) e → hI h' 111 (n + i) = nI ((gpath N (x 13) (dst N (x 13) (N_f N s0)) (dst N (x 13) (N_f N s0) e) e).getD i 0) := by
  have hT := (V.2.2.2 s0 hs0).1
  have d := dst_FD (u := x 13) V hT
  generalize hD : dst N (x 13) (N_f N s0) = D at d ⊢
  intro g
  induction g with
  | zero =>
    intro h n e v bm hg w p
    obtain ⟨-, hn, -⟩ := goRing_open V w p (fun _ _ _ _ => none)
    omega
  | succ g ih =>
    intro h n e v bm hg w p hms hfin hseen hwk hbm
    obtain ⟨he, hn, o1, o2, o3, o4⟩ := goRing_open V w p (fn_X12_goRing g)
    have p' := p
    obtain ⟨p1, p2, p3, p4, p6, p7, p8, p9⟩ := p'
    by_cases c1 : e = N_f N s0
    · have z := (d.zero (i := e) (by decide)).mpr c1
      obtain ⟨h', e1, F, r1, r2, r3⟩ := o1 c1 (by omega)
      refine ⟨h', e1, F, fun i _ => by rw [r1], by rw [r2]; congr 1; omega, r3, fun i hi => ?_⟩
      omega
    · have z0 : 0 < D e := Nat.pos_of_ne_zero fun q => c1 ((d.zero (by decide)).mp q)
      have c2 : v.testBit e = false := by
        cases q : v.testBit e
        · rfl
        · rcases hseen e q with a | a
          · exact absurd a c1
          · omega
      obtain ⟨n1, ⟨n2, n3, n4⟩, n5⟩ := nx_spec d hfin z0
      generalize hz : nx N (x 13) D e = z at n1 n2 n3 n4 n5
      have gz : gpath N (x 13) D (D e) e = z :: gpath N (x 13) D (D (N_t N z)) (N_t N z) := by
        rw [← n4]
        show nx N (x 13) D e :: gpath N (x 13) D (D (N_t N z)) (N_t N (nx N (x 13) D e)) = _
        rw [hz]
      have zs : s0 < z := by
        rcases Nat.lt_trichotomy z s0 with a | a | a
        · have b := hf z a n2
          rw [n3] at b
          have k1 : wk N (x 13) e (n - 1 + 1) (N_f N s0) = true := wk_go hs0 ho hwk
          have k2 := wk_trans k1 (d.2.1 _ (show D (N_t N z) < 1000 by omega))
          have k3 := (dst_FD (u := x 13) V he).2.2 _ _ k2
          omega
        · rw [a] at n3
          exact absurd n3.symm c1
        · exact a
      have h8 := V.2.1
      obtain ⟨h', e1, F, r1, r2⟩ : ∃ h', lp (lb_X12_goRing_92 (fn_X12_goRing g) 86 (nI n) (nI v) (nI e)) lpN (nI (s0 + 1), h) = some h' ∧ Fr rgM h h' ∧ (∀ i, i < n → hI h' 110 i = hI h 110 i) ∧ hI h' 86 42 = nI ms ∧ (∀ i, i < n → hI h' 111 i = hI h 110 i) ∧ ∀ i, i < D e → hI h' 111 (n + i) = nI ((gpath N (x 13) D (D e) e).getD i 0) := by
        refine lp_inv (fun k (s : Int32 × aH) => s.1 = nI (s0 + 1 + k) ∧ Fr rgM h s.2 ∧ (∀ i, i < n → hI s.2 110 i = hI h 110 i) ∧ ((s0 + 1 + k ≤ z ∧ ∃ bm', hI s.2 86 42 = nI bm' ∧ bm' ≤ 1000000 ∧ ms < bm') ∨ (z < s0 + 1 + k ∧ hI s.2 86 42 = nI ms ∧ (∀ i, i < n → hI s.2 111 i = hI h 110 i) ∧ ∀ i, i < D e → hI s.2 111 (n + i) = nI ((gpath N (x 13) D (D e) e).getD i 0)))) (fun h' => Fr rgM h h' ∧ (∀ i, i < n → hI h' 110 i = hI h 110 i) ∧ hI h' 86 42 = nI ms ∧ (∀ i, i < n → hI h' 111 i = hI h 110 i) ∧ ∀ i, i < D e → hI h' 111 (n + i) = nI ((gpath N (x 13) D (D e) e).getD i 0)) (N_s N - (s0 + 1)) (by omega) ?_ ?_ ⟨rfl, Fr.refl _ _, fun _ _ => rfl, Or.inl ⟨by omega, bm, p8, p9, hbm⟩⟩
        · rintro k ⟨s1, q⟩ hk ⟨rfl, F, r1, I⟩
          dsimp only at F r1 I
          left
          have wq := w.to (F.mono rgM_sm)
          have hs : s0 + 1 + k < N_s N := by omega
          generalize hsk : s0 + 1 + k = s at hs I
          have ek : s0 + 1 + (k + 1) = s + 1 := by omega
          rw [ek, ring_body V wq (by omega) he hs]
          have wq2 : MW N sem x (sI q 110 n (nI s)) := wq.to (((Fr.refl rgM q).sI _ rfl).mono rgM_sm)
          have e111 : hI (sI q 110 n (nI s)) 111 = hI q 111 := by rw [hI_sI_r, if_neg (by decide)]
          have FF : ∀ h', Fr rgM (sI q 110 n (nI s)) h' → Fr rgM h h' := fun h' F' => F.trans (((Fr.refl rgM q).sI _ rfl).trans F')
          have LL : ∀ h' : aH, (∀ i, i < n + 1 → hI h' 110 i = hI (sI q 110 n (nI s)) 110 i) → ∀ i, i < n → hI h' 110 i = hI h 110 i := fun h' r i hi => by
            rw [r i (by omega), hI_row, if_neg (by omega)]; exact r1 i hi
          by_cases c3 : isBit (x 13) s = false ∧ N_f N s = e
          · rw [if_pos c3]
            have nr := d.near hs c3.1
            rw [c3.2] at nr
            rcases I with ⟨I1, bm', I2, I3, I4⟩ | ⟨I1, I2, I3, I4⟩
            · by_cases c4 : s = z
              · subst c4
                obtain ⟨h', e1, F', r1', q1, q2, q3⟩ := ih (sI q 110 n (nI s)) (n + 1) (N_t N s) (v ||| 2 ^ e) bm' (by omega) wq2 (p.down V he c2 r1 I2 I3 hs) (by omega) (by omega) (fun b hb => by
                    rw [Nat.testBit_or, Bool.or_eq_true] at hb
                    rcases hb with hb | hb
                    · rcases hseen b hb with a | a
                      · exact Or.inl a
                      · exact Or.inr (by omega)
                    · right
                      by_cases be : e = b
                      · rw [← be]; omega
                      · rw [Nat.testBit_two_pow_of_ne be] at hb; cases hb) (by
                    have k1 : wk N (x 13) (N_t N s) (0 + 1) (N_f N s) = true := wk_go hs c3.1 (wk_0.mpr rfl)
                    rw [c3.2] at k1
                    have k2 := wk_trans k1 hwk
                    rw [show n + 1 - 1 = n - 1 + (0 + 1) by omega]
                    exact k2) I4
                have e111' : ∀ i, i < n → hI h' 111 i = hI h 110 i := fun i hi => by
                  rw [q2 i (by omega), hI_row, if_neg (by omega)]; exact r1 i hi
                refine ⟨(nI (s + 1), h'), by rw [e1]; rfl, rfl, FF h' F', LL h' r1', Or.inr ⟨by omega, q1, e111', fun i hi => ?_⟩⟩
                dsimp only
                rw [gz]
                cases i with
                | zero =>
                  rw [Nat.add_zero, q2 n (by omega), hI_row, if_pos rfl]; rfl
                | succ i =>
                  rw [show n + (i + 1) = n + 1 + i by omega, q3 i (by omega)]; rfl
              · have na := n5 s (by omega)
                have nd : D (N_t N s) + 1 ≠ D e := fun q => by
                  have := (ahd_iff (u := x 13)).mpr ⟨c3.1, c3.2, q⟩
                  rw [na] at this; cases this
                obtain ⟨h', e1, F', r1', bm2, b5, b6, b7⟩ := dfs_gen V (B := ms + 1) g (sI q 110 n (nI s)) (n + 1) (N_t N s) (v ||| 2 ^ e) bm' (by omega) wq2 (p.down V he c2 r1 I2 I3 hs) (by rw [hD]; omega)
                refine ⟨(nI (s + 1), h'), by rw [e1]; rfl, rfl, FF h' F', LL h' r1', Or.inl ⟨by omega, bm2, b5, b6, ?_⟩⟩
                rcases b7 with ⟨y1, -⟩ | ⟨y1, -, -⟩ <;> omega
            · obtain ⟨h', e1, F', r1', bm2, b5, b6, b7⟩ := dfs_gen V (B := ms) g (sI q 110 n (nI s)) (n + 1) (N_t N s) (v ||| 2 ^ e) ms (by omega) wq2 (p.down V he c2 r1 I2 (by omega) hs) (by rw [hD]; omega)
              rcases b7 with ⟨y1, y2⟩ | ⟨y1, -, y3⟩
              · rw [e111] at y2
                refine ⟨(nI (s + 1), h'), by rw [e1]; rfl, rfl, FF h' F', LL h' r1', Or.inr ⟨by omega, by rw [b5, y1], ?_, ?_⟩⟩
                · intro i hi; dsimp only; rw [y2]; exact I3 i hi
                · intro i hi; dsimp only; rw [y2]; exact I4 i hi
              · omega
          · rw [if_neg c3]
            refine ⟨_, rfl, rfl, F, r1, ?_⟩
            rcases I with ⟨I1, I2⟩ | ⟨I1, I2⟩
            · left
              refine ⟨?_, I2⟩
              have : s ≠ z := fun q => c3 (by rw [q]; exact ⟨n2, n3⟩)
              omega
            · exact Or.inr ⟨by omega, I2⟩
        · rintro ⟨s1, q⟩ ⟨rfl, F, r1, I⟩
          rcases I with ⟨I1, I2⟩ | ⟨I1, I2⟩
          · omega
          · refine ⟨q, ?_, F, r1, I2⟩
            rw [show s0 + 1 + (N_s N - (s0 + 1)) = N_s N by omega]
            exact ring_stop V (w.to (F.mono rgM_sm)) _
      refine ⟨h', ?_, F, r1, r2⟩
      show fnF_X12_goRing (fn_X12_goRing g) h 86 (nI n) (nI v) = some h'
      rw [o4 c1 c2, e1]; rfl
/-- how long a ring through a sluice is -/
def rl (N : Net) (u : Int32) (s : Nat) : Nat := if isBit u s = true then 1000 else dst N u (N_f N s) (N_t N s) + 1
theorem rl_open (h : rl N u s < 1000) : isBit u s = false ∧ rl N u s = dst N u (N_f N s) (N_t N s) + 1 := by
  unfold rl at h ⊢
  cases e : isBit u s
  · exact ⟨rfl, if_neg (by decide)⟩
  · rw [e, if_pos rfl] at h; omega
theorem rl_eq (h : isBit u s = false) : rl N u s = dst N u (N_f N s) (N_t N s) + 1 := by
  unfold rl; rw [h]; exact if_neg (by decide)
theorem ringLengthC (w : CW N sem x C) (V : NV N) (u : Int32) (hs : s < N_s N) : ∃ C', fn_X10_ringLength C 9 (nI s) u = some (nI (rl N u s), C') ∧ Fr tenC C C' := by
  have h6 := V.1
  have h8 := V.2.1
  have wf := w.1
  obtain ⟨f1, f2, -, -⟩ := V.2.2.2 s hs
  cases e : isBit u s
  · obtain ⟨C', D, e1, F, d, R⟩ := measureC w V u f1
    have w' := w.to (F.mono tenC_sc)
    have wf' := w'.1
    refine ⟨C', ?_, F⟩
    unfold fn_X10_ringLength
    simp only [openC_eq, e, Option.bind_some]
    rw [if_neg (show ¬ b2 (!false) = 0 by decide)]
    simp only [g_9_0 wf, g_3_3 wf, Option.bind_some, aI_eq wf 4 14 8 rfl s (by omega) (by decide), (w.2.1.2.2.2 s hs).1, k_9 wf, e1, g_9_1 wf', g_9_0 wf', g_3_4 wf', aI_eq wf' 5 14 8 rfl s (by omega) (by decide), (w'.2.1.2.2.2 s hs).2.1, aI_eq wf' 10 14 6 rfl (N_t N s) (by omega) (by decide), R _ (show N_t N s < 6 by omega), nI_1]
    rw [rl_eq e, d.uniq V f1]
  · refine ⟨C, ?_, Fr.refl _ _⟩
    unfold fn_X10_ringLength
    simp only [openC_eq, e, Option.bind_some]
    rw [if_pos (show b2 (!true) = 0 by decide)]
    unfold rl
    rw [e, if_pos rfl]
    rfl
theorem rl_le (V : NV N) (hs : s < N_s N) : rl N u s ≤ 1001 := by
  unfold rl
  split
  · omega
  · have := (dst_FD (u := u) V (V.2.2.2 s hs).1).1 (N_t N s)
    omega
def FstR (N : Net) (u : Int32) (k f : Nat) : Prop := f < k ∧ rl N u f < 1000 ∧ (∀ j, j < f → rl N u f < rl N u j) ∧ ∀ j, j < k → rl N u f ≤ rl N u j
theorem ringC (w : CW N sem x C) (V : NV N) (g3 : ∀ C', Fr tenC C C' → gI C' 22 6 3 = some (x 13)) : ∃ a b C', lp (lb_X11_ring_8 0) lpN ((-1), 1000, 0, C) = some (a, b, C') ∧ Fr tenC C C' ∧ ((a = -1 ∧ ∀ j, j < N_s N → 1000 ≤ rl N (x 13) j) ∨ ∃ f, a = nI f ∧ b = nI (rl N (x 13) f) ∧ FstR N (x 13) (N_s N) f) := by
  have h8 := V.2.1
  obtain ⟨⟨a, b, C'⟩, e, F, I⟩ : ∃ r : Int32 × Int32 × aH, lp (lb_X11_ring_8 0) lpN ((-1), 1000, 0, C) = some r ∧ Fr tenC C r.2.2 ∧ ((r.1 = -1 ∧ ∀ j, j < N_s N → 1000 ≤ rl N (x 13) j) ∨ ∃ f, r.1 = nI f ∧ r.2.1 = nI (rl N (x 13) f) ∧ FstR N (x 13) (N_s N) f) := by
    refine lp_inv (fun k (s : Int32 × Int32 × Int32 × aH) => s.2.2.1 = nI k ∧ Fr tenC C s.2.2.2 ∧ ((s.1 = -1 ∧ s.2.1 = nI 1000 ∧ ∀ j, j < k → 1000 ≤ rl N (x 13) j) ∨ ∃ f, s.1 = nI f ∧ s.2.1 = nI (rl N (x 13) f) ∧ FstR N (x 13) k f)) _ (N_s N) (by omega) ?_ ?_ ⟨rfl, Fr.refl _ _, Or.inl ⟨rfl, rfl, fun j h => absurd h (Nat.not_lt_zero _)⟩⟩
    · rintro k ⟨s1, s2, s3, h⟩ hk ⟨rfl, F, I⟩
      dsimp only at F I
      left
      have cw := w.to (F.mono tenC_sc)
      have wf := cw.1
      obtain ⟨h', e1, F'⟩ := ringLengthC cw V (x 13) hk
      have b1 := rl_le (u := x 13) V hk
      have body : lb_X11_ring_8 0 (s1, s2, nI k, h) = if nI (rl N (x 13) k) < s2 then some (.inl (nI k, nI (rl N (x 13) k), nI (k + 1), h')) else some (.inl (s1, s2, nI (k + 1), h')) := by
        unfold lb_X11_ring_8
        simp only [g_0_1 wf, w_gI wf 3 0 1 rfl, cw.2.1.2.1, Option.bind_some, if_pos (nI_lt hk (show N_s N < 2 ^ 31 by omega)), g_0_2 wf, g_0_7 wf, g3 h F, k_9 wf, e1, nI_1]
      rw [body]
      rcases I with ⟨rfl, rfl, I3⟩ | ⟨f, rfl, rfl, I3, I4, I5, I6⟩
      · by_cases c : rl N (x 13) k < 1000
        · rw [if_pos (nI_lt c (by omega))]
          refine ⟨_, rfl, rfl, F.trans F', Or.inr ⟨k, rfl, rfl, by omega, c, fun j hj => ?_, fun j hj => ?_⟩⟩
          · have := I3 j hj; omega
          · by_cases q : j = k
            · rw [q]; exact Nat.le_refl _
            · have := I3 j (by omega); omega
        · rw [if_neg (nI_nlt (by omega) (by omega))]
          refine ⟨_, rfl, rfl, F.trans F', Or.inl ⟨rfl, rfl, fun j hj => ?_⟩⟩
          by_cases q : j = k
          · rw [q]; omega
          · exact I3 j (by omega)
      · by_cases c : rl N (x 13) k < rl N (x 13) f
        · rw [if_pos (nI_lt c (by omega))]
          refine ⟨_, rfl, rfl, F.trans F', Or.inr ⟨k, rfl, rfl, by omega, by omega, fun j hj => ?_, fun j hj => ?_⟩⟩
          · have := I6 j hj; omega
          · by_cases q : j = k
            · rw [q]; exact Nat.le_refl _
            · have := I6 j (by omega); omega
        · rw [if_neg (nI_nlt (by omega) (by omega))]
          refine ⟨_, rfl, rfl, F.trans F', Or.inr ⟨f, rfl, rfl, by omega, I4, I5, fun j hj => ?_⟩⟩
          by_cases q : j = k
          · rw [q]; omega
          · exact I6 j (by omega)
    · rintro ⟨s1, s2, s3, h⟩ ⟨rfl, F, I⟩
      dsimp only at F I
      have cw := w.to (F.mono tenC_sc)
      refine ⟨(s1, s2, h), ?_, F, ?_⟩
      · unfold lb_X11_ring_8
        simp only [g_0_1 cw.1, w_gI cw.1 3 0 1 rfl, cw.2.1.2.1, Option.bind_some, if_neg (nI_nlt (Nat.le_refl (N_s N)) (show N_s N < 2 ^ 31 by omega))]
      · rcases I with ⟨a, -, b⟩ | I
        · exact Or.inl ⟨a, b⟩
        · exact Or.inr I
  exact ⟨a, b, C', e, F, I⟩
end RING2
