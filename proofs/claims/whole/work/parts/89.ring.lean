/-! the shortest ring -/
theorem cntB_add {a b : Nat → Bool} {e : Nat} (h : ∀ i, b i = (a i || i == e)) (he : a e = false) : ∀ n, cntB n b = cntB n a + (if e < n then 1 else 0)
  | 0 => rfl
  | n + 1 => by
    show cntB n b + (b n).toNat = cntB n a + (a n).toNat + _
    rw [cntB_add h he n, h n]
    by_cases q : n = e
    · subst q
      rw [he, if_neg (Nat.lt_irrefl _), if_pos (Nat.lt_succ_self _)]
      simp
    · have : (n == e) = false := by simp [q]
      rw [this, Bool.or_false]
      by_cases q2 : e < n
      · rw [if_pos q2, if_pos (by omega)]; omega
      · rw [if_neg q2, if_neg (by omega)]; omega
theorem cnt_or {n v e : Nat} (he : v.testBit e = false) (hn : e < n) : cntB n (v ||| 2 ^ e).testBit = cntB n v.testBit + 1 := by
  rw [cntB_add (a := v.testBit) (e := e) (fun i => ?_) he n, if_pos hn]
  rw [Nat.testBit_or]
  by_cases q : i = e
  · subst q; simp [Nat.testBit_two_pow_self]
  · rw [Nat.testBit_two_pow_of_ne (Ne.symm q)]; simp [q]
section RING
variable {N : Net} {sem : Sem} {x : XX} {l : List Int64} {C M : aH} {u : Int32} {T m i s : Nat} {D E : Nat → Nat}
def dst (N : Net) (u : Int32) (T : Nat) : Nat → Nat := itr (dsR N u (N_s N)) 6 (ds0 1000 T)
theorem dst_FD (V : NV N) (hT : T < N_b N) : FD N u T 1000 (dst N u T) := by
  have h6 := V.1
  have : ∀ n, DI N u T 1000 n (itr (dsR N u (N_s N)) n (ds0 1000 T)) := by
    intro n
    induction n with
    | zero => exact DI.zero _
    | succ n ih => exact ih.next
  exact (this 6).fin V hT (by omega)
theorem FD.uniq (V : NV N) (hT : T < N_b N) (d : FD N u T 1000 D) : D = dst N u T := by
  funext i
  rcases d.two V hT (Nat.le_refl _) (dst_FD V hT) i with ⟨_, e⟩ | ⟨e1, e2⟩
  · exact e.symm
  · rw [e1, e2]
theorem wk_trans {e b : Nat} (h2 : wk N u e b T = true) : ∀ {a i}, wk N u T a i = true → wk N u e (a + b) i = true := by
  intro a
  induction a with
  | zero =>
    intro i h
    rw [wk_0.mp h, Nat.zero_add]; exact h2
  | succ a ih =>
    intro i h
    rw [show a + 1 + b = a + b + 1 by omega]
    rcases wk_inv h with h1 | ⟨s, hs, ho, rfl, h1⟩
    · exact wk_up (ih h1)
    · exact wk_go hs ho (ih h1)
def rgM (a j : Nat) : Bool := (a == 86 && j == 42) || (a == 110 || a == 111)
theorem rgM_sm (a j : Nat) (e : sm a j = false) : rgM a j = false := by
  unfold sm at e
  unfold rgM
  simp at e ⊢
  omega
def RgP (N : Net) (h : aH) (n s0 e v bm : Nat) : Prop := 1 ≤ n ∧ s0 < N_s N ∧ hI h 110 0 = nI s0 ∧ (∃ s, s < N_s N ∧ hI h 110 (n - 1) = nI s ∧ N_t N s = e) ∧ v < 2 ^ N_b N ∧ cntB (N_b N) v.testBit = n ∧ hI h 86 42 = nI bm ∧ bm ≤ 1000000
theorem goRing_open (V : NV N) {h : aH} {n s0 e v bm : Nat} (w : MW N sem x h) (p : RgP N h n s0 e v bm) (th : aH → Nat → Int32 → Int32 → Option aH) :
    e < N_b N ∧ n ≤ 6 ∧
    (e = N_f N s0 → n < bm → ∃ h', fnF_X12_goRing th h 86 (nI n) (nI v) = some h' ∧ Fr rgM h h' ∧ hI h' 110 = hI h 110 ∧ hI h' 86 42 = nI n ∧ ∀ i, i < n → hI h' 111 i = hI h 110 i) ∧
    (e = N_f N s0 → ¬ n < bm → fnF_X12_goRing th h 86 (nI n) (nI v) = some h) ∧
    (e ≠ N_f N s0 → v.testBit e = true → fnF_X12_goRing th h 86 (nI n) (nI v) = some h) ∧
    (e ≠ N_f N s0 → v.testBit e = false → fnF_X12_goRing th h 86 (nI n) (nI v) = (lp (lb_X12_goRing_92 th 86 (nI n) (nI v) (nI e)) lpN (nI (s0 + 1), h)).bind some) := by
  obtain ⟨p1, p2, p3, ⟨s, hs, p4, p5⟩, p6, p7, p8, p9⟩ := p
  have h6 := V.1
  have h8 := V.2.1
  have wf := w.1
  have mn := w.2.1
  obtain ⟨f1, f2, -, -⟩ := V.2.2.2 s hs
  obtain ⟨g1, g2, -, -⟩ := V.2.2.2 s0 p2
  have hn : n ≤ N_b N := by rw [← p7]; exact cntB_le _ _
  have he : e < N_b N := by omega
  have pre : ∀ (k : Int32 → Int32 → Option aH), ((gR h 86 11 5).bind fun a1 => (gR h 86 11 40).bind fun a2 => (aI h a2 14 (nI n - 1)).bind fun x3 => (aI h a1 14 x3).bind fun x4 => (gR h 86 11 4).bind fun a5 => (gR h 86 11 40).bind fun a6 => (aI h a6 14 0).bind fun x7 => (aI h a5 14 x7).bind fun x8 => k x4 x8) = k (nI e) (nI (N_f N s0)) := by
    intro k
    simp only [g_86_5 wf, g_86_40 wf, g_86_4 wf, Option.bind_some, nI_sub1 p1, aI_eq wf 110 14 8 rfl (n - 1) (by omega) (by decide), p4, aI_eq wf 89 14 8 rfl s (by omega) (by decide), (mn.2.2.2 s hs).2.1, show aI h 110 14 0 = some (hI h 110 0) from aI_eq wf 110 14 8 rfl 0 (by decide) (by decide), p3, aI_eq wf 88 14 8 rfl s0 (by omega) (by decide), (mn.2.2.2 s0 p2).1, p5]
  have top : fnF_X12_goRing th h 86 (nI n) (nI v) = (if nI e = nI (N_f N s0) then (gI h 86 11 42).bind fun x30 => if nI n < x30 then (pI h 86 11 42 (nI n)).bind fun h31 => (lp (lb_X12_goRing_46 th 86 (nI n)) lpN (0, h31)).bind fun o38 => some o38 else some h else (fn_X12_has h (nI v) (nI e)).bind fun x9 => if x9 = 0 then (gR h 86 11 40).bind fun a10 => (aI h a10 14 0).bind fun x11 => (some (x11 + 1)).bind fun x12 => (lp (lb_X12_goRing_92 th 86 (nI n) (nI v) (nI e)) lpN (x12, h)).bind fun o28 => some o28 else some h) := pre (fun x4 x8 => if x4 = x8 then (gI h 86 11 42).bind fun x30 => if nI n < x30 then (pI h 86 11 42 (nI n)).bind fun h31 => (lp (lb_X12_goRing_46 th 86 (nI n)) lpN (0, h31)).bind fun o38 => some o38 else some h else (fn_X12_has h (nI v) x4).bind fun x9 => if x9 = 0 then (gR h 86 11 40).bind fun a10 => (aI h a10 14 0).bind fun x11 => (some (x11 + 1)).bind fun x12 => (lp (lb_X12_goRing_92 th 86 (nI n) (nI v) x4) lpN (x12, h)).bind fun o28 => some o28 else some h)
  refine ⟨he, by omega, fun q1 q2 => ?_, fun q1 q2 => ?_, fun q1 q2 => ?_, fun q1 q2 => ?_⟩
  · rw [top, if_pos (by rw [q1]), w_gI wf 86 11 42 rfl, p8, Option.bind_some, if_pos (nI_lt q2 (by omega)), w_pI wf 86 11 42 _ rfl, Option.bind_some]
    obtain ⟨h', e', F', r1, r2⟩ : ∃ h', lp (lb_X12_goRing_46 th 86 (nI n)) lpN (0, sI h 86 42 (nI n)) = some h' ∧ Fr rgM h h' ∧ (hI h' 110 = hI h 110 ∧ hI h' 86 42 = nI n) ∧ ∀ i, i < n → hI h' 111 i = hI h 110 i := by
      refine lp_inv (fun k (s : Int32 × aH) => s.1 = nI k ∧ Fr rgM h s.2 ∧ (hI s.2 110 = hI h 110 ∧ hI s.2 86 42 = nI n) ∧ ∀ i, i < k → hI s.2 111 i = hI h 110 i) (fun h' => Fr rgM h h' ∧ (hI h' 110 = hI h 110 ∧ hI h' 86 42 = nI n) ∧ ∀ i, i < n → hI h' 111 i = hI h 110 i) n (by omega) ?_ ?_ ⟨rfl, (Fr.refl _ _).sI _ rfl, ⟨rfl, by rw [hI_row, if_pos rfl]⟩, fun i h => absurd h (Nat.not_lt_zero _)⟩
      · rintro k ⟨s1, g⟩ hk ⟨rfl, F, ⟨r1, r2⟩, r3⟩
        dsimp only at F r1 r2 r3
        have wg := F.wf wf
        refine Or.inl ⟨(nI (k + 1), sI g 111 k (hI h 110 k)), ?_, rfl, F.sI _ rfl, ⟨?_, ?_⟩, fun i hi => ?_⟩
        · unfold lb_X12_goRing_46
          simp only [if_pos (nI_lt hk (show n < 2 ^ 31 by omega)), g_86_40 wg, g_86_41 wg, Option.bind_some, aI_eq wg 110 14 8 rfl k (by omega) (by decide), r1, wI_eq wg 111 8 rfl k (by omega) (by decide), nI_1]
        · rw [hI_sI_r, if_neg (by decide)]; exact r1
        · rw [hI_sI_r, if_neg (by decide)]; exact r2
        · dsimp only
          rw [hI_row]
          by_cases q : i = k
          · rw [if_pos q, q]
          · rw [if_neg q]; exact r3 i (by omega)
      · rintro ⟨s1, g⟩ ⟨rfl, F, r1, r3⟩
        refine ⟨g, ?_, F, r1, r3⟩
        unfold lb_X12_goRing_46
        rw [if_neg (nI_nlt (Nat.le_refl _) (by omega))]
    exact ⟨h', by rw [e']; rfl, F', r1.1, r1.2, r2⟩
  · rw [top, if_pos (by rw [q1]), w_gI wf 86 11 42 rfl, p8, Option.bind_some, if_neg (nI_nlt (by omega) (by omega))]
  · rw [top, if_neg (nI_ne (by omega) (by omega) q1), has_eq _ _ (show e < 31 by omega), isBit_nI _ (show e < 31 by omega), q2, Option.bind_some, if_neg (show ¬ b2 true = 0 by decide)]
  · rw [top, if_neg (nI_ne (by omega) (by omega) q1), has_eq _ _ (show e < 31 by omega), isBit_nI _ (show e < 31 by omega), q2, Option.bind_some, if_pos (show b2 false = 0 by decide), g_86_40 wf, Option.bind_some, show aI h 110 14 0 = some (hI h 110 0) from aI_eq wf 110 14 8 rfl 0 (by decide) (by decide), p3, Option.bind_some, Option.bind_some, nI_1]
theorem ring_body (V : NV N) {g : aH} {n e v s : Nat} (w : MW N sem x g) (hn : n < 8) (he : e < N_b N) (hs : s < N_s N) (th : aH → Nat → Int32 → Int32 → Option aH) :
    lb_X12_goRing_92 th 86 (nI n) (nI v) (nI e) (nI s, g) = if isBit (x 13) s = false ∧ N_f N s = e then (th (sI g 110 n (nI s)) 86 (nI (n + 1)) (nI (v ||| 2 ^ e))).bind fun h22 => some (.inl (nI (s + 1), h22)) else some (.inl (nI (s + 1), g)) := by
  have h6 := V.1
  have h8 := V.2.1
  have wf := w.1
  have mn := w.2.1
  obtain ⟨f1, f2, -, -⟩ := V.2.2.2 s hs
  have fr := freeM_eq w (show s < 31 by omega) 0
  rw [or0] at fr
  have wf2 : Wf (sI g 110 n (nI s)) := wf
  have bt' : (1 : Int32) <<< (nI e &&& 31) = nI (2 ^ e) := bitI_eq (show e < 8 by omega)
  unfold lb_X12_goRing_92
  simp only [w_gI wf 86 11 2 rfl, mn.2.1, Option.bind_some, if_pos (nI_lt hs (show N_s N < 2 ^ 31 by omega)), k_86 wf, fr, g_86_4 wf, g_86_40 wf, aI_eq wf 88 14 8 rfl s (by omega) (by decide), (mn.2.2.2 s hs).1, wI_eq wf 110 8 rfl n hn (by decide), k_86 wf2, bt', fa_or, nI_1]
  cases c : isBit (x 13) s
  · rw [if_neg (show ¬ b2 (!false) = 0 by decide)]
    by_cases c2 : N_f N s = e
    · rw [if_pos (by rw [c2]), if_pos ⟨rfl, c2⟩]
    · rw [if_neg (nI_ne (by omega) (by omega) c2), if_neg (fun q => c2 q.2)]
  · rw [if_pos (show b2 (!true) = 0 by decide), if_neg (fun q => absurd q.1 (by decide))]
theorem ring_stop (V : NV N) {g : aH} {n e v : Nat} (w : MW N sem x g) (th : aH → Nat → Int32 → Int32 → Option aH) : lb_X12_goRing_92 th 86 (nI n) (nI v) (nI e) (nI (N_s N), g) = some (.inr g) := by
  have h8 := V.2.1
  unfold lb_X12_goRing_92
  simp only [w_gI w.1 86 11 2 rfl, w.2.1.2.1, Option.bind_some, if_neg (nI_nlt (Nat.le_refl (N_s N)) (show N_s N < 2 ^ 31 by omega))]
/-- what a call may change -/
def CHG (B bm : Nat) (h h' : aH) : Prop := ∃ bm', hI h' 86 42 = nI bm' ∧ bm' ≤ 1000000 ∧ ((bm' = bm ∧ hI h' 111 = hI h 111) ∨ (B ≤ bm' ∧ bm' ≤ 6 ∧ bm' < bm))
theorem RgP.down {h : aH} {n s0 e v bm : Nat} (V : NV N) (p : RgP N h n s0 e v bm) (he : e < N_b N) (hv : v.testBit e = false) {g : aH} (hg : ∀ i, i < n → hI g 110 i = hI h 110 i) {bm' : Nat} (hb : hI g 86 42 = nI bm') (hb2 : bm' ≤ 1000000) {s : Nat} (hs : s < N_s N) : RgP N (sI g 110 n (nI s)) (n + 1) s0 (N_t N s) (v ||| 2 ^ e) bm' := by
  obtain ⟨p1, p2, p3, -, p6, p7, p8, p9⟩ := p
  refine ⟨by omega, p2, ?_, ⟨s, hs, ?_, rfl⟩, Nat.or_lt_two_pow p6 (Nat.pow_lt_pow_right (by decide) he), by rw [cnt_or hv he, p7], ?_, hb2⟩
  · rw [hI_row, if_neg (by omega), hg 0 (by omega)]; exact p3
  · rw [Nat.add_sub_cancel, hI_row, if_pos rfl]
  · rw [hI_sI_r, if_neg (by decide)]; exact hb
theorem dfs_gen (V : NV N) {B s0 : Nat} : ∀ g h n e v bm, 7 ≤ n + g → MW N sem x h → RgP N h n s0 e v bm → B ≤ n + dst N (x 13) (N_f N s0) e → ∃ h', fn_X12_goRing g h 86 (nI n) (nI v) = some h' ∧ Fr rgM h h' ∧ (∀ i, i < n → hI h' 110 i = hI h 110 i) ∧ CHG B bm h h' := by
  intro g
  induction g with
  | zero =>
    intro h n e v bm hg w p
    obtain ⟨-, hn, -⟩ := goRing_open V w p (fun _ _ _ _ => none)
    omega
  | succ g ih =>
    intro h n e v bm hg w p hB
    obtain ⟨he, hn, o1, o2, o3, o4⟩ := goRing_open V w p (fn_X12_goRing g)
    have p' := p
    obtain ⟨p1, p2, p3, p4, p6, p7, p8, p9⟩ := p'
    have hT := (V.2.2.2 s0 p2).1
    have d := dst_FD (u := x 13) V hT
    have same : fnF_X12_goRing (fn_X12_goRing g) h 86 (nI n) (nI v) = some h → ∃ h', fn_X12_goRing (g + 1) h 86 (nI n) (nI v) = some h' ∧ Fr rgM h h' ∧ (∀ i, i < n → hI h' 110 i = hI h 110 i) ∧ CHG B bm h h' := fun q => ⟨h, q, Fr.refl _ _, fun _ _ => rfl, bm, p8, p9, Or.inl ⟨rfl, rfl⟩⟩
    by_cases c1 : e = N_f N s0
    · by_cases c2 : n < bm
      · obtain ⟨h', e1, F, r1, r2, r3⟩ := o1 c1 c2
        refine ⟨h', e1, F, fun i _ => by rw [r1], n, r2, by omega, Or.inr ⟨?_, hn, c2⟩⟩
        have := (d.zero (by decide)).mpr c1
        omega
      · exact same (o2 c1 c2)
    · cases c2 : v.testBit e
      · have h8 := V.2.1
        obtain ⟨h', e1, F, r1, r2⟩ : ∃ h', lp (lb_X12_goRing_92 (fn_X12_goRing g) 86 (nI n) (nI v) (nI e)) lpN (nI (s0 + 1), h) = some h' ∧ Fr rgM h h' ∧ (∀ i, i < n → hI h' 110 i = hI h 110 i) ∧ CHG B bm h h' := by
          refine lp_inv (fun k (s : Int32 × aH) => s.1 = nI (s0 + 1 + k) ∧ Fr rgM h s.2 ∧ (∀ i, i < n → hI s.2 110 i = hI h 110 i) ∧ CHG B bm h s.2) (fun h' => Fr rgM h h' ∧ (∀ i, i < n → hI h' 110 i = hI h 110 i) ∧ CHG B bm h h') (N_s N - (s0 + 1)) (by omega) ?_ ?_ ⟨rfl, Fr.refl _ _, fun _ _ => rfl, bm, p8, p9, Or.inl ⟨rfl, rfl⟩⟩
          · rintro k ⟨s1, q⟩ hk ⟨rfl, F, r1, bm', b1, b3, b4⟩
            dsimp only at F r1 b1 b4
            left
            have wq := w.to (F.mono rgM_sm)
            have hs : s0 + 1 + k < N_s N := by omega
            rw [ring_body V wq (by omega) he hs]
            by_cases c3 : isBit (x 13) (s0 + 1 + k) = false ∧ N_f N (s0 + 1 + k) = e
            · rw [if_pos c3]
              have wq2 : MW N sem x (sI q 110 n (nI (s0 + 1 + k))) := wq.to (((Fr.refl rgM q).sI _ rfl).mono rgM_sm)
              have nr := d.near hs c3.1
              rw [c3.2] at nr
              obtain ⟨h', e1, F', r1', bm2, b5, b6, b7⟩ := ih (sI q 110 n (nI (s0 + 1 + k))) (n + 1) (N_t N (s0 + 1 + k)) (v ||| 2 ^ e) bm' (by omega) wq2 (p.down V he c2 r1 b1 b3 hs) (by omega)
              refine ⟨(nI (s0 + 1 + (k + 1)), h'), by rw [e1]; rfl, rfl, F.trans (((Fr.refl rgM q).sI _ rfl).trans F'), fun i hi => ?_, bm2, b5, b6, ?_⟩
              · dsimp only
                rw [r1' i (by omega), hI_row, if_neg (by omega)]; exact r1 i hi
              · have e111 : hI (sI q 110 n (nI (s0 + 1 + k))) 111 = hI q 111 := by rw [hI_sI_r, if_neg (by decide)]
                rw [e111] at b7
                rcases b7 with ⟨y1, y2⟩ | ⟨y1, y2, y3⟩
                · rcases b4 with ⟨z1, z2⟩ | ⟨z1, z2, z3⟩
                  · exact Or.inl ⟨by omega, y2.trans z2⟩
                  · exact Or.inr ⟨by omega, by omega, by omega⟩
                · right
                  refine ⟨y1, y2, ?_⟩
                  rcases b4 with ⟨z1, -⟩ | ⟨-, -, z3⟩ <;> omega
            · rw [if_neg c3]
              exact ⟨_, rfl, rfl, F, r1, bm', b1, b3, b4⟩
          · rintro ⟨s1, q⟩ ⟨rfl, F, r1, b⟩
            refine ⟨q, ?_, F, r1, b⟩
            rw [show s0 + 1 + (N_s N - (s0 + 1)) = N_s N by omega]
            exact ring_stop V (w.to (F.mono rgM_sm)) _
        refine ⟨h', ?_, F, r1, r2⟩
        show fnF_X12_goRing (fn_X12_goRing g) h 86 (nI n) (nI v) = some h'
        rw [o4 c1 c2, e1]; rfl
      · exact same (o3 c1 c2)
end RING
