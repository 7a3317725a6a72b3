/-! orders of boats: the reference's search -/
section ORD
variable {N : Net} {sem : Sem} {x : XX} {l : List Int64} {C M : aH}
def evS (N : Net) (z : XX × Nat) (s : Nat) : XX × Nat := if z.1 (N_f N s) = 0 ∨ z.1 (N_t N s) = 9 then z else (btX N z.1 s, z.2 + 1)
def evR (N : Net) (x : XX) (p : List Nat) : Nat → XX × Nat
  | 0 => (x, 0)
  | k + 1 => evS N (evR N x p k) (p.getD k 0)
theorem evR_le (N : Net) (x : XX) (p : List Nat) : ∀ k, (evR N x p k).2 ≤ k
  | 0 => Nat.le_refl _
  | k + 1 => by
    have := evR_le N x p k
    show (evS N (evR N x p k) (p.getD k 0)).2 ≤ k + 1
    unfold evS
    split
    · omega
    · show (evR N x p k).2 + 1 ≤ k + 1
      omega
def ev (N : Net) (x : XX) (p : List Nat) : Nat := (evR N x p p.length).2
def oup (e : List Nat → Nat) (b : Nat × List Nat) (p : List Nat) : Nat × List Nat := if e p + 1 ≤ b.1 then b else (e p + 1, p)
def PV (N : Net) (n : Nat) (p : List Nat) : Prop := p.length = n ∧ ∀ i, i < n → p.getD i 0 < N_s N
theorem cmp43 : ∀ v, v < 9 → ∀ m, m < 10 → (nI v ≤ nI m - 1 ↔ v + 1 ≤ m) := by decide +kernel
def odM (a j : Nat) : Bool := (a == 86 && j == 43) || (a == 99 || (a == 110 || a == 111))
theorem odM_sm (a j : Nat) (e : sm a j = false) : odM a j = false := by
  unfold sm at e
  unfold odM
  simp at e ⊢
  omega
def BR (n : Nat) (b : Nat × List Nat) (h : aH) : Prop := b.1 ≤ n + 1 ∧ hI h 86 43 = nI b.1 - 1 ∧ (b.1 ≠ 0 → ∀ i, i < n → hI h 111 i = nI (b.2.getD i 0))
theorem leafM (V : NV N) {h : aH} (w : MW N sem x h) {n : Nat} (hn : n ≤ 6) {p : List Nat} (P : PV N n p) (R : ∀ i, i < n → hI h 110 i = nI (p.getD i 0)) {b : Nat × List Nat} (B : BR n b h) (th : aH → Nat → Int32 → Int32 → Int32 → Option aH) (v : Int32) :
    ∃ h', fnF_X12_goOrder th h 86 (nI n) (nI n) v = some h' ∧ Fr odM h h' ∧ hI h' 110 = hI h 110 ∧ BR n (oup (ev N x) b p) h' := by
  have h8 := V.2.1
  have h6 := V.1
  have wf := w.1
  obtain ⟨f, el, Sx⟩ := layThen_eq wf w.2.2.1
  have Fl : Fr odM h (rI h 99 f) := (Fr.refl _ _).rI _ (fun _ => rfl)
  obtain ⟨⟨rv, h2⟩, e2, F2, q1, q2⟩ : ∃ r : Int32 × aH, lp (lb_X12_goOrder_23 th 86 (nI n)) lpN (0, 0, rI h 99 f) = some r ∧ Fr odM h r.2 ∧ (hI r.2 110 = hI h 110 ∧ hI r.2 111 = hI h 111 ∧ hI r.2 86 43 = hI h 86 43) ∧ r.1 = nI (evR N x p n).2 := by
    refine lp_inv (fun k (s : Int32 × Int32 × aH) => s.1 = nI (evR N x p k).2 ∧ s.2.1 = nI k ∧ Fr odM h s.2.2 ∧ (hI s.2.2 110 = hI h 110 ∧ hI s.2.2 111 = hI h 111 ∧ hI s.2.2 86 43 = hI h 86 43) ∧ XM s.2.2 99 (evR N x p k).1) _ n (by omega) ?_ ?_ ⟨rfl, rfl, Fl, ⟨rfl, rfl, rfl⟩, Sx⟩
    · rintro k ⟨s1, s2, g⟩ hk ⟨rfl, rfl, F, ⟨r1, r2, r3⟩, S⟩
      dsimp only at F r1 r2 r3 S
      left
      have wg := w.to (F.mono odM_sm)
      have wfg := wg.1
      have hs := P.2 k hk
      have rb := refBoat_eq (Or.inr rfl) wfg wg.2.1 V S hs
      have gb := goBoat_eq (Or.inr rfl) wfg wg.2.1 V S hs
      have a110 : aI g 110 14 (nI k) = some (nI (p.getD k 0)) := by rw [aI_eq wfg 110 14 8 rfl k (by omega) (by decide), r1, R k hk]
      by_cases c : (evR N x p k).1 (N_f N (p.getD k 0)) = 0 ∨ (evR N x p k).1 (N_t N (p.getD k 0)) = 9
      · have es : evR N x p (k + 1) = evR N x p k := by
          show evS N _ _ = _
          unfold evS; rw [if_pos c]
        have rb' : fn_X12_refusesBoat g 86 99 (nI (p.getD k 0)) = some (-2) := by
          rw [rb]
          by_cases c1 : (evR N x p k).1 (N_f N (p.getD k 0)) = 0
          · rw [if_pos c1]
          · rw [if_neg c1, if_pos (c.resolve_left c1)]
        rw [es]
        refine ⟨(nI (evR N x p k).2, nI (k + 1), g), ?_, rfl, rfl, F, ⟨r1, r2, r3⟩, S⟩
        unfold lb_X12_goOrder_23
        simp only [if_pos (nI_lt hk (show n < 2 ^ 31 by omega)), g_86_26 wfg, g_86_40 wfg, Option.bind_some, a110, k_86 wfg, rb', nI_1]
        rw [if_pos (by decide)]
      · have c1 : ¬ (evR N x p k).1 (N_f N (p.getD k 0)) = 0 := fun q => c (Or.inl q)
        have c2 : ¬ (evR N x p k).1 (N_t N (p.getD k 0)) = 9 := fun q => c (Or.inr q)
        rw [if_neg c1, if_neg c2] at rb
        have es : evR N x p (k + 1) = (btX N (evR N x p k).1 (p.getD k 0), (evR N x p k).2 + 1) := by
          show evS N _ _ = _
          unfold evS; rw [if_neg c]
        rw [es]
        refine ⟨(nI ((evR N x p k).2 + 1), nI (k + 1), sI (sI g 99 (N_f N (p.getD k 0)) ((evR N x p k).1 (N_f N (p.getD k 0)) - 1)) 99 (N_t N (p.getD k 0)) ((evR N x p k).1 (N_t N (p.getD k 0)) + 1)), ?_, rfl, rfl, (F.sI _ rfl).sI _ rfl, ⟨?_, ?_, ?_⟩, XM_up (XM_up S _ _) _ _⟩
        · unfold lb_X12_goOrder_23
          simp only [if_pos (nI_lt hk (show n < 2 ^ 31 by omega)), g_86_26 wfg, g_86_40 wfg, Option.bind_some, a110, k_86 wfg, rb, gb, nI_1]
          rw [if_neg (by decide)]
        · dsimp only; rw [hI_sI_r, if_neg (by decide), hI_sI_r, if_neg (by decide)]; exact r1
        · dsimp only; rw [hI_sI_r, if_neg (by decide), hI_sI_r, if_neg (by decide)]; exact r2
        · dsimp only; rw [hI_sI_r, if_neg (by decide), hI_sI_r, if_neg (by decide)]; exact r3
    · rintro ⟨s1, s2, g⟩ ⟨rfl, rfl, F, r, S⟩
      refine ⟨(nI (evR N x p n).2, g), ?_, F, r, rfl⟩
      unfold lb_X12_goOrder_23
      rw [if_neg (nI_nlt (Nat.le_refl n) (show n < 2 ^ 31 by omega))]
  dsimp only at F2 q1 q2
  obtain ⟨r1, r2, r3⟩ := q1
  have ee : (evR N x p n).2 = ev N x p := by unfold ev; rw [P.1]
  rw [ee] at q2
  subst q2
  have le := evR_le N x p n
  rw [ee] at le
  have w2 := F2.wf wf
  obtain ⟨B1, B2, B3⟩ := B
  have top : ∀ h', (if nI (ev N x p) ≤ nI b.1 - 1 then some h2 else (pI h2 86 11 43 (nI (ev N x p))).bind fun h34 => (lp (lb_X12_goOrder_93 th 86 (nI n)) lpN (0, h34)).bind fun o41 => some o41) = some h' → fnF_X12_goOrder th h 86 (nI n) (nI n) v = some h' := by
    intro h' hh
    unfold fnF_X12_goOrder
    rw [if_pos rfl]
    simp only [g_86_0 wf, g_86_26 wf, Option.bind_some, el, e2, w_gI w2 86 11 43 rfl, r3, B2]
    exact hh
  by_cases c : ev N x p + 1 ≤ b.1
  · refine ⟨h2, top h2 (by rw [if_pos ((cmp43 _ (by omega) _ (by omega)).mpr c)]), F2, r1, ?_⟩
    unfold oup
    rw [if_pos c]
    exact ⟨B1, r3.trans B2, fun q i hi => by rw [r2]; exact B3 q i hi⟩
  · obtain ⟨h3, e3, F3, q1, q2, q3⟩ : ∃ h3, lp (lb_X12_goOrder_93 th 86 (nI n)) lpN (0, sI h2 86 43 (nI (ev N x p))) = some h3 ∧ Fr odM h h3 ∧ hI h3 110 = hI h 110 ∧ hI h3 86 43 = nI (ev N x p) ∧ ∀ i, i < n → hI h3 111 i = nI (p.getD i 0) := by
      refine lp_inv (fun k (s : Int32 × aH) => s.1 = nI k ∧ Fr odM h s.2 ∧ hI s.2 110 = hI h 110 ∧ hI s.2 86 43 = nI (ev N x p) ∧ ∀ i, i < k → hI s.2 111 i = nI (p.getD i 0)) _ n (by omega) ?_ ?_ ⟨rfl, F2.sI _ rfl, ?_, by rw [hI_row, if_pos rfl], fun i h => absurd h (Nat.not_lt_zero _)⟩
      · rintro k ⟨s1, g⟩ hk ⟨rfl, F, z1, z2, z3⟩
        dsimp only at F z1 z2 z3
        have wg := F.wf wf
        refine Or.inl ⟨(nI (k + 1), sI g 111 k (nI (p.getD k 0))), ?_, rfl, F.sI _ rfl, ?_, ?_, fun i hi => ?_⟩
        · unfold lb_X12_goOrder_93
          simp only [if_pos (nI_lt hk (show n < 2 ^ 31 by omega)), g_86_40 wg, g_86_41 wg, Option.bind_some, aI_eq wg 110 14 8 rfl k (by omega) (by decide), z1, R k hk, wI_eq wg 111 8 rfl k (by omega) (by decide), nI_1]
        · rw [hI_sI_r, if_neg (by decide)]; exact z1
        · rw [hI_sI_r, if_neg (by decide)]; exact z2
        · dsimp only
          rw [hI_row]
          by_cases q : i = k
          · rw [if_pos q, q]
          · rw [if_neg q]; exact z3 i (by omega)
      · rintro ⟨s1, g⟩ ⟨rfl, F, z⟩
        refine ⟨g, ?_, F, z⟩
        unfold lb_X12_goOrder_93
        rw [if_neg (nI_nlt (Nat.le_refl n) (show n < 2 ^ 31 by omega))]
      · rw [hI_sI_r, if_neg (by decide)]; exact r1
    refine ⟨h3, top h3 ?_, F3, q1, ?_⟩
    · rw [if_neg (fun q => c ((cmp43 _ (by omega) _ (by omega)).mp q)), w_pI w2 86 11 43 _ rfl, Option.bind_some, e3]
      rfl
    · unfold oup
      rw [if_neg c]
      refine ⟨?_, ?_, fun _ => q3⟩
      · show ev N x p + 1 ≤ n + 1
        omega
      · show hI h3 86 43 = nI (ev N x p + 1) - 1
        rw [q2, nI_sub1 (by omega)]; rfl
theorem searchM (V : NV N) {n : Nat} (hn : n ≤ 6) (hns : n ≤ N_s N) : ∀ r g h p b v, p.length + r = n → r < g → MW N sem x h → (∀ i, i < p.length → p.getD i 0 < n) → (∀ i, i < p.length → hI h 110 i = nI (p.getD i 0)) → (∀ s, s < n → Nat.testBit v s = p.contains s) → BR n b h →
    ∃ h', fn_X12_goOrder g h 86 (nI p.length) (nI n) (nI v) = some h' ∧ Fr odM h h' ∧ (∀ i, i < p.length → hI h' 110 i = hI h 110 i) ∧ BR n ((vis n r p).foldl (oup (ev N x)) b) h' := by
  intro r
  induction r with
  | zero =>
    intro g h p b v hp hg w hv R U B
    obtain ⟨g, rfl⟩ : ∃ k, g = k + 1 := ⟨g - 1, by omega⟩
    have hp' : p.length = n := by omega
    rw [hp'] at hv R ⊢
    obtain ⟨h', e, F, q1, q2⟩ := leafM V w hn ⟨hp', fun i hi => Nat.lt_of_lt_of_le (hv i hi) hns⟩ R B (fn_X12_goOrder g) (nI v)
    exact ⟨h', e, F, fun i _ => by rw [q1], q2⟩
  | succ r ih =>
    intro g h p b v hp hg w hv R U B
    obtain ⟨g, rfl⟩ : ∃ k, g = k + 1 := ⟨g - 1, by omega⟩
    have wf := w.1
    have h8 := V.2.1
    obtain ⟨h', e, F, q1, q2⟩ : ∃ h', lp (lb_X12_goOrder_123 (fn_X12_goOrder g) 86 (nI p.length) (nI n) (nI v)) lpN (0, h) = some h' ∧ Fr odM h h' ∧ (∀ i, i < p.length → hI h' 110 i = hI h 110 i) ∧ BR n ((vis n (r + 1) p).foldl (oup (ev N x)) b) h' := by
      refine lp_inv (fun k (s : Int32 × aH) => s.1 = nI k ∧ Fr odM h s.2 ∧ (∀ i, i < p.length → hI s.2 110 i = hI h 110 i) ∧ BR n (((List.range k).flatMap fun s => if p.contains s = true then [] else vis n r (p ++ [s])).foldl (oup (ev N x)) b) s.2) _ n (by omega) ?_ ?_ ⟨rfl, Fr.refl _ _, fun _ _ => rfl, B⟩
      · rintro k ⟨s1, q⟩ hk ⟨rfl, F, q1, q2⟩
        dsimp only at F q1 q2
        left
        have wq := w.to (F.mono odM_sm)
        have wfq := wq.1
        rw [List.range_succ, List.flatMap_append, List.foldl_append]
        generalize ((List.range k).flatMap fun s => if p.contains s = true then [] else vis n r (p ++ [s])).foldl (oup (ev N x)) b = bk at q2
        have one : ([k].flatMap fun s => if p.contains s = true then [] else vis n r (p ++ [s])) = if p.contains k = true then [] else vis n r (p ++ [k]) := by simp
        rw [one]
        have hh : fn_X12_has q (nI v) (nI k) = some (b2 (p.contains k)) := by rw [has_eq _ _ (show k < 31 by omega), isBit_nI _ (show k < 31 by omega), U k hk]
        cases c : p.contains k
        · rw [if_neg (by decide)]
          have wq2 : MW N sem x (sI q 110 p.length (nI k)) := wq.to (((Fr.refl odM q).sI _ rfl).mono odM_sm)
          have bt' : (1 : Int32) <<< (nI k &&& 31) = nI (2 ^ k) := bitI_eq (show k < 8 by omega)
          have len : (p ++ [k]).length = p.length + 1 := by simp
          have gd : ∀ i, i < p.length + 1 → (p ++ [k]).getD i 0 = if i = p.length then k else p.getD i 0 := by
            intro i hi
            rw [List.getD_eq_getElem?_getD, List.getD_eq_getElem?_getD]
            by_cases q : i = p.length
            · subst q; simp
            · rw [if_neg q, List.getElem?_append_left (by omega)]
          obtain ⟨h', e1, F', r1, r2⟩ := ih g (sI q 110 p.length (nI k)) (p ++ [k]) bk (v ||| 2 ^ k) (by omega) (by omega) wq2 (by
              intro i hi
              rw [gd i (by omega)]
              by_cases q : i = p.length
              · rw [if_pos q]; exact hk
              · rw [if_neg q]; exact hv i (by omega)) (by
              intro i hi
              rw [gd i (by omega), hI_row]
              by_cases q : i = p.length
              · rw [if_pos q, if_pos q]
              · rw [if_neg q, if_neg q, q1 i (by omega)]; exact R i (by omega)) (by
              intro s hs
              rw [Nat.testBit_or, U s hs, List.contains_eq_mem, List.contains_eq_mem]
              by_cases q : k = s
              · subst q; simp [Nat.testBit_two_pow_self]
              · rw [Nat.testBit_two_pow_of_ne q]
                have : ¬ s = k := fun z => q z.symm
                simp [this]) (by
              obtain ⟨z1, z2, z3⟩ := q2
              refine ⟨z1, ?_, fun a i hi => ?_⟩
              · rw [hI_sI_r, if_neg (by decide)]; exact z2
              · rw [hI_sI_r, if_neg (by decide)]; exact z3 a i hi)
          rw [len] at e1 r1
          refine ⟨(nI (k + 1), h'), ?_, rfl, F.trans (((Fr.refl odM q).sI _ rfl).trans F'), fun i hi => ?_, r2⟩
          · unfold lb_X12_goOrder_123
            have kk : k_86 (h := sI q 110 p.length (nI k)) wq2.1 = k_86 wq2.1 := rfl
            simp only [if_pos (nI_lt hk (show n < 2 ^ 31 by omega)), hh, c, Option.bind_some]
            rw [if_pos (show b2 false = 0 by decide)]
            simp only [g_86_40 wfq, Option.bind_some, wI_eq wfq 110 8 rfl p.length (by omega) (by decide), k_86 wq2.1, bt', fa_or, nI_1, e1]
          · dsimp only
            rw [r1 i (by omega), hI_row, if_neg (by omega)]; exact q1 i hi
        · rw [if_pos rfl]
          refine ⟨(nI (k + 1), q), ?_, rfl, F, q1, q2⟩
          unfold lb_X12_goOrder_123
          simp only [if_pos (nI_lt hk (show n < 2 ^ 31 by omega)), hh, c, Option.bind_some, nI_1]
          rw [if_neg (show ¬ b2 true = 0 by decide)]
      · rintro ⟨s1, q⟩ ⟨rfl, F, q1, q2⟩
        refine ⟨q, ?_, F, q1, q2⟩
        unfold lb_X12_goOrder_123
        rw [if_neg (nI_nlt (Nat.le_refl n) (show n < 2 ^ 31 by omega))]
    refine ⟨h', ?_, F, q1, q2⟩
    show fnF_X12_goOrder (fn_X12_goOrder g) h 86 (nI p.length) (nI n) (nI v) = some h'
    unfold fnF_X12_goOrder
    rw [if_neg (fun q => by have := (nI_eq (by omega) (by omega)).mp q; omega), e]
    rfl
end ORD
