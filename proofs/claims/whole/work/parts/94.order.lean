/-! order as a question -/
section ORD2
variable {N : Net} {sem : Sem} {x : XX} {l : List Int64} {C M : aH}
def odC (a j : Nat) : Bool := a == 11 || (a == 12 || (a == 13 || tk 28 a j))
theorem odC_sc (a j : Nat) (e : sc a j = false) : odC a j = false := by
  unfold sc at e
  unfold odC tk
  simp at e ⊢
  omega
theorem tk_odC (a j : Nat) (e : odC a j = false) : tk 28 a j = false := by
  unfold odC at e
  simp at e
  exact e.2.2.2
theorem tk_sc' (a j : Nat) (e : sc a j = false) : tk 28 a j = false := tk_odC a j (odC_sc a j e)
theorem twl_odC (a j : Nat) (e : odC a j = false) : twl a j = false := by
  unfold odC at e
  unfold twl
  simp at e ⊢
  omega
theorem goC (V : NV N) {h : aH} (w : CW N sem x h) {n : Nat} (hn : n ≤ 6) {p : List Nat} (P : PV N n p) (R : TR p h) : ∃ h', fn_X11_boatsThatGo h 0 (nI n) = some (nI (ev N x p), h') ∧ Fr (tk 28) h h' := by
  have h8 := V.2.1
  have wf := w.1
  obtain ⟨h1, e1, F1, S1⟩ := takes_eq wf (k := 28) (q := 22) (by decide) (by decide) (by decide)
  have S1 := S1 x w.2.2.1
  obtain ⟨⟨r, h2⟩, e2, F2, q2⟩ : ∃ r : Int32 × aH, lp (lb_X11_boatsThatGo_15 0 (nI n)) lpN (0, 0, h1) = some r ∧ Fr (tk 28) h r.2 ∧ r.1 = nI (evR N x p n).2 := by
    refine lp_inv (fun k (s : Int32 × Int32 × aH) => s.1 = nI (evR N x p k).2 ∧ s.2.1 = nI k ∧ Fr (tk 28) h s.2.2 ∧ St s.2.2 28 (evR N x p k).1) _ n (by omega) ?_ ?_ ⟨rfl, rfl, F1, S1⟩
    · rintro k ⟨s1, s2, g⟩ hk ⟨rfl, rfl, F, S⟩
      dsimp only at F S
      left
      have wg := w.to (F.mono tk_sc')
      have wfg := wg.1
      have hs := P.2 k hk
      have ca := carryC_eq (Or.inr rfl) wfg wg.2.1 V S hs
      have a12 : aI g 12 14 (nI k) = some (nI (p.getD k 0)) := by rw [aI_eq wfg 12 14 6 rfl k (by omega) (by decide), F.i 12 k rfl, R k (by rw [P.1]; exact hk)]
      have z0 : nI (evR N x p k).2 + 0 = nI (evR N x p k).2 := Int32.add_zero _
      by_cases c : (evR N x p k).1 (N_f N (p.getD k 0)) = 0 ∨ (evR N x p k).1 (N_t N (p.getD k 0)) = 9
      · have es : evR N x p (k + 1) = evR N x p k := by
          show evS N _ _ = _
          unfold evS; rw [if_pos c]
        have ca' : fn_X0_carry g 3 28 (nI (p.getD k 0)) = some (0, g) := by
          rw [ca]
          by_cases c1 : (evR N x p k).1 (N_f N (p.getD k 0)) = 0
          · rw [if_pos c1]
          · rw [if_neg c1, if_pos (c.resolve_left c1)]
        rw [es]
        refine ⟨(nI (evR N x p k).2, nI (k + 1), g), ?_, rfl, rfl, F, S⟩
        unfold lb_X11_boatsThatGo_15
        simp only [if_pos (nI_lt hk (show n < 2 ^ 31 by omega)), g_0_1 wfg, g_0_9 wfg, g_0_3 wfg, g_11_0 wfg, Option.bind_some, a12, k_3 wfg, ca', z0, nI_1]
        rw [if_pos trivial]
      · have c1 : ¬ (evR N x p k).1 (N_f N (p.getD k 0)) = 0 := fun q => c (Or.inl q)
        have c2 : ¬ (evR N x p k).1 (N_t N (p.getD k 0)) = 9 := fun q => c (Or.inr q)
        rw [if_neg c1, if_neg c2] at ca
        have es : evR N x p (k + 1) = (btX N (evR N x p k).1 (p.getD k 0), (evR N x p k).2 + 1) := by
          show evS N _ _ = _
          unfold evS; rw [if_neg c]
        rw [es]
        refine ⟨(nI ((evR N x p k).2 + 1), nI (k + 1), sI (sI g 29 (N_f N (p.getD k 0)) ((evR N x p k).1 (N_f N (p.getD k 0)) - 1)) 29 (N_t N (p.getD k 0)) ((evR N x p k).1 (N_t N (p.getD k 0)) + 1)), ?_, rfl, rfl, (F.sI _ rfl).sI _ rfl, St_boat (Or.inr rfl) V S hs⟩
        unfold lb_X11_boatsThatGo_15
        simp only [if_pos (nI_lt hk (show n < 2 ^ 31 by omega)), g_0_1 wfg, g_0_9 wfg, g_0_3 wfg, g_11_0 wfg, Option.bind_some, a12, k_3 wfg, ca, nI_1]
        rw [if_neg one0]
    · rintro ⟨s1, s2, g⟩ ⟨rfl, rfl, F, S⟩
      refine ⟨(nI (evR N x p n).2, g), ?_, F, rfl⟩
      unfold lb_X11_boatsThatGo_15
      rw [if_neg (nI_nlt (Nat.le_refl n) (show n < 2 ^ 31 by omega))]
  dsimp only at F2 q2
  subst q2
  refine ⟨h2, ?_, F2⟩
  unfold fn_X11_boatsThatGo
  simp only [g_0_9 wf, g_0_7 wf, k_28 wf, Option.bind_some, e1, e2]
  unfold ev
  rw [P.1]
theorem oup_fix {e : List Nat → Nat} {n : Nat} : ∀ (L : List (List Nat)) (b : Nat × List Nat), n + 1 ≤ b.1 → (∀ p ∈ L, e p ≤ n) → L.foldl (oup e) b = b
  | [], _, _, _ => rfl
  | p :: L, b, hb, h => by
    have h1 : oup e b p = b := by
      unfold oup
      have := h p (List.mem_cons_self ..)
      rw [if_pos (by omega)]
    show L.foldl (oup e) (oup e b p) = b
    rw [h1]
    exact oup_fix L b hb (fun q hq => h q (List.mem_cons_of_mem _ hq))
theorem oup_pos {e : List Nat → Nat} : ∀ (L : List (List Nat)) (b : Nat × List Nat), (0 < L.length ∨ 1 ≤ b.1) → 1 ≤ (L.foldl (oup e) b).1
  | [], b, h => h.resolve_left (by simp)
  | p :: L, b, _ => by
    show 1 ≤ (L.foldl (oup e) (oup e b p)).1
    refine oup_pos L _ (Or.inr ?_)
    unfold oup
    split
    · omega
    · show 1 ≤ e p + 1
      omega
def B13 (n : Nat) (b : Nat × List Nat) (h : aH) : Prop := b.1 ≤ n + 1 ∧ (b.1 ≠ 0 → ∀ i, i < n → hI h 13 i = nI (b.2.getD i 0))
theorem cmpC : ∀ v, v < 9 → ∀ m, m < 10 → (nI m - 1 < nI v ↔ m < v + 1) := by decide +kernel
theorem orderC (V : NV N) {h : aH} (w : CW N sem x h) {n : Nat} (hn : n ≤ 6) (hns : n ≤ N_s N) (hsz : hI h 11 2 = nI n) (R : TR ((permL n).getD 0 []) h) :
    ∃ h', lp (lb_X11_order_28 0 (nI n)) lpN ((-1), 1, 0, h) = some (nI ((permL n).foldl (oup (ev N x)) (0, [])).1 - 1, h') ∧ Fr odC h h' ∧ B13 n ((permL n).foldl (oup (ev N x)) (0, [])) h' := by
  have pok := List.all_eq_true.mp (perm_ok n (by omega))
  have pv : ∀ p ∈ permL n, PV N n p := by
    intro p hp
    have q := pok p hp
    rw [Bool.and_eq_true] at q
    have l1 : p.length = n := beq_iff_eq.mp q.1
    refine ⟨l1, fun i hi => ?_⟩
    have := List.all_eq_true.mp q.2 (p[i]'(by omega)) (List.getElem_mem _)
    have e : p.getD i 0 = p[i]'(by omega) := by simp [show i < p.length by omega]
    rw [e]
    have := of_decide_eq_true this
    omega
  have evle : ∀ p ∈ permL n, ev N x p ≤ n := by
    intro p hp
    have := evR_le N x p p.length
    rw [(pv p hp).1] at this
    unfold ev
    rw [(pv p hp).1]
    exact this
  obtain ⟨pl, p0, pr⟩ := perm_len n (by omega)
  have ch := chain_get (permL n) (chain_ok n (by omega))
  generalize hL : permL n = L at *
  obtain ⟨⟨r, h'⟩, e, q1, F, q2⟩ : ∃ r : Int32 × aH, lp (lb_X11_order_28 0 (nI n)) lpN ((-1), 1, 0, h) = some r ∧ r.1 = nI (L.foldl (oup (ev N x)) (0, [])).1 - 1 ∧ Fr odC h r.2 ∧ B13 n (L.foldl (oup (ev N x)) (0, [])) r.2 := by
    refine lp_inv (fun k (s : Int32 × Int32 × Int32 × aH) => s.2.2.1 = nI k ∧ Fr odC h s.2.2.2 ∧ hI s.2.2.2 11 2 = nI n ∧ ∃ b, s.1 = nI b.1 - 1 ∧ B13 n b s.2.2.2 ∧ (L.drop k).foldl (oup (ev N x)) b = L.foldl (oup (ev N x)) (0, []) ∧ ((k < L.length ∧ s.2.1 = 1 ∧ TR (L.getD k []) s.2.2.2) ∨ (k = L.length ∧ s.2.1 = 0))) _ L.length (by omega) ?_ ?_ ⟨rfl, Fr.refl _ _, hsz, (0, []), rfl, ⟨Nat.zero_le _, fun q => absurd rfl q⟩, rfl, Or.inl ⟨p0, rfl, R⟩⟩
    · rintro k ⟨s1, s2, s3, g⟩ hk ⟨rfl, F, hsz, b, rfl, B, ef, I⟩
      dsimp only at F hsz B I
      have wg := w.to (F.mono odC_sc)
      have wfg := wg.1
      rcases I with ⟨-, rfl, RT⟩ | ⟨I1, -⟩
      · have ed : L.drop k = L.getD k [] :: L.drop (k + 1) := by
          rw [List.drop_eq_getElem_cons hk]
          have : L.getD k [] = L[k] := by simp [hk]
          rw [this]
        have mem : L.getD k [] ∈ L := by
          have : L.getD k [] = L[k] := by simp [hk]
          rw [this]; exact List.getElem_mem _
        have P := pv _ mem
        have le := evle _ mem
        have B1 := B.1
        by_cases c : b.1 < n + 1
        · left
          obtain ⟨g1, e1, G1⟩ := goC V wg hn P RT
          have wg1 := wg.to (G1.mono tk_sc')
          have wf1 := wg1.1
          have nx := ch k hk
          have plen : (L.getD k []).length ≤ 6 := by rw [P.1]; exact hn
          have RT1 : TR (L.getD k []) g1 := fun i hi => (G1.i 12 i rfl).trans (RT i hi)
          have sz1 : hI g1 11 2 = nI n := (G1.i 11 2 rfl).trans hsz
          have fin : ∀ (m : Int32) (g2 : aH), ((if nI (ev N x (L.getD k [])) ≤ nI b.1 - 1 then some (nI b.1 - 1, g1) else (gR g1 0 10 3).bind fun a14 => (ck g1 a14 8).bind fun u15 => (fn_X9_holdBest g1 a14).bind fun h16 => some (nI (ev N x (L.getD k [])), h16)) : Option (Int32 × aH)) = some (m, g2) → Fr odC h g2 → Wf g2 → hI g2 11 2 = nI n → TR (L.getD k []) g2 → m = nI (oup (ev N x) b (L.getD k [])).1 - 1 → B13 n (oup (ev N x) b (L.getD k [])) g2 →
              ∃ s', lb_X11_order_28 0 (nI n) (nI b.1 - 1, 1, nI k, g) = some (.inl s') ∧ s'.2.2.1 = nI (k + 1) ∧ Fr odC h s'.2.2.2 ∧ hI s'.2.2.2 11 2 = nI n ∧ ∃ b, s'.1 = nI b.1 - 1 ∧ B13 n b s'.2.2.2 ∧ (L.drop (k + 1)).foldl (oup (ev N x)) b = L.foldl (oup (ev N x)) (0, []) ∧ ((k + 1 < L.length ∧ s'.2.1 = 1 ∧ TR (L.getD (k + 1) []) s'.2.2.2) ∨ (k + 1 = L.length ∧ s'.2.1 = 0)) := by
            intro m g2 hm F2 wf2 sz2 R2 em B2
            have out : ∀ r q, nxL (L.getD k []) = some (r, q) → ∃ g3, lb_X11_order_28 0 (nI n) (nI b.1 - 1, 1, nI k, g) = some (.inl (m, r, nI (k + 1), g3)) ∧ Fr odC h g3 ∧ hI g3 11 2 = nI n ∧ B13 n (oup (ev N x) b (L.getD k [])) g3 ∧ TR q g3 := by
              intro r q en
              obtain ⟨g3, e3, F3, l3, R3⟩ := nxL_C wf2 plen (by rw [P.1]; exact sz2) R2 en
              refine ⟨g3, ?_, F2.trans (F3.mono twl_odC), (F3.i 11 2 rfl).trans sz2, ⟨B2.1, fun z i hi => (F3.i 13 i rfl).trans (B2.2 z i hi)⟩, R3⟩
              unfold lb_X11_order_28
              dsimp only
              rw [if_pos (show nI k < 720 from nI_lt (b := 720) (by omega) (by decide)), if_neg one0, if_pos ((cmpC n (by omega) b.1 (by omega)).mpr c), k_0 wfg, Option.bind_some, e1, Option.bind_some]
              dsimp only
              rw [hm, Option.bind_some]
              simp only [g_0_3 wf2, k_11 wf2, Option.bind_some, e3, nI_1]
            by_cases c2 : k + 1 < L.length
            · rw [if_pos c2] at nx
              obtain ⟨g3, o1, o2, o3, o4, o5⟩ := out _ _ nx
              exact ⟨_, o1, rfl, o2, o3, _, em, o4, by rw [← ef, ed]; rfl, Or.inl ⟨c2, rfl, o5⟩⟩
            · rw [if_neg c2] at nx
              obtain ⟨g3, o1, o2, o3, o4, o5⟩ := out _ _ nx
              exact ⟨_, o1, rfl, o2, o3, _, em, o4, by rw [← ef, ed]; rfl, Or.inr ⟨by omega, rfl⟩⟩
          by_cases c3 : ev N x (L.getD k []) + 1 ≤ b.1
          · have eo : oup (ev N x) b (L.getD k []) = b := by unfold oup; rw [if_pos c3]
            refine fin _ g1 (by rw [if_pos ((cmp43 _ (by omega) _ (by omega)).mpr c3)]) (F.trans (G1.mono tk_odC)) wf1 sz1 RT1 (by rw [eo]) (by rw [eo]; exact ⟨B.1, fun z i hi => (G1.i 13 i rfl).trans (B.2 z i hi)⟩)
          · have eo : oup (ev N x) b (L.getD k []) = (ev N x (L.getD k []) + 1, L.getD k []) := by unfold oup; rw [if_neg c3]
            have hb : fn_X9_holdBest g1 11 = some (rI g1 13 (va_cpy (hI g1 12) (hI g1 13) 0 0 6)) := by
              unfold fn_X9_holdBest
              simp only [g_11_0 wf1, g_11_1 wf1, Option.bind_some, cpI_eq wf1 12 13 rfl rfl]
            have Fh : Fr odC g1 (rI g1 13 (va_cpy (hI g1 12) (hI g1 13) 0 0 6)) := (Fr.refl _ _).rI _ (fun _ => rfl)
            have r12 : hI (rI g1 13 (va_cpy (hI g1 12) (hI g1 13) 0 0 6)) 12 = hI g1 12 := rfl
            refine fin (nI (ev N x (L.getD k []))) (rI g1 13 (va_cpy (hI g1 12) (hI g1 13) 0 0 6)) ?_ (F.trans ((G1.mono tk_odC).trans Fh)) (Fh.wf wf1) sz1 (fun i hi => by rw [r12]; exact RT1 i hi) ?_ ?_
            · rw [if_neg (fun q => c3 ((cmp43 _ (by omega) _ (by omega)).mp q))]
              simp only [g_0_3 wf1, k_11 wf1, Option.bind_some, hb]
            · rw [eo]
              show nI (ev N x (L.getD k [])) = nI (ev N x (L.getD k []) + 1) - 1
              rw [nI_sub1 (by omega)]; rfl
            · rw [eo]
              refine ⟨by show ev N x (L.getD k []) + 1 ≤ n + 1; omega, fun _ i hi => ?_⟩
              have e13 : hI (rI g1 13 (va_cpy (hI g1 12) (hI g1 13) 0 0 6)) 13 i = hI g1 12 i := by
                have := cpy_in (hI g1 12) (hI g1 13) 0 0 6 i (by omega)
                rw [Nat.zero_add] at this
                exact this
              rw [e13]
              exact RT1 i (by rw [P.1]; exact hi)
        · right
          refine ⟨(nI b.1 - 1, g), ?_, ?_, F, ?_⟩
          · unfold lb_X11_order_28
            dsimp only
            rw [if_pos (show nI k < 720 from nI_lt (b := 720) (by omega) (by decide)), if_neg one0, if_neg (fun q => c ((cmpC n (by omega) b.1 (by omega)).mp q))]
          · rw [← ef, oup_fix (n := n) _ _ (by omega) (fun p hp => evle p (List.mem_of_mem_drop hp))]
          · rw [← ef, oup_fix (n := n) _ _ (by omega) (fun p hp => evle p (List.mem_of_mem_drop hp))]
            exact B
      · omega
    · rintro ⟨s1, s2, s3, g⟩ ⟨rfl, F, hsz, b, rfl, B, ef, I⟩
      dsimp only at F hsz B I
      rcases I with ⟨I1, -⟩ | ⟨-, rfl⟩
      · omega
      · rw [List.drop_of_length_le (Nat.le_refl _)] at ef
        have ef : b = L.foldl (oup (ev N x)) (0, []) := ef
        refine ⟨(nI b.1 - 1, g), ?_, by rw [← ef], F, by rw [← ef]; exact B⟩
        unfold lb_X11_order_28
        dsimp only
        by_cases c : nI L.length < 720
        · rw [if_pos c, if_pos rfl]
        · rw [if_neg c]
  dsimp only at q1 F q2
  subst q1
  exact ⟨h', e, F, q2⟩
end ORD2
