/-! questions: looks, learns -/
section Q10
variable {N : Net} {sem : Sem} {x : XX} {l : List Int64} {C M : aH}
/-- how many of the first k fitting sluices leave the level v -/
def cntL (N : Net) (sem : Sem) (x : XX) (f : Int32) (b d : Nat) (v : Int32) : Nat → Nat
  | 0 => 0
  | k + 1 => cntL N sem x f b d v k + (if isBit f k = true ∧ hXs N sem d (stO x (some k)) b = v then 1 else 0)
theorem cntL_le (f : Int32) (b d : Nat) (v : Int32) : ∀ k, cntL N sem x f b d v k ≤ k
  | 0 => Nat.le_refl 0
  | k + 1 => by
    have := cntL_le f b d v k
    show cntL N sem x f b d v k + _ ≤ k + 1
    split <;> omega
/-- the most left of the first u levels -/
def mostL (N : Net) (sem : Sem) (x : XX) (f : Int32) (b d : Nat) : Nat → Int32
  | 0 => 0
  | u + 1 => mx (mostL N sem x f b d u) (nI (cntL N sem x f b d (nI u) (N_s N)))
theorem mostL_le (w : WW N sem x l C M) (f : Int32) (b d : Nat) : ∀ u, ∃ k : Nat, k ≤ 8 ∧ mostL N sem x f b d u = nI k
  | 0 => ⟨0, by decide, rfl⟩
  | u + 1 => by
    have h8 := w.v.2.1
    obtain ⟨k, hk, ek⟩ := mostL_le w f b d u
    have := cntL_le (N := N) (sem := sem) (x := x) f b d (nI u) (N_s N)
    show ∃ k, k ≤ 8 ∧ mx (mostL N sem x f b d u) _ = nI k
    rw [ek]
    unfold mx
    split
    · exact ⟨_, by omega, rfl⟩
    · exact ⟨_, hk, rfl⟩
theorem stOv (w : WW N sem x l C M) {s : Nat} (hs : s < N_s N) (d : Nat) : VS N (MH + d) (hXs N sem d (stO x (some s))) := hXs_VS w.v sem (stO_ok w.v w.2.2.2.2.2 (fun q h => by cases h; exact hs)) d
theorem traceEach_eq (w : WW N sem x l C M) (f : Int32) : ∃ C1, fn_X11_traceEach C 0 f = some C1 ∧ Fr sc C C1 ∧ WW N sem x l C1 M ∧ ∀ s d, s < N_s N → isBit f s = true → d < 21 → hJ C1 83 (21 * s + d) = lN (codeN (hXs N sem d (stO x (some s)))) := by
  have h8 := w.v.2.1
  have sN : N_s N < 2 ^ 31 := by omega
  obtain ⟨r, er, Gr, wr, hr⟩ : ∃ r, lp (lb_X11_traceEach_2 0 f) lpN (0, C) = some r ∧ (Fr sc C r ∧ WW N sem x l r M ∧ ∀ s d, s < N_s N → isBit f s = true → d < 21 → hJ r 83 (21 * s + d) = lN (codeN (hXs N sem d (stO x (some s))))) := by
    refine lp_inv (fun k q => q.1 = nI k ∧ Fr sc C q.2 ∧ WW N sem x l q.2 M ∧ ∀ s d, s < k → isBit f s = true → d < 21 → hJ q.2 83 (21 * s + d) = lN (codeN (hXs N sem d (stO x (some s))))) _ (N_s N) (by omega) ?_ ?_ ⟨rfl, Fr.refl _ _, w, fun s d hs => absurd hs (by omega)⟩
    · rintro k ⟨q1, Ck⟩ hk ⟨rfl, GC, wk, hp⟩
      dsimp only at GC wk hp
      have ckk : nI k < nI (N_s N) := nI_lt hk sN
      by_cases st : isBit f k = true
      · have st' : ¬ ((f >>> (nI k &&& 31)) &&& 1) = 0 := by unfold isBit at st; simpa using st
        obtain ⟨C1, C2, M1, e1, wf1, gi, pi, -, F, -, b⟩ := wk.stuck (o := some k) (fun s h => by cases h; exact hk)
        have wb := wk.toC F sh_sc rfl (fun _ => rfl)
        obtain ⟨r, er, Gr, wr, hr, ho⟩ : ∃ r, lp (lb_X11_traceEach_42 0 f (nI k)) lpN (0, C2) = some r ∧ (Fr sc C r ∧ WW N sem x l r M ∧ (∀ d, d < 21 → hJ r 83 (21 * k + d) = lN (codeN (hXs N sem d (stO x (some k))))) ∧ ∀ j, (j < 21 * k ∨ 21 * k + 21 ≤ j) → hJ r 83 j = hJ Ck 83 j) := by
          refine lp_inv (fun d q => q.1 = nI d ∧ Fr sc C q.2 ∧ WW N sem x l q.2 M ∧ St q.2 28 (hXs N sem d (stO x (some k))) ∧ (∀ e, e < d → hJ q.2 83 (21 * k + e) = lN (codeN (hXs N sem e (stO x (some k))))) ∧ ∀ j, (j < 21 * k ∨ 21 * k + 21 ≤ j) → hJ q.2 83 j = hJ Ck 83 j) _ 21 (by decide) ?_ ?_ ⟨rfl, GC.trans (F.mono sh_sc), wb, b.2.1, fun e he => absurd he (by omega), fun j _ => by rw [F.jrow 83 (fun _ => rfl)]⟩
          · rintro d ⟨q1, Cd⟩ hd ⟨rfl, GC, wd, Sd, h1, h2⟩
            dsimp only at GC wd Sd h1 h2
            have vs := stOv w hk d
            have cd := code_eq wd.wc Sd vs (by unfold MH; omega) h8
            have Gs : Fr s83 Cd (sJ Cd 83 (21 * k + d) (lN (codeN (hXs N sem d (stO x (some k)))))) := (Fr.refl _ _).sJ _ rfl
            have ws := wd.toC Gs s83_sc rfl (fun _ => rfl)
            have Ss : St (sJ Cd 83 (21 * k + d) (lN (codeN (hXs N sem d (stO x (some k)))))) 28 (hXs N sem d (stO x (some k))) := Sd
            obtain ⟨C4, e4, F4, T4⟩ := pass_eq (z := (hXs N sem d (stO x (some k)), hI Cd 3 8, hI Cd 3 9, hI Cd 7)) (Or.inr rfl) ws.wc ws.cn ws.v ws.1.2.2.2 vs ⟨Ss, rfl, rfl, fun _ _ => rfl⟩
            have t4 := T4.1
            rw [hrZ_x] at t4
            have m21 : nI k * 21 + nI d = nI (21 * k + d) := by
              have : nI k * nI 21 = nI (k * 21) := pk_mul k 21
              rw [show nI k * 21 = _ from this, nI_add, Nat.mul_comm]
            refine Or.inl ⟨(nI (d + 1), C4), ?_, rfl, GC.trans ((Gs.mono s83_sc).trans (F4.mono sh_sc)), ws.toC F4 sh_sc rfl (fun _ => rfl), t4, fun e he => ?_, fun j hj => ?_⟩
            · unfold lb_X11_traceEach_42
              simp only [if_pos (show nI d < 21 from nI_lt (b := 21) hd (by decide)), g_0_13 wd.wc, g_0_9 wd.wc, k_28 wd.wc, Option.bind_some, cd, m21, wJ_eq wd.wc 83 168 rfl (21 * k + d) (by omega) (by decide), g_0_1 ws.wc, g_0_9 ws.wc, g_0_4 ws.wc, k_3 ws.wc, e4, nI_1]
            · show hJ C4 83 (21 * k + e) = _
              rw [F4.jrow 83 (fun _ => rfl), hJ_sJ]
              by_cases ed : e = d
              · subst ed; rw [if_pos ⟨rfl, rfl⟩]
              · rw [if_neg (by omega)]; exact h1 e (by omega)
            · show hJ C4 83 j = _
              rw [F4.jrow 83 (fun _ => rfl), hJ_sJ, if_neg (by omega)]; exact h2 j hj
          · rintro ⟨q1, Cd⟩ ⟨rfl, GC, wd, Sd, h1, h2⟩
            refine ⟨Cd, ?_, GC, wd, h1, h2⟩
            unfold lb_X11_traceEach_42
            rw [if_neg (show ¬ nI 21 < 21 by decide)]
        refine Or.inl ⟨(nI (k + 1), r), ?_, rfl, Gr, wr, fun s d hs hb hd => ?_⟩
        · unfold lb_X11_traceEach_2
          have pi' : pI C1 28 6 3 (x 13 ||| (1 <<< (nI k &&& 31))) = some C2 := pi
          simp only [g_0_1 wk.wc, w_gI wk.wc 3 0 1 rfl, wk.cn.2.1, Option.bind_some, if_pos ckk, if_neg st', k_0 wk.wc, e1, g_0_9 wf1, gi, pi', er, nI_1]
        · by_cases es : s = k
          · subst es; exact hr d hd
          · show hJ r 83 (21 * s + d) = _
            rw [ho (21 * s + d) (by omega)]; exact hp s d (by omega) hb hd
      · have st' : ((f >>> (nI k &&& 31)) &&& 1) = 0 := by unfold isBit at st; simpa using st
        refine Or.inl ⟨(nI (k + 1), Ck), ?_, rfl, GC, wk, fun s d hs hb hd => ?_⟩
        · unfold lb_X11_traceEach_2
          simp only [g_0_1 wk.wc, w_gI wk.wc 3 0 1 rfl, wk.cn.2.1, Option.bind_some, if_pos ckk, if_pos st', nI_1]
        · by_cases es : s = k
          · subst es; exact absurd hb st
          · exact hp s d (by omega) hb hd
    · rintro ⟨q1, Ck⟩ ⟨rfl, GC, wk, hp⟩
      dsimp only at GC wk hp
      refine ⟨Ck, ?_, GC, wk, hp⟩
      unfold lb_X11_traceEach_2
      simp only [g_0_1 wk.wc, w_gI wk.wc 3 0 1 rfl, wk.cn.2.1, Option.bind_some, if_neg (nI_nlt (Nat.le_refl (N_s N)) sN)]
  refine ⟨r, ?_, Gr, wr, hr⟩
  unfold fn_X11_traceEach
  rw [er]
  rfl
theorem mostLeft_eq (w : WW N sem x l C M) (f : Int32) (hc : ∀ s d, s < N_s N → isBit f s = true → d < 21 → hJ C 83 (21 * s + d) = lN (codeN (hXs N sem d (stO x (some s))))) {b d : Nat} (hb : b < 6) (hd : d < 21) : fn_X11_mostLeft C 0 f (nI b) (nI d) = some (mostL N sem x f b d 10) := by
  have h8 := w.v.2.1
  have sN : N_s N < 2 ^ 31 := by omega
  have inner : ∀ u (v4 : Int32), lp (lb_X11_mostLeft_19 C 0 f (nI b) (nI d) v4 (nI u)) lpN (0, 0) = some (nI (cntL N sem x f b d (nI u) (N_s N))) := by
    intro u v4
    refine lp_run (fun k => (nI (cntL N sem x f b d (nI u) k), nI k)) (N_s N) _ ?_ ?_ (by omega) rfl
    · intro k hk
      have ckk : nI k < nI (N_s N) := nI_lt hk sN
      have m21 : nI k * 21 + nI d = nI (21 * k + d) := by
        have : nI k * nI 21 = nI (k * 21) := pk_mul k 21
        rw [show nI k * 21 = _ from this, nI_add, Nat.mul_comm]
      unfold lb_X11_mostLeft_19
      simp only [g_0_1 w.wc, w_gI w.wc 3 0 1 rfl, w.cn.2.1, Option.bind_some, if_pos ckk, m21, g_0_13 w.wc, nI_1]
      by_cases st : isBit f k = true
      · have st' : ¬ ((f >>> (nI k &&& 31)) &&& 1) = 0 := by unfold isBit at st; simpa using st
        have a1 : aJ C 83 (nI (21 * k + d)) = some (lN (codeN (hXs N sem d (stO x (some k))))) := by rw [aJ_eq w.wc 83 168 rfl (21 * k + d) (by omega) (by decide), hc k d hk st hd]
        have lo := levelOf_eq C (stOv w hk d) (by unfold MH; omega) h8 hb
        simp only [if_neg st', Option.bind_some, if_neg one0, a1, lo]
        by_cases e : hXs N sem d (stO x (some k)) b = nI u
        · rw [if_pos e]
          show _ = some (Sum.inl (nI (cntL N sem x f b d (nI u) k + _), _))
          rw [if_pos ⟨st, e⟩]
        · rw [if_neg e]
          show _ = some (Sum.inl (nI (cntL N sem x f b d (nI u) k + _), _))
          rw [if_neg (fun q => e q.2)]
          rfl
      · have st' : ((f >>> (nI k &&& 31)) &&& 1) = 0 := by unfold isBit at st; simpa using st
        simp only [if_pos st', Option.bind_some, if_true]
        show _ = some (Sum.inl (nI (cntL N sem x f b d (nI u) k + _), _))
        rw [if_neg (fun q => st q.1)]
        rfl
    · unfold lb_X11_mostLeft_19
      simp only [g_0_1 w.wc, w_gI w.wc 3 0 1 rfl, w.cn.2.1, Option.bind_some, if_neg (nI_nlt (Nat.le_refl (N_s N)) sN)]
  have loop : lp (lb_X11_mostLeft_6 C 0 f (nI b) (nI d)) lpN (0, 0) = some (mostL N sem x f b d 10) := by
    refine lp_run (fun u => (mostL N sem x f b d u, nI u)) 10 _ ?_ ?_ (by decide) rfl
    · intro u hu
      unfold lb_X11_mostLeft_6
      simp only [if_pos (show nI u ≤ 9 from nI_le (b := 9) (by omega) (by decide)), inner, Option.bind_some, nI_1]
      rfl
    · unfold lb_X11_mostLeft_6
      rw [if_neg (show ¬ nI 10 ≤ 9 by decide)]
  unfold fn_X11_mostLeft
  rw [loop]
  rfl
def s108 (a j : Nat) : Bool := a == 108
theorem s108_sm (a j : Nat) (e : sm a j = false) : s108 a j = false := by
  unfold sm at e
  unfold s108
  simp at e ⊢
  omega
theorem cell_eq (h : aH) (b d : Nat) : fn_X12_cellOf h (nI b) (nI d) = some (nI ((21 * b + d) * 10)) := by
  unfold fn_X12_cellOf
  have m1 : (21 : Int32) * nI b = nI (21 * b) := pk_mul 21 b
  have m2 : nI (21 * b + d) * (10 : Int32) = nI ((21 * b + d) * 10) := pk_mul (21 * b + d) 10
  rw [m1, nI_add, m2]
/-- the reference counts in its row -/
theorem manyM_eq (w : WW N sem x l C M) (f : Int32) : ∃ M1 M2, lp (lb_X12_looks_26 86 f) lpN (0, M) = some M1 ∧ lp (lb_X12_looks_48 86 f) lpN (0, M1) = some M2 ∧ Fr sm M M2 ∧ WW N sem x l C M2 ∧ ∀ b d v, b < N_b N → d < 21 → v < 10 → hI M2 108 ((21 * b + d) * 10 + v) = nI (cntL N sem x f b d (nI v) (N_s N)) := by
  have h6 := w.v.1
  have h8 := w.v.2.1
  have sN : N_s N < 2 ^ 31 := by omega
  have bN : N_b N < 2 ^ 31 := by omega
  obtain ⟨G, eG⟩ : ∃ G : Nat → XX, G = fun k j => if j < k then 0 else hI M 108 j := ⟨_, rfl⟩
  have wk : ∀ k, Wf (rI M 108 (G k)) := fun k => w.wm
  have e0 : rI M 108 (G 0) = M := by
    have : G 0 = hI M 108 := by rw [eG]; funext j; simp
    rw [this, rI_self]
  have loop0 : lp (lb_X12_looks_26 86 f) lpN (0, M) = some (rI M 108 (G 1260)) := by
    refine lp_run (fun k => (nI k, rI M 108 (G k))) 1260 _ ?_ ?_ (by decide) (by rw [e0]; rfl)
    · intro k hk
      unfold lb_X12_looks_26
      simp only [if_pos (show nI k < 1260 from nI_lt (b := 1260) hk (by decide)), Option.bind_some, g_86_38 (wk k), wI_eq (wk k) 108 1260 rfl k hk (by decide), sI_rI, nI_1]
      have : va_up (G k) k 0 = G (k + 1) := by
        funext j
        rw [eG]
        unfold va_up
        by_cases hj : j = k
        · subst hj; simp
        · by_cases hj2 : j < k
          · simp [hj, hj2, show j < k + 1 by omega]
          · simp [hj, hj2, show ¬ j < k + 1 by omega]
      rw [this]
    · have c2 : ¬ nI 1260 < 1260 := by decide
      unfold lb_X12_looks_26
      simp only [if_neg c2]
  have H0 : Fr s108 M (rI M 108 (G 1260)) := (Fr.refl _ _).rI _ (fun _ => rfl)
  have w1 := w.toM H0 s108_sm rfl (fun _ => rfl)
  have z0 : ∀ j, j < 1260 → hI (rI M 108 (G 1260)) 108 j = 0 := fun j hj => by rw [hI_rI, if_pos rfl, eG]; simp [hj]
  obtain ⟨r, er, Hr, wr, hr⟩ : ∃ r, lp (lb_X12_looks_48 86 f) lpN (0, rI M 108 (G 1260)) = some r ∧ (Fr sm M r ∧ WW N sem x l C r ∧ ∀ b d v, b < N_b N → d < 21 → v < 10 → hI r 108 ((21 * b + d) * 10 + v) = nI (cntL N sem x f b d (nI v) (N_s N))) := by
    refine lp_inv (fun k q => q.1 = nI k ∧ Fr sm M q.2 ∧ WW N sem x l C q.2 ∧ ∀ b d v, b < N_b N → d < 21 → v < 10 → hI q.2 108 ((21 * b + d) * 10 + v) = nI (cntL N sem x f b d (nI v) k)) _ (N_s N) (by omega) ?_ ?_ ⟨rfl, H0.mono s108_sm, w1, fun b d v hb hd hv => z0 _ (by omega)⟩
    · rintro k ⟨q1, Mk⟩ hk ⟨rfl, GM, wk, hp⟩
      dsimp only at GM wk hp
      have ckk : nI k < nI (N_s N) := nI_lt hk sN
      by_cases st : isBit f k = true
      · obtain ⟨C1, C2, M1, -, -, -, -, eM, -, H, b⟩ := wk.stuck (o := some k) (fun s h => by cases h; exact hk)
        have wb := wk.toM H mh_sm rfl (fun _ => rfl)
        have eM' : fn_X12_beginStuck Mk 86 (nI k) = some M1 := eM
        -- hour by hour
        obtain ⟨r, er, Hr, wr, hr⟩ : ∃ r, lp (lb_X12_looks_74 86 f (nI k)) lpN (0, M1) = some r ∧ (Fr sm M r ∧ WW N sem x l C r ∧ ∀ b d v, b < N_b N → d < 21 → v < 10 → hI r 108 ((21 * b + d) * 10 + v) = nI (cntL N sem x f b d (nI v) (k + 1))) := by
          refine lp_inv (fun d q => q.1 = nI d ∧ Fr sm M q.2 ∧ WW N sem x l C q.2 ∧ XM q.2 99 (hXs N sem d (stO x (some k))) ∧ ∀ b e v, b < N_b N → e < 21 → v < 10 → hI q.2 108 ((21 * b + e) * 10 + v) = nI (cntL N sem x f b e (nI v) (if e < d then k + 1 else k))) _ 21 (by decide) ?_ ?_ ⟨rfl, GM.trans (H.mono mh_sm), wb, b.2.2.1, fun b e v hb he hv => ?_⟩
          · rintro d ⟨q1, Md⟩ hd ⟨rfl, GM, wd, Xd, h1⟩
            dsimp only at GM wd Xd h1
            have vs := stOv w hk d
            -- basin by basin
            obtain ⟨r, er, Hr, wr, hr⟩ : ∃ r, lp (lb_X12_looks_83 86 f (nI k) (nI d)) lpN (0, Md) = some r ∧ (Fr s108 Md r ∧ WW N sem x l C r ∧ ∀ b e v, b < N_b N → e < 21 → v < 10 → hI r 108 ((21 * b + e) * 10 + v) = nI (cntL N sem x f b e (nI v) (if e < d + 1 then k + 1 else k))) := by
              refine lp_inv (fun c q => q.1 = nI c ∧ Fr s108 Md q.2 ∧ WW N sem x l C q.2 ∧ ∀ b e v, b < N_b N → e < 21 → v < 10 → hI q.2 108 ((21 * b + e) * 10 + v) = nI (cntL N sem x f b e (nI v) (if e < d ∨ e = d ∧ b < c then k + 1 else k))) _ (N_b N) (by omega) ?_ ?_ ⟨rfl, Fr.refl _ _, wd, fun b e v hb he hv => ?_⟩
              · rintro c ⟨q1, Mc⟩ hc ⟨rfl, Hc, wc, hp⟩
                dsimp only at Hc wc hp
                obtain ⟨y, hy, ey, -⟩ := vs.1 c (by omega)
                have a1 : aI Mc 99 14 (nI c) = some (nI y) := by rw [aI_eq wc.wm 99 14 16 rfl c (by omega) (by decide), Hc.i 99 c rfl, Xd c (by omega), ey]
                have i1 : (21 * c + d) * 10 + y < 1260 := by omega
                have a2 : aI Mc 108 14 (nI ((21 * c + d) * 10 + y)) = some (nI (cntL N sem x f c d (nI y) k)) := by
                  rw [aI_eq wc.wm 108 14 1260 rfl _ i1 (by decide), hp c d y hc hd (by omega), if_neg (by omega)]
                have Hs : Fr s108 Mc (sI Mc 108 ((21 * c + d) * 10 + y) (nI (cntL N sem x f c d (nI y) k + 1))) := (Fr.refl _ _).sI _ rfl
                refine Or.inl ⟨(nI (c + 1), sI Mc 108 ((21 * c + d) * 10 + y) (nI (cntL N sem x f c d (nI y) k + 1))), ?_, rfl, Hc.trans Hs, wc.toM Hs s108_sm rfl (fun _ => rfl), fun b e v hb he hv => ?_⟩
                · unfold lb_X12_looks_83
                  simp only [w_gI wc.wm 86 11 1 rfl, wc.mn.1, Option.bind_some, if_pos (nI_lt hc bN), g_86_38 wc.wm, cell_eq, g_86_26 wc.wm, a1, nI_add, a2, wI_eq wc.wm 108 1260 rfl _ i1 (by decide), nI_1]
                · show hI (sI Mc 108 _ _) 108 _ = _
                  rw [hI_sI]
                  by_cases es : b = c ∧ e = d
                  · obtain ⟨rfl, rfl⟩ := es
                    rw [if_pos (show e < e ∨ e = e ∧ b < b + 1 from Or.inr ⟨rfl, by omega⟩)]
                    by_cases ev : v = y
                    · subst ev
                      rw [if_pos ⟨rfl, rfl⟩]
                      show _ = nI (cntL N sem x f b e (nI v) k + _)
                      rw [if_pos ⟨st, ey⟩]
                    · rw [if_neg (by omega), hp b e v hb he hv, if_neg (by omega)]
                      show _ = nI (cntL N sem x f b e (nI v) k + _)
                      rw [if_neg]
                      · rfl
                      · rintro ⟨-, q⟩
                        rw [ey] at q
                        exact ev ((nI_eq (by omega) (by omega)).mp q).symm
                  · rw [if_neg (by rintro ⟨-, q⟩; omega), hp b e v hb he hv]
                    have : (e < d ∨ e = d ∧ b < c) ↔ (e < d ∨ e = d ∧ b < c + 1) := by omega
                    by_cases q : e < d ∨ e = d ∧ b < c
                    · rw [if_pos q, if_pos (this.mp q)]
                    · rw [if_neg q, if_neg (fun z => q (this.mpr z))]
              · rintro ⟨q1, Mc⟩ ⟨rfl, Hc, wc, hp⟩
                dsimp only at Hc wc hp
                refine ⟨Mc, ?_, Hc, wc, fun b e v hb he hv => ?_⟩
                · unfold lb_X12_looks_83
                  simp only [w_gI wc.wm 86 11 1 rfl, wc.mn.1, Option.bind_some, if_neg (nI_nlt (Nat.le_refl (N_b N)) bN)]
                · rw [hp b e v hb he hv]
                  have : (e < d ∨ e = d ∧ b < N_b N) ↔ e < d + 1 := by omega
                  by_cases q : e < d + 1
                  · rw [if_pos q, if_pos (this.mpr q)]
                  · rw [if_neg q, if_neg (fun z => q (this.mp z))]
              · show hI Md 108 _ = _
                rw [h1 b e v hb he hv]
                by_cases q : e < d
                · rw [if_pos q, if_pos (Or.inl q)]
                · rw [if_neg q, if_neg (by omega)]
            have Xr : XM r 99 (hXs N sem d (stO x (some k))) := XM_to (Hr.row 99 fun _ => rfl) Xd
            obtain ⟨M4, e4, F4, T4⟩ := goHour_eq (z := (hXs N sem d (stO x (some k)), hI r 86 27, hI r 86 28, hI r 100)) (Or.inr rfl) wr.wm wr.mn wr.v wr.2.1.2.2.2 vs (by unfold MH; omega) ⟨Xr, rfl, rfl, fun _ _ => rfl⟩
            have t4 := T4.1
            rw [hrZ_x] at t4
            refine Or.inl ⟨(nI (d + 1), M4), ?_, rfl, GM.trans ((Hr.mono s108_sm).trans (F4.mono mh_sm)), wr.toM F4 mh_sm rfl (fun _ => rfl), t4, fun b e v hb he hv => ?_⟩
            · unfold lb_X12_looks_74
              simp only [if_pos (show nI d ≤ 20 from nI_le (b := 20) (by omega) (by decide)), er, Option.bind_some, g_86_26 wr.wm, k_86 wr.wm, e4, nI_1]
            · show hI M4 108 _ = _
              rw [F4.i 108 _ rfl]; exact hr b e v hb he hv
          · rintro ⟨q1, Md⟩ ⟨rfl, GM, wd, Xd, h1⟩
            refine ⟨Md, ?_, GM, wd, fun b d v hb hd hv => ?_⟩
            · unfold lb_X12_looks_74
              rw [if_neg (show ¬ nI 21 ≤ 20 by decide)]
            · rw [h1 b d v hb hd hv, if_pos hd]
          · show hI M1 108 _ = _
            rw [if_neg (by omega), H.i 108 _ rfl]; exact hp b e v hb he hv
        refine Or.inl ⟨(nI (k + 1), r), ?_, rfl, Hr, wr, hr⟩
        unfold lb_X12_looks_48
        simp only [w_gI wk.wm 86 11 2 rfl, wk.mn.2.1, Option.bind_some, if_pos ckk, has_eq Mk f (show k < 31 by omega), st, if_neg (show ¬ b2 true = 0 by decide), k_86 wk.wm, eM', er, nI_1]
      · have sf : isBit f k = false := by simpa using st
        refine Or.inl ⟨(nI (k + 1), Mk), ?_, rfl, GM, wk, fun b d v hb hd hv => ?_⟩
        · unfold lb_X12_looks_48
          simp only [w_gI wk.wm 86 11 2 rfl, wk.mn.2.1, Option.bind_some, if_pos ckk, has_eq Mk f (show k < 31 by omega), sf, if_pos (show b2 false = 0 from rfl), nI_1]
        · show hI Mk 108 _ = nI (cntL N sem x f b d (nI v) k + _)
          rw [if_neg (fun q => st q.1)]
          exact hp b d v hb hd hv
    · rintro ⟨q1, Mk⟩ ⟨rfl, GM, wk, hp⟩
      dsimp only at GM wk hp
      refine ⟨Mk, ?_, GM, wk, hp⟩
      unfold lb_X12_looks_48
      simp only [w_gI wk.wm 86 11 2 rfl, wk.mn.2.1, Option.bind_some, if_neg (nI_nlt (Nat.le_refl (N_s N)) sN)]
  exact ⟨_, r, loop0, er, Hr, wr, hr⟩
end Q10
