/-! locks by turns -/
def s85 (a j : Nat) : Bool := a == 85
def s112 (a j : Nat) : Bool := a == 112
theorem s85_sc (a j : Nat) (e : sc a j = false) : s85 a j = false := by
  unfold sc at e
  unfold s85
  simp at e ⊢
  omega
theorem s112_sm (a j : Nat) (e : sm a j = false) : s112 a j = false := by
  unfold sm at e
  unfold s112
  simp at e ⊢
  omega
theorem sub_c1 : ∀ x, x < 21 → ∀ s, s < 3 → (s ≤ x ∧ nI x - nI s = nI (x - s)) ∨ (x < s ∧ nI x - nI s < 0) := by decide +kernel
theorem sub_c2 : ∀ y, y < 21 → ∀ s, s < 3 → (2 ≤ y + s ∧ (nI y - 2) + nI s = nI (y + s - 2)) ∨ (y + s < 2 ∧ (nI y - 2) + nI s < 0) := by decide +kernel
theorem lp_go {σ ρ : Type} {body : σ → Option (σ ⊕ ρ)} {s s' : σ} (n : Nat) (h : body s = some (.inl s')) : lp body (n + 1) s = lp body n s' := by simp only [lp, h]
theorem lp_end {σ ρ : Type} {body : σ → Option (σ ⊕ ρ)} {s : σ} {r : ρ} (n : Nat) (h : body s = some (.inr r)) : lp body (n + 1) s = some r := by simp only [lp, h]
section Locks
variable {N : Net} {sem : Sem} {x : XX} {l : List Int64} {C M : aH}
def okL (C : aH) (x y s : Nat) : Bool := decide (s ≤ x ∧ 2 ≤ y + s) && !isBit (hI C 85 (x - s)) (y + s - 2)
theorem loses_eq (w : Wf M) {a b : Int32} {p q : Nat} {v : Bool} (h : (a < 0 ∨ b < 0) ∧ v = false ∨ (a = nI p ∧ b = nI q ∧ p < 21 ∧ q < 21 ∧ hI M 112 (21 * p + q) = b2 v)) : fn_X12_losesAt M 86 a b = some (b2 v) := by
  unfold fn_X12_losesAt
  rcases h with ⟨h, rfl⟩ | ⟨rfl, rfl, hp, hq, e⟩
  · by_cases c1 : a < 0
    · rw [if_pos c1]; rfl
    · rw [if_neg c1, if_pos (h.resolve_left c1)]; rfl
  · have m : (21 : Int32) * nI p = nI (21 * p) := pk_mul 21 p
    have a1 : aI M 112 16 (nI (21 * p + q)) = some (b2 v) := by rw [aI_eq w 112 16 441 rfl (21 * p + q) (by omega) (by decide), e]
    rw [if_neg (nI_pos (by omega)), if_neg (nI_pos (by omega)), g_86_44 w, Option.bind_some, m, nI_add, a1, Option.bind_some]
    cases v <;> rfl
theorem mv_eq (wc : Wf C) (wm : Wf M) {x y : Nat} (hx : x ≤ 20) (hy : y ≤ 20) (rel : ∀ s, s < 3 → s ≤ x → 2 ≤ y + s → hI M 112 (21 * (x - s) + (y + s - 2)) = b2 (!isBit (hI C 85 (x - s)) (y + s - 2))) :
    ∃ r q, fn_X1_leastWinningMove C 85 (nI x) (nI y) = some r ∧ fn_X12_moveOf M 86 (nI x) (nI y) = some q ∧ ((r = -1 ∧ q = 0) ∨ (r = 0 ∧ q = 2) ∨ (r = 1 ∧ q = 4) ∨ (r = 2 ∧ q = 6)) := by
  have al85 : al C 85 = some (Int32.ofNat 21) := by
    unfold al
    rw [wc.1]
    rfl
  have step : ∀ s, s < 3 → lb_X1_leastWinningMove_2 C 85 (nI x) (nI y) (nI s) = if okL C x y s = true then some (.inr (nI s)) else some (.inl (nI (s + 1))) := by
    intro s hs
    unfold lb_X1_leastWinningMove_2 okL
    rw [if_pos (show nI s ≤ 2 from nI_le (b := 2) (by omega) (by decide)), Option.bind_some, Option.bind_some, nI_1]
    rcases sub_c1 x (by omega) s hs with ⟨h1, e1⟩ | ⟨h1, e1⟩
    · rw [e1, if_neg (nI_pos (by omega)), al85, Option.bind_some, if_pos (show nI (x - s) < Int32.ofNat 21 from nI_lt (b := 21) (by omega) (by decide))]
      rcases sub_c2 y (by omega) s hs with ⟨h2, e2⟩ | ⟨h2, e2⟩
      · rw [e2, if_neg (nI_pos (by omega)), Option.bind_some, if_neg one0, aI_eq wc 85 14 21 rfl (x - s) (by omega) (by decide), Option.bind_some]
        have d : decide (s ≤ x ∧ 2 ≤ y + s) = true := by simp [h1, h2]
        rw [d, Bool.true_and]
        by_cases c : ((hI C 85 (x - s) >>> (nI (y + s - 2) &&& 31)) &&& 1) = 0
        · have : isBit (hI C 85 (x - s)) (y + s - 2) = false := by unfold isBit; simp [c]
          rw [if_pos c, this]; rfl
        · have : isBit (hI C 85 (x - s)) (y + s - 2) = true := by unfold isBit; simp [c]
          rw [if_neg c, this]; rfl
      · rw [if_pos e2, Option.bind_some, if_pos rfl]
        have d : decide (s ≤ x ∧ 2 ≤ y + s) = false := by simp; omega
        rw [d, Bool.false_and]; rfl
    · rw [if_pos e1, Option.bind_some, if_pos rfl]
      have d : decide (s ≤ x ∧ 2 ≤ y + s) = false := by simp; omega
      rw [d, Bool.false_and]; rfl
  have stop : lb_X1_leastWinningMove_2 C 85 (nI x) (nI y) (nI 3) = some (.inr (-1)) := by
    unfold lb_X1_leastWinningMove_2
    rw [if_neg (show ¬ nI 3 ≤ 2 by decide)]
  have cls : fn_X1_leastWinningMove C 85 (nI x) (nI y) = some (if okL C x y 0 = true then 0 else if okL C x y 1 = true then 1 else if okL C x y 2 = true then 2 else -1) := by
    have st0 := step 0 (by decide)
    have st1 := step 1 (by decide)
    have st2 := step 2 (by decide)
    have : lp (lb_X1_leastWinningMove_2 C 85 (nI x) (nI y)) (1996 + 4) (nI 0) = some (if okL C x y 0 = true then 0 else if okL C x y 1 = true then 1 else if okL C x y 2 = true then 2 else -1) := by
      by_cases c0 : okL C x y 0 = true
      · rw [if_pos c0] at st0
        rw [lp_end 1999 st0, if_pos c0]; rfl
      · rw [if_neg c0] at st0
        rw [lp_go 1999 st0, if_neg c0]
        by_cases c1 : okL C x y 1 = true
        · rw [if_pos c1] at st1
          rw [lp_end 1998 st1, if_pos c1]; rfl
        · rw [if_neg c1] at st1
          rw [lp_go 1998 st1, if_neg c1]
          by_cases c2 : okL C x y 2 = true
          · rw [if_pos c2] at st2
            rw [lp_end 1997 st2, if_pos c2]; rfl
          · rw [if_neg c2] at st2
            rw [lp_go 1997 st2, if_neg c2, lp_end 1996 stop]
    unfold fn_X1_leastWinningMove
    rw [show lp (lb_X1_leastWinningMove_2 C 85 (nI x) (nI y)) lpN 0 = _ from this]
    rfl
  have los : ∀ s, s < 3 → ∀ b : Int32, b = (nI y - 2) + nI s → fn_X12_losesAt M 86 (nI x - nI s) b = some (b2 (okL C x y s)) := by
    intro s hs b eb
    refine loses_eq wm (p := x - s) (q := y + s - 2) ?_
    rcases sub_c1 x (by omega) s hs with ⟨h1, e1⟩ | ⟨h1, e1⟩
    · rcases sub_c2 y (by omega) s hs with ⟨h2, e2⟩ | ⟨h2, e2⟩
      · refine Or.inr ⟨e1, eb.trans e2, by omega, by omega, ?_⟩
        rw [rel s hs h1 h2]
        unfold okL
        simp [h1, h2]
      · refine Or.inl ⟨Or.inr (by rw [eb]; exact e2), ?_⟩
        unfold okL
        have d : decide (s ≤ x ∧ 2 ≤ y + s) = false := by simp; omega
        rw [d, Bool.false_and]
    · refine Or.inl ⟨Or.inl e1, ?_⟩
      unfold okL
      have d : decide (s ≤ x ∧ 2 ≤ y + s) = false := by simp; omega
      rw [d, Bool.false_and]
  have f0 : ∀ y, y < 21 → nI y - 2 = (nI y - 2) + nI 0 ∧ nI y - 1 = (nI y - 2) + nI 1 ∧ nI y = (nI y - 2) + nI 2 ∧ nI y - nI 0 = nI y := by decide +kernel
  obtain ⟨ey0, ey1, ey2, -⟩ := f0 y (by omega)
  obtain ⟨-, -, -, ex0⟩ := f0 x (by omega)
  have l0 := los 0 (by decide) _ ey0
  rw [ex0] at l0
  have l1 : fn_X12_losesAt M 86 (nI x - 1) (nI y - 1) = some (b2 (okL C x y 1)) := los 1 (by decide) _ ey1
  have l2 : fn_X12_losesAt M 86 (nI x - 2) (nI y) = some (b2 (okL C x y 2)) := los 2 (by decide) _ ey2
  have mod : fn_X12_moveOf M 86 (nI x) (nI y) = some (if okL C x y 0 = true then 2 else if okL C x y 1 = true then 4 else if okL C x y 2 = true then 6 else 0) := by
    unfold fn_X12_moveOf
    rw [k_86 wm, Option.bind_some, l0, Option.bind_some]
    cases okL C x y 0 with
    | true => rfl
    | false =>
      rw [if_pos (show b2 false = 0 from rfl), Option.bind_some, l1, Option.bind_some]
      cases okL C x y 1 with
      | true => rfl
      | false =>
        rw [if_pos (show b2 false = 0 from rfl), Option.bind_some, l2, Option.bind_some]
        cases okL C x y 2 with
        | true => rfl
        | false => rfl
  refine ⟨_, _, cls, mod, ?_⟩
  cases okL C x y 0 with
  | true => exact Or.inr (Or.inl ⟨rfl, rfl⟩)
  | false =>
    cases okL C x y 1 with
    | true => exact Or.inr (Or.inr (Or.inl ⟨rfl, rfl⟩))
    | false =>
      cases okL C x y 2 with
      | true => exact Or.inr (Or.inr (Or.inr ⟨rfl, rfl⟩))
      | false => exact Or.inl ⟨rfl, rfl⟩
/-- a cell of the class's row and of the reference's -/
def celL (C M : aH) (b x y : Nat) : Prop := ∀ p q, (p < x ∨ p = x ∧ q < y) → q ≤ b → hI M 112 (21 * p + q) = b2 (!isBit (hI C 85 p) q)
theorem q_locks (w : WW N sem x l C M) (a b : Int32) : QR (fn_X11_locks C 0 a b) (fn_X12_locks M 86 a b) C M := by
  obtain ⟨M1, p1, F1, w1⟩ := w.thr
  have wc := w1.wc
  have wm := w1.wm
  have no : ∀ {oM} (r : Int32), fn_X11_locks C 0 a b = some (r, C) → oM = some (r, M1) → QR (fn_X11_locks C 0 a b) oM C M := fun r e1 e2 => w1.qr r e1 e2 (Fr.refl _ _) F1
  rcases int_cases 20 (by decide) a with ⟨c1, -⟩ | ⟨c1, c2⟩ | ⟨c1, c2, m, hm, rfl⟩
  · refine no (-1) ?_ ?_
    · unfold fn_X11_locks; rw [if_pos c1]
    · unfold fn_X12_locks; rw [p1, Option.bind_some, in_no (Or.inl c1), Option.bind_some, if_pos rfl]
  · replace c2 : ¬ a ≤ 20 := c2
    refine no (-1) ?_ ?_
    · unfold fn_X11_locks; rw [if_neg c1, if_neg c2]
    · unfold fn_X12_locks; rw [p1, Option.bind_some, in_no (Or.inr ⟨c1, c2⟩), Option.bind_some, if_pos rfl]
  replace c2 : nI m ≤ 20 := c2
  rcases int_cases 20 (by decide) b with ⟨d1, -⟩ | ⟨d1, d2⟩ | ⟨d1, d2, n, hn, rfl⟩
  · refine no (-1) ?_ ?_
    · unfold fn_X11_locks; rw [if_neg c1, if_pos c2, if_pos d1]
    · unfold fn_X12_locks; rw [p1, Option.bind_some, in_yes c1 c2, Option.bind_some, if_neg one0, in_no (Or.inl d1), Option.bind_some, if_pos rfl]
  · replace d2 : ¬ b ≤ 20 := d2
    refine no (-1) ?_ ?_
    · unfold fn_X11_locks; rw [if_neg c1, if_pos c2, if_neg d1, if_neg d2]
    · unfold fn_X12_locks; rw [p1, Option.bind_some, in_yes c1 c2, Option.bind_some, if_neg one0, in_no (Or.inr ⟨d1, d2⟩), Option.bind_some, if_pos rfl]
  replace d2 : nI n ≤ 20 := d2
  obtain ⟨C2, M2, e2, g2, G2, H2, w2, rel⟩ : ∃ r q, lp (lb_X1_fillWon_2 85 (nI m) (nI n)) lpN (0, C) = some r ∧ lp (lb_X12_locks_29 86 (nI m) (nI n)) lpN (0, M1) = some q ∧ (Fr sc C r ∧ Fr sm M q ∧ WW N sem x l r q ∧ celL r q n (m + 1) 0) := by
    refine lp_two (fun p s t => s.1 = nI p ∧ t.1 = nI p ∧ Fr sc C s.2 ∧ Fr sm M t.2 ∧ WW N sem x l s.2 t.2 ∧ celL s.2 t.2 n p 0) _ (m + 1) (by omega) ?_ ?_ ⟨rfl, rfl, Fr.refl _ _, F1, w1, fun p q h => absurd h (by omega)⟩
    · rintro p ⟨s1, Cp⟩ ⟨t1, Mp⟩ hp ⟨rfl, rfl, GC, GM, wp, rel⟩
      dsimp only at GC GM wp rel
      have cp : nI p ≤ nI m := nI_le (by omega) (by omega)
      have al85 : al Cp 85 = some (Int32.ofNat 21) := by
        unfold al
        rw [wp.wc.1]
        rfl
      have G0 : Fr s85 Cp (sI Cp 85 p 0) := (Fr.refl _ _).sI _ rfl
      have w0 := wp.toC G0 s85_sc rfl (fun _ => rfl)
      obtain ⟨r, q, er, eq, Gr, Hq, wr, relr⟩ : ∃ r q, lp (lb_X1_fillWon_20 85 (nI m) (nI n) (nI p)) lpN (0, sI Cp 85 p 0) = some r ∧ lp (lb_X12_locks_37 86 (nI m) (nI n) (nI p)) lpN (0, Mp) = some q ∧ (Fr sc C r ∧ Fr sm M q ∧ WW N sem x l r q ∧ celL r q n (p + 1) 0) := by
        refine lp_two (fun y s t => s.1 = nI y ∧ t.1 = nI y ∧ Fr sc C s.2 ∧ Fr sm M t.2 ∧ WW N sem x l s.2 t.2 ∧ celL s.2 t.2 n p y ∧ ∀ i, y ≤ i → i < 32 → bt (hI s.2 85 p) i = false) _ (n + 1) (by omega) ?_ ?_ ⟨rfl, rfl, GC.trans (G0.mono s85_sc), GM, w0, fun p' q' h hq => ?_, fun i _ _ => ?_⟩
        · rintro y ⟨s1, Cy⟩ ⟨t1, My⟩ hy ⟨rfl, rfl, GC, GM, wy, rely, hz⟩
          dsimp only at GC GM wy rely hz
          have cy : nI y ≤ nI n := nI_le (by omega) (by omega)
          obtain ⟨mr, mq, er, eq, alt⟩ := mv_eq wy.wc wy.wm (x := p) (y := y) (by omega) (by omega) (fun s hs h1 h2 => rely (p - s) (y + s - 2) (by omega) (by omega))
          obtain ⟨v, ev⟩ : ∃ v : Bool, v = decide (mr = -1) := ⟨_, rfl⟩
          have q0 : mq = 0 ↔ mr = -1 := by
            rcases alt with ⟨rfl, rfl⟩ | ⟨rfl, rfl⟩ | ⟨rfl, rfl⟩ | ⟨rfl, rfl⟩ <;> decide
          have tC : (if mr = -1 then some (0 : Int32) else some (1 <<< (nI y &&& 31))) = some (bitIf (!v) y) := by
            by_cases h : mr = -1
            · rw [if_pos h, ev]; simp [h]; rfl
            · rw [if_neg h, ev]; simp [h]; rfl
          have tM : (if mq = 0 then some (1 : Int32) else some 0) = some (b2 v) := by
            by_cases h : mr = -1
            · rw [if_pos (q0.mpr h), ev]; simp [h]; rfl
            · rw [if_neg (fun q => h (q0.mp q)), ev]; simp [h]; rfl
          have m21 : (21 : Int32) * nI p + nI y = nI (21 * p + y) := by
            have : nI 21 * nI p = nI (21 * p) := pk_mul 21 p
            rw [show (21 : Int32) * nI p = _ from this, nI_add]
          have wz : wZ My 112 (nI (21 * p + y)) (b2 v) = some (sI My 112 (21 * p + y) (b2 v)) := by
            rw [wZ_eq wy.wm 112 441 rfl (21 * p + y) (by omega) (by decide)]
            cases v <;> rfl
          have Gs : Fr s85 Cy (sI Cy 85 p (hI Cy 85 p ||| bitIf (!v) y)) := (Fr.refl _ _).sI _ rfl
          have Hs : Fr s112 My (sI My 112 (21 * p + y) (b2 v)) := (Fr.refl _ _).sI _ rfl
          have bits : ∀ i, i < 32 → bt (hI Cy 85 p ||| bitIf (!v) y) i = (bt (hI Cy 85 p) i || (!v && decide (y = i))) := fun i hi => by
            rw [b_or]
            cases v
            · show (_ || bt (bitI y) i) = _
              rw [b_bitI (by omega) i hi]; rfl
            · show (_ || bt 0 i) = _
              rw [b_0]; rfl
          refine Or.inl ⟨(nI (y + 1), sI Cy 85 p (hI Cy 85 p ||| bitIf (!v) y)), (nI (y + 1), sI My 112 (21 * p + y) (b2 v)), ?_, ?_, rfl, rfl, GC.trans (Gs.mono s85_sc), GM.trans (Hs.mono s112_sm), (wy.toC Gs s85_sc rfl (fun _ => rfl)).toM Hs s112_sm rfl (fun _ => rfl), fun p' q' h hq => ?_, fun i h1 h2 => ?_⟩
          · unfold lb_X1_fillWon_20
            simp only [if_pos cy, aI_eq wy.wc 85 14 21 rfl p (by omega) (by decide), Option.bind_some, er, tC, wI_eq wy.wc 85 21 rfl p (by omega) (by decide), nI_1]
          · unfold lb_X12_locks_37
            simp only [if_pos cy, g_86_44 wy.wm, k_86 wy.wm, Option.bind_some, eq, tM, m21, wz, nI_1]
          · show hI (sI My 112 (21 * p + y) (b2 v)) 112 (21 * p' + q') = b2 (!isBit (hI (sI Cy 85 p (hI Cy 85 p ||| bitIf (!v) y)) 85 p') q')
            rw [hI_sI, hI_sI]
            by_cases e1 : p' = p
            · subst e1
              rw [if_pos (show 85 = 85 ∧ p' = p' from ⟨rfl, rfl⟩), isBit_bt _ (by omega), bits q' (by omega)]
              by_cases e2 : q' = y
              · subst e2
                rw [if_pos ⟨rfl, rfl⟩, hz q' (Nat.le_refl _) (by omega)]
                cases v <;> simp
              · rw [if_neg (by omega), rely p' q' (by omega) hq, isBit_bt _ (by omega)]
                have : decide (y = q') = false := by simp; omega
                rw [this, Bool.and_false, Bool.or_false]
            · rw [if_neg (by omega), if_neg (by simp [e1])]
              exact rely p' q' (by omega) hq
          · show bt (hI (sI Cy 85 p (hI Cy 85 p ||| bitIf (!v) y)) 85 p) i = false
            rw [hI_sI, if_pos ⟨rfl, rfl⟩, bits i h2, hz i (by omega) h2]
            have : decide (y = i) = false := by simp; omega
            rw [this, Bool.and_false]; rfl
        · rintro ⟨s1, Cy⟩ ⟨t1, My⟩ ⟨rfl, rfl, GC, GM, wy, rely, hz⟩
          have cy : ¬ nI (n + 1) ≤ nI n := nI_ge (by omega) (by omega)
          refine ⟨Cy, My, ?_, ?_, GC, GM, wy, fun p' q' h hq => rely p' q' (by omega) hq⟩
          · unfold lb_X1_fillWon_20; rw [if_neg cy]
          · unfold lb_X12_locks_37; rw [if_neg cy]
        · show hI Mp 112 _ = b2 (!isBit (hI (sI Cp 85 p 0) 85 p') q')
          rw [hI_sI, if_neg (by omega)]
          exact rel p' q' (by omega) hq
        · show bt (hI (sI Cp 85 p 0) 85 p) i = false
          rw [hI_sI, if_pos ⟨rfl, rfl⟩, b_0]
      refine Or.inl ⟨(nI (p + 1), r), (nI (p + 1), q), ?_, ?_, rfl, rfl, Gr, Hq, wr, relr⟩
      · unfold lb_X1_fillWon_2
        simp only [if_pos cp, al85, Option.bind_some, if_pos (show nI p < Int32.ofNat 21 from nI_lt (b := 21) (by omega) (by decide)), wI_eq wp.wc 85 21 rfl p (by omega) (by decide), er, nI_1]
      · unfold lb_X12_locks_29
        simp only [if_pos cp, eq, Option.bind_some, nI_1]
    · rintro ⟨s1, Cp⟩ ⟨t1, Mp⟩ ⟨rfl, rfl, GC, GM, wp, rel⟩
      have cp : ¬ nI (m + 1) ≤ nI m := nI_ge (by omega) (by omega)
      refine ⟨Cp, Mp, ?_, ?_, GC, GM, wp, rel⟩
      · unfold lb_X1_fillWon_2; rw [if_neg cp]
      · unfold lb_X12_locks_29; rw [if_neg cp]
  have fw : fn_X1_fillWon C 85 (nI m) (nI n) = some C2 := by unfold fn_X1_fillWon; rw [e2]; rfl
  obtain ⟨r, q, er, eq, alt⟩ := mv_eq w2.wc w2.wm (x := m) (y := n) hm hn (fun s hs h1 h2 => rel (m - s) (n + s - 2) (by omega) (by omega))
  obtain ⟨C3, M3, f3, g3, G3, H3, w3⟩ := w2.begin
  have fC := G2.trans (G3.mono stC_sc)
  have fM := H2.trans (H3.mono stM_sm)
  have front : ∀ k : aH → Option (Int32 × aH), fn_X11_locks C 0 (nI m) (nI n) = if r = -1 then some (0, C3) else (gR C3 0 10 11).bind fun a8 => (ck C3 a8 2).bind fun _ => (fn_X3_add C3 a8 (Int32.toInt64 r)).bind fun h10 => (gR h10 0 10 11).bind fun a11 => (ck h10 a11 2).bind fun _ => (fn_X3_add h10 a11 (Int32.toInt64 (2 - r))).bind fun h13 => some (1, h13) := fun _ => by
    unfold fn_X11_locks
    rw [if_neg c1, if_pos c2, if_neg d1, if_pos d2, g_0_15 wc, Option.bind_some, fw, Option.bind_some, g_0_15 w2.wc, Option.bind_some, er, Option.bind_some, g_0_11 w2.wc, Option.bind_some, k_77 w2.wc, Option.bind_some, f3, Option.bind_some]
  have frontM : fn_X12_locks M 86 (nI m) (nI n) = if q = 0 then some (0, M3) else (idv q 3).bind fun x22 => (ck M3 86 11).bind fun _ => (fn_X12_tell M3 86 (Int32.toInt64 x22)).bind fun h24 => (irm q 3).bind fun x25 => (ck h24 86 11).bind fun _ => (fn_X12_tell h24 86 (Int32.toInt64 x25)).bind fun h27 => some (1, h27) := by
    unfold fn_X12_locks
    rw [p1, Option.bind_some, in_yes c1 c2, Option.bind_some, if_neg one0, in_yes d1 d2, Option.bind_some, if_neg one0, g2, Option.bind_some, k_86 w2.wm, Option.bind_some, eq, Option.bind_some, g3, Option.bind_some]
  have tell2 : ∀ u v : Int32, r = u → 2 - r = v → ¬ r = -1 → ¬ q = 0 → idv q 3 = some u → irm q 3 = some v → QR (fn_X11_locks C 0 (nI m) (nI n)) (fn_X12_locks M 86 (nI m) (nI n)) C M := by
    intro u v e1 e2 n1 n0 i1 i2
    obtain ⟨C4, M4, f4, g4, G4, H4, w4⟩ := w3.add (by decide) (Int32.toInt64 u)
    obtain ⟨C5, M5, f5, g5, G5, H5, w5⟩ := w4.add (by simp) (Int32.toInt64 v)
    refine w5.qr 1 ?_ ?_ (fC.trans ((G4.mono stC_sc).trans (G5.mono stC_sc))) (fM.trans ((H4.mono stM_sm).trans (H5.mono stM_sm)))
    · rw [front (fun _ => none), if_neg n1, e1, g_0_11 w3.wc, Option.bind_some, k_77 w3.wc, Option.bind_some, f4, Option.bind_some, g_0_11 w4.wc, Option.bind_some, k_77 w4.wc, Option.bind_some, show (2 : Int32) - u = v by rw [← e1]; exact e2, f5, Option.bind_some]
    · rw [frontM, if_neg n0, i1, Option.bind_some, k_86 w3.wm, Option.bind_some, g4, Option.bind_some, i2, Option.bind_some, k_86 w4.wm, Option.bind_some, g5, Option.bind_some]
  rcases alt with ⟨h1, h2⟩ | ⟨h1, h2⟩ | ⟨h1, h2⟩ | ⟨h1, h2⟩
  · refine w3.qr 0 ?_ ?_ fC fM
    · rw [front (fun _ => none), if_pos h1]
    · rw [frontM, if_pos h2]
  · exact tell2 0 2 h1 (by rw [h1]; decide) (by rw [h1]; decide) (by rw [h2]; decide) (by rw [h2]; decide) (by rw [h2]; decide)
  · exact tell2 1 1 h1 (by rw [h1]; decide) (by rw [h1]; decide) (by rw [h2]; decide) (by rw [h2]; decide) (by rw [h2]; decide)
  · exact tell2 2 0 h1 (by rw [h1]; decide) (by rw [h1]; decide) (by rw [h2]; decide) (by rw [h2]; decide) (by rw [h2]; decide)
end Locks
