/-! questions: hears, needs, learns -/
section Q5
variable {N : Net} {sem : Sem} {x : XX} {l : List Int64} {C M : aH}
theorem orB_ok (w : WW N sem x l C M) {a n b : Nat} (ha : a < N_b N) (hb : b < N_b N) : ∀ k, k ≤ 10 → ∃ v : Nat, v < 1024 ∧ orB N sem x a n b k = nI v ∧ (0 < k → 0 < v)
  | 0, _ => ⟨0, by decide, rfl, fun h => absurd h (by decide)⟩
  | k + 1, hk => by
    have h6 := w.v.1
    obtain ⟨v, hv, ev, -⟩ := orB_ok w ha hb k (by omega)
    obtain ⟨y, hy, ey, -⟩ := (lvX_ok w (v := k) (n := n) ha (by omega)).1 b (by omega)
    refine ⟨v ||| 2 ^ y, ?_, ?_, fun _ => ?_⟩
    · exact Nat.or_lt_two_pow (n := 10) hv (Nat.pow_lt_pow_right (by decide) (by omega))
    · show orB N sem x a n b k ||| (1 <<< (lvX N sem x a k n b &&& 31)) = _
      rw [ev, ey]
      show nI v ||| bitI y = _
      rw [bitI_eq' (by omega), fa_or]
    · have h1 : 2 ^ y ≤ v ||| 2 ^ y := Nat.right_le_or
      have h2 : 0 < 2 ^ y := Nat.two_pow_pos y
      omega
set_option maxHeartbeats 1000000 in
theorem q_hears (w : WW N sem x l C M) (a n : Int32) : QR (fn_X11_hears C 0 a n) (fn_X12_hears M 86 a n) C M := by
  have h6 := w.v.1
  have bN : N_b N < 2 ^ 31 := by omega
  obtain ⟨M1, p1, F1, w1⟩ := w.thr
  have wc := w1.wc
  have wm := w1.wm
  have no : ∀ {oM}, fn_X11_hears C 0 a n = some (-1, C) → oM = some (-1, M1) → QR (fn_X11_hears C 0 a n) oM C M := fun e1 e2 => w1.qr (-1) e1 e2 (Fr.refl _ _) F1
  rcases w1.bas a with ⟨a1, a2⟩ | ⟨i, hi, rfl, a1, a2⟩
  · refine no ?_ ?_
    · unfold fn_X11_hears; simp only [g_0_1 wc, k_3 wc, Option.bind_some, a1, if_true]
    · unfold fn_X12_hears; simp only [p1, k_86 wm, Option.bind_some, a2, if_true]
  rcases int_cases 40 (by decide) n with ⟨d1, -⟩ | ⟨d1, d2⟩ | ⟨d1, d2, m, hm, rfl⟩
  · refine no ?_ ?_
    · unfold fn_X11_hears; simp only [g_0_1 wc, k_3 wc, Option.bind_some, a1, if_neg one0, if_pos d1]
    · unfold fn_X12_hears; simp only [p1, k_86 wm, Option.bind_some, a2, if_neg one0, soon_no (Or.inl d1), if_true]
  · replace d2 : ¬ n ≤ 40 := d2
    refine no ?_ ?_
    · unfold fn_X11_hears; simp only [g_0_1 wc, k_3 wc, Option.bind_some, a1, if_neg one0, if_neg d1, if_neg d2]
    · unfold fn_X12_hears; simp only [p1, k_86 wm, Option.bind_some, a2, if_neg one0, soon_no (Or.inr ⟨d1, d2⟩), if_true]
  replace d2 : nI m ≤ 40 := d2
  obtain ⟨cnt, ecnt⟩ : ∃ cnt : Nat → Int32, cnt = fun b => bcI (orB N sem x i m b 10) := ⟨_, rfl⟩
  have cpos : ∀ b, b < N_b N → 0 < cnt b := fun b hb => by
    obtain ⟨v, hv, ev, h0⟩ := orB_ok w1 (n := m) hi hb 10 (Nat.le_refl _)
    rw [ecnt]
    show 0 < bcI _
    rw [ev]
    exact bc_pos v hv (h0 (by decide))
  -- the reference, from any basin on
  have stepM : ∀ (b : Nat) (s1 s2 : Int32) (Mk : aH), b < N_b N → WW N sem x l C Mk → ∃ M', lb_X12_hears_31 86 (nI i) (nI m) (s1, s2, nI b, Mk) = some (.inl (if b = i then (s1, s2, nI (b + 1), M') else if cnt b ≤ s2 then (s1, s2, nI (b + 1), M') else (nI b, cnt b, nI (b + 1), M'))) ∧ Fr (mh 99) Mk M' ∧ WW N sem x l C M' := by
    intro b s1 s2 Mk hb wk
    unfold lb_X12_hears_31
    simp only [w_gI wk.wm 86 11 1 rfl, wk.mn.1, Option.bind_some, if_pos (nI_lt hb bN), nI_1]
    by_cases e : b = i
    · subst e
      exact ⟨Mk, by simp only [if_true], Fr.refl _ _, wk⟩
    · have ne : ¬ nI b = nI i := nI_ne (by omega) (by omega) e
      obtain ⟨M2, e2, F2, w2⟩ := kinds_eq wk hi hb (n := m) (by omega)
      obtain ⟨M3, e3, F3, w3⟩ := kinds_eq w2 hi hb (n := m) (by omega)
      have ec : bcI (orB N sem x i m b 10) = cnt b := by rw [ecnt]
      rw [ec] at e2 e3
      by_cases c : cnt b ≤ s2
      · refine ⟨M2, ?_, F2, w2⟩
        simp only [if_neg ne, if_neg e, if_pos c, k_86 wk.wm, Option.bind_some, e2]
      · refine ⟨M3, ?_, F2.trans F3, w3⟩
        simp only [if_neg ne, if_neg e, if_neg c, k_86 wk.wm, Option.bind_some, e2, k_86 w2.wm, e3]
  have endM : ∀ (s1 s2 : Int32) (Mk : aH), WW N sem x l C Mk → lb_X12_hears_31 86 (nI i) (nI m) (s1, s2, nI (N_b N), Mk) = some (.inr (s1, s2, Mk)) := by
    intro s1 s2 Mk wk
    unfold lb_X12_hears_31
    simp only [w_gI wk.wm 86 11 1 rfl, wk.mn.1, Option.bind_some, if_neg (nI_nlt (Nat.le_refl (N_b N)) bN)]
  -- the best among the first b of the reference
  obtain ⟨best, ebest⟩ : ∃ best : Nat → Option Nat, best = fun b => Nat.rec (motive := fun _ => Option Nat) none (fun k o => if k = i then o else match o with | none => some k | some p => if cnt k ≤ cnt p then some p else some k) b := ⟨_, rfl⟩
  have best0 : best 0 = none := by rw [ebest]; rfl
  have bestS : ∀ k, best (k + 1) = if k = i then best k else match best k with | none => some k | some p => if cnt k ≤ cnt p then some p else some k := fun k => by rw [ebest]
  have bestlt : ∀ b p, best b = some p → p < b := by
    intro b
    induction b with
    | zero => intro p h; rw [best0] at h; cases h
    | succ k ih =>
      intro p h
      rw [bestS] at h
      split at h
      · have := ih p h; omega
      · split at h
        · cases h; omega
        · rename_i q hq
          split at h
          · cases h; have := ih _ hq; omega
          · cases h; omega
  have runM : ∃ q, lp (lb_X12_hears_31 86 (nI i) (nI m)) lpN (-2, 0, 0, M1) = some q ∧ (Fr sm M q.2.2 ∧ WW N sem x l C q.2.2 ∧ ((best (N_b N) = none ∧ q.1 = -2) ∨ ∃ p, best (N_b N) = some p ∧ q.1 = nI p ∧ q.2.1 = cnt p)) := by
    refine lp_inv (fun b s => s.2.2.1 = nI b ∧ Fr sm M s.2.2.2 ∧ WW N sem x l C s.2.2.2 ∧ ((best b = none ∧ s.1 = -2 ∧ s.2.1 = 0) ∨ ∃ p, best b = some p ∧ s.1 = nI p ∧ s.2.1 = cnt p)) _ (N_b N) (by omega) ?_ ?_ ⟨rfl, F1, w1, Or.inl ⟨best0, rfl, rfl⟩⟩
    · rintro b ⟨s1, s2, s3, Mk⟩ hb ⟨rfl, GM, wk, alt⟩
      dsimp only at GM wk alt
      obtain ⟨M', e', F', w'⟩ := stepM b s1 s2 Mk hb wk
      refine Or.inl ⟨_, e', ?_⟩
      by_cases e : b = i
      · simp only [if_pos e]
        refine ⟨trivial, GM.trans (F'.mono mh_sm), w', ?_⟩
        rw [bestS, if_pos e]
        exact alt
      · simp only [if_neg e]
        rcases alt with ⟨h1, rfl, rfl⟩ | ⟨p, h1, rfl, rfl⟩
        · have c : ¬ cnt b ≤ 0 := fun q => by
            have := Int32.lt_iff_toInt_lt.mp (cpos b hb)
            have := Int32.le_iff_toInt_le.mp q
            omega
          simp only [if_neg c]
          refine ⟨trivial, GM.trans (F'.mono mh_sm), w', Or.inr ⟨b, ?_, rfl, rfl⟩⟩
          rw [bestS, if_neg e, h1]
        · by_cases c : cnt b ≤ cnt p
          · simp only [if_pos c]
            refine ⟨trivial, GM.trans (F'.mono mh_sm), w', Or.inr ⟨p, ?_, rfl, rfl⟩⟩
            rw [bestS, if_neg e, h1]
            simp only [if_pos c]
          · simp only [if_neg c]
            refine ⟨trivial, GM.trans (F'.mono mh_sm), w', Or.inr ⟨b, ?_, rfl, rfl⟩⟩
            rw [bestS, if_neg e, h1]
            simp only [if_neg c]
    · rintro ⟨s1, s2, s3, Mk⟩ ⟨rfl, GM, wk, alt⟩
      dsimp only at GM wk alt
      refine ⟨_, endM s1 s2 Mk wk, GM, wk, ?_⟩
      rcases alt with ⟨h1, h2, h3⟩ | h
      · exact Or.inl ⟨h1, h2⟩
      · exact Or.inr h
  obtain ⟨q, eq, Hq, wq, alt⟩ := runM
  by_cases nb1 : N_b N = 1
  · -- one basin alone
    have bn : best (N_b N) = none := by
      rw [nb1, bestS, best0, if_pos (by omega)]
    have q1 : q.1 = -2 := by
      rcases alt with ⟨-, h⟩ | ⟨p, h, -⟩
      · exact h
      · rw [bn] at h; cases h
    refine wq.qr (-2) ?_ ?_ (Fr.refl _ _) Hq
    · have e1 : nI (N_b N) = 1 := by rw [nb1]; rfl
      unfold fn_X11_hears
      simp only [g_0_1 wc, k_3 wc, Option.bind_some, a1, if_neg one0, if_neg d1, if_pos d2, w_gI wc 3 0 0 rfl, w1.cn.1, if_pos e1]
    · unfold fn_X12_hears
      simp only [p1, k_86 wm, Option.bind_some, a2, if_neg one0, soon_yes d1 d2, eq, if_pos q1]
  · have ne1 : ¬ nI (N_b N) = 1 := fun h => nb1 ((nI_eq (b := 1) (by omega) (by decide)).mp h)
    -- the class's masks
    obtain ⟨f, ef, hf⟩ := clearMasks_eq wc
    have G0 : Fr s84 C (rI C 84 f) := (Fr.refl _ _).rI _ (fun _ => rfl)
    have w0 := wq.toC G0 s84_sc rfl (fun _ => rfl)
    obtain ⟨C3, e3, G3, w3, mk3⟩ : ∃ r, lp (lb_X11_hears_43 0 (nI i) (nI m)) lpN (0, rI C 84 f) = some r ∧ (Fr sc C r ∧ WW N sem x l r q.2.2 ∧ ∀ b, b < N_b N → hI r 84 b = orB N sem x i m b 10) := by
      refine lp_inv (fun k s => s.1 = nI k ∧ Fr sc C s.2 ∧ WW N sem x l s.2 q.2.2 ∧ ∀ b, b < N_b N → hI s.2 84 b = orB N sem x i m b k) _ 10 (by decide) ?_ ?_ ⟨rfl, G0.mono s84_sc, w0, fun b hb => ?_⟩
      · rintro k ⟨s1, Ck⟩ hk ⟨rfl, GC, wk, hm'⟩
        dsimp only at GC wk hm'
        obtain ⟨C4, f4, G4, w4, S4⟩ := withC wk hi (show k ≤ 9 by omega) (n := m) (by omega)
        have hm4 : ∀ b, b < N_b N → hI C4 84 b = orB N sem x i m b k := fun b hb => by rw [G4.i 84 b rfl]; exact hm' b hb
        obtain ⟨C5, e5, G5, w5, mk5⟩ : ∃ r, lp (lb_X11_hears_59 0 (nI i) (nI m) (nI k)) lpN (0, C4) = some r ∧ (Fr s84 C4 r ∧ WW N sem x l r q.2.2 ∧ ∀ b, b < N_b N → hI r 84 b = orB N sem x i m b (k + 1)) := by
          refine lp_inv (fun c s => s.1 = nI c ∧ Fr s84 C4 s.2 ∧ WW N sem x l s.2 q.2.2 ∧ ∀ b, b < N_b N → hI s.2 84 b = if b < c then orB N sem x i m b (k + 1) else orB N sem x i m b k) _ (N_b N) (by omega) ?_ ?_ ⟨rfl, Fr.refl _ _, w4, fun b hb => by rw [if_neg (by omega)]; exact hm4 b hb⟩
          · rintro c ⟨s1, Cc⟩ hc ⟨rfl, GC, wl, hmc⟩
            dsimp only at GC wl hmc
            have lv : aI Cc 29 14 (nI c) = some (lvX N sem x i k m c) := by
              rw [aI_eq wl.wc 29 14 6 rfl c (by omega) (by decide), GC.i 29 c rfl]; exact congrArg some (S4.1 c (by omega))
            have mc := hmc c hc
            rw [if_neg (by omega)] at mc
            have Gs : Fr s84 Cc (sI Cc 84 c (orB N sem x i m c (k + 1))) := (Fr.refl _ _).sI _ rfl
            refine Or.inl ⟨(nI (c + 1), sI Cc 84 c (orB N sem x i m c (k + 1))), ?_, rfl, GC.trans Gs, wl.toC Gs s84_sc rfl (fun _ => rfl), fun b hb => ?_⟩
            · unfold lb_X11_hears_59
              simp only [g_0_1 wl.wc, w_gI wl.wc 3 0 0 rfl, wl.cn.1, Option.bind_some, if_pos (nI_lt hc bN), g_0_14 wl.wc, aI_eq wl.wc 84 14 6 rfl c (by omega) (by decide), mc, g_0_9 wl.wc, g_28_0 wl.wc, lv, wI_eq wl.wc 84 6 rfl c (by omega) (by decide), nI_1]
              rfl
            · show hI (sI Cc 84 c _) 84 b = _
              rw [hI_sI]
              by_cases e : b = c
              · subst e
                rw [if_pos ⟨rfl, rfl⟩, if_pos (by omega)]
              · rw [if_neg (by simp [e]), hmc b hb]
                by_cases e2 : b < c
                · rw [if_pos e2, if_pos (by omega)]
                · rw [if_neg e2, if_neg (by omega)]
          · rintro ⟨s1, Cc⟩ ⟨rfl, GC, wl, hmc⟩
            dsimp only at GC wl hmc
            refine ⟨Cc, ?_, GC, wl, fun b hb => by rw [hmc b hb, if_pos hb]⟩
            unfold lb_X11_hears_59
            simp only [g_0_1 wl.wc, w_gI wl.wc 3 0 0 rfl, wl.cn.1, Option.bind_some, if_neg (nI_nlt (Nat.le_refl (N_b N)) bN)]
        have ck9 : nI k ≤ 9 := nI_le (b := 9) (by omega) (by decide)
        refine Or.inl ⟨(nI (k + 1), C5), ?_, rfl, GC.trans ((G4.mono sh_sc).trans (G5.mono s84_sc)), w5, mk5⟩
        unfold lb_X11_hears_43
        simp only [if_pos ck9, k_0 wk.wc, Option.bind_some, f4, e5, nI_1]
      · rintro ⟨s1, Ck⟩ ⟨rfl, GC, wk, hm'⟩
        refine ⟨Ck, ?_, GC, wk, hm'⟩
        unfold lb_X11_hears_43
        rw [if_neg (show ¬ nI 10 ≤ 9 by decide)]
      · show hI (rI C 84 f) 84 b = 0
        rw [hI_rI, if_pos rfl, hf b (by omega)]
    have bcC : ∀ b, b < N_b N → (aI C3 84 14 (nI b)) = some (orB N sem x i m b 10) := fun b hb => by rw [aI_eq w3.wc 84 14 6 rfl b (by omega) (by decide), mk3 b hb]
    obtain ⟨st, est⟩ : ∃ st, st = if i = 0 then 1 else 0 := ⟨_, rfl⟩
    have st1 : st < N_b N := by rw [est]; split <;> omega
    have sti : st ≠ i := by rw [est]; split <;> omega
    have bst : best (st + 1) = some st := by
      by_cases e : i = 0
      · have : st = 1 := by rw [est, if_pos e]
        rw [this, bestS, if_neg (by omega), bestS, if_pos e.symm, best0]
      · have : st = 0 := by rw [est, if_neg e]
        rw [this, bestS, if_neg (by omega), best0]
    obtain ⟨p, ep, hp⟩ : ∃ r, lp (lb_X11_hears_120 C3 0 (nI i)) lpN (nI st, nI (st + 1)) = some r ∧ (∃ p, best (N_b N) = some p ∧ r = nI p) := by
      refine lp_inv (fun d s => s.2 = nI (st + 1 + d) ∧ ∃ p, best (st + 1 + d) = some p ∧ s.1 = nI p) _ (N_b N - (st + 1)) (by omega) ?_ ?_ ⟨rfl, st, bst, rfl⟩
      · rintro d ⟨s1, s2⟩ hd ⟨rfl, p, hp, rfl⟩
        have hb : st + 1 + d < N_b N := by omega
        have pl := bestlt _ _ hp
        have bS := bestS (st + 1 + d)
        have front : lb_X11_hears_120 C3 0 (nI i) (nI p, nI (st + 1 + d)) = some (.inl (if st + 1 + d = i then (nI p, nI (st + 1 + d + 1)) else if cnt (st + 1 + d) ≤ cnt p then (nI p, nI (st + 1 + d + 1)) else (nI (st + 1 + d), nI (st + 1 + d + 1)))) := by
          have ec : ∀ b, bcI (orB N sem x i m b 10) = cnt b := fun b => by rw [ecnt]
          unfold lb_X11_hears_120
          simp only [g_0_1 w3.wc, w_gI w3.wc 3 0 0 rfl, w3.cn.1, Option.bind_some, if_pos (nI_lt hb bN), g_0_14 w3.wc, bcC _ hb, bcC p (by omega), bc_eq, ec, nI_1]
          by_cases e : st + 1 + d = i
          · have : nI (st + 1 + d) = nI i := by rw [e]
            by_cases c : cnt (st + 1 + d) ≤ cnt p
            · simp only [if_pos c, Option.bind_some, if_pos this, if_pos e]
            · simp only [if_neg c, Option.bind_some, if_pos this, if_pos e]
          · have : ¬ nI (st + 1 + d) = nI i := nI_ne (by omega) (by omega) e
            by_cases c : cnt (st + 1 + d) ≤ cnt p
            · simp only [if_pos c, Option.bind_some, if_neg this, if_neg e, if_true]
            · simp only [if_neg c, Option.bind_some, if_neg this, if_neg e, if_neg one0]
        refine Or.inl ⟨_, front, ?_⟩
        rw [hp] at bS
        by_cases e : st + 1 + d = i
        · simp only [if_pos e] at bS ⊢
          exact ⟨rfl, p, bS, rfl⟩
        · simp only [if_neg e] at bS ⊢
          by_cases c : cnt (st + 1 + d) ≤ cnt p
          · simp only [if_pos c] at bS ⊢
            exact ⟨rfl, p, bS, rfl⟩
          · simp only [if_neg c] at bS ⊢
            exact ⟨rfl, _, bS, rfl⟩
      · rintro ⟨s1, s2⟩ ⟨rfl, p, hp, rfl⟩
        have ee : st + 1 + (N_b N - (st + 1)) = N_b N := by omega
        refine ⟨nI p, ?_, p, by rw [ee] at hp; exact hp, rfl⟩
        rw [ee]
        unfold lb_X11_hears_120
        simp only [g_0_1 w3.wc, w_gI w3.wc 3 0 0 rfl, w3.cn.1, Option.bind_some, if_neg (nI_nlt (Nat.le_refl (N_b N)) bN)]
    obtain ⟨p', bp, rfl⟩ := hp
    have plt := bestlt _ _ bp
    have q12 : q.1 = nI p' ∧ q.2.1 = cnt p' := by
      rcases alt with ⟨h, -⟩ | ⟨p2, h, h1, h2⟩
      · rw [bp] at h; cases h
      · rw [bp] at h; cases h; exact ⟨h1, h2⟩
    have qn' : ¬ nI p' = -2 := by
      intro h
      have := congrArg Int32.toInt h
      rw [nI_toInt (by omega)] at this
      have : ((-2 : Int32)).toInt = -2 := by decide
      omega
    obtain ⟨C5, M5, f5, g5, G5, H5, w5⟩ := w3.begin
    obtain ⟨C6, M6, f6, g6, G6, H6, w6⟩ := w5.add (by decide) (Int32.toInt64 (cnt p'))
    have a5 : aI C5 84 14 (nI p') = some (orB N sem x i m p' 10) := by rw [aI_eq w5.wc 84 14 6 rfl p' (by omega) (by decide), G5.i 84 p' rfl, mk3 p' plt]
    have ec : bcI (orB N sem x i m p' 10) = cnt p' := by rw [ecnt]
    have eif : (if nI i = 0 then some (1 : Int32) else some 0) = some (nI st) := by
      by_cases e : i = 0
      · subst e; rw [est]; rfl
      · have : ¬ nI i = 0 := nI_ne0 (by omega) (by omega)
        rw [if_neg this, est, if_neg e]; rfl
    refine w6.qr (nI p') ?_ ?_ (G3.trans ((G5.mono stC_sc).trans (G6.mono stC_sc))) (Hq.trans ((H5.mono stM_sm).trans (H6.mono stM_sm)))
    · unfold fn_X11_hears
      simp only [g_0_1 wc, k_3 wc, k_0 wc, Option.bind_some, a1, if_neg one0, if_neg d1, if_pos d2, w_gI wc 3 0 0 rfl, w1.cn.1, if_neg ne1, ef, e3, eif, nI_1, ep, g_0_11 w3.wc, k_77 w3.wc, f5, g_0_11 w5.wc, g_0_14 w5.wc, a5, bc_eq, ec, k_77 w5.wc, f6]
    · unfold fn_X12_hears
      simp only [p1, k_86 wm, Option.bind_some, a2, if_neg one0, soon_yes d1 d2, eq, q12.1, if_neg qn', g5, k_86 w5.wm, q12.2, g6]
end Q5
