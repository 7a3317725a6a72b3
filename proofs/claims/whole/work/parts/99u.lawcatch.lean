/-! the law's cases with helpers that catch -/
def out116 (a j : Nat) : Bool := a == 116
theorem REL.mout {c : Nat} {C M M1 : aH} (f : Fr out116 M M1) (R : REL c C M) : REL c C M1 := by
  obtain ⟨N, sem, x, l, V, v, cw, ⟨w, ⟨m1, m2, m3, m4⟩, X, RM⟩, tc, tm, tx, ⟨n, Pp, ad, hn, pc, ⟨pm1, pm2⟩, pv⟩, ⟨cm, k1, k2, k3⟩, ⟨sn, sb, so, sv, s1, s2, s3, s4⟩⟩ := R
  have fi : ∀ a j, a < 116 → hI M1 a j = hI M a j := fun a j h => f.i a j (by unfold out116; simp; omega)
  have fj : ∀ a j, a < 116 → hJ M1 a j = hJ M a j := fun a j h => (f.2.1 a j (by unfold out116; simp; omega)).2
  have fr : ∀ a j, a < 116 → hR M1 a j = hR M a j := fun a j h => f.r a j (Or.inl (by unfold out116; simp; omega))
  refine ⟨N, sem, x, l, V, v, cw, ⟨f.wf w, ⟨(fi 86 1 (by omega)).trans m1, (fi 86 2 (by omega)).trans m2, (fi 86 3 (by omega)).trans m3, fun i hi => ?_⟩, fun i hi => (fi 87 i (by omega)).trans (X i hi), ?_⟩, tc, ⟨(fi 86 10 (by omega)).trans tm.1, tm.2.1, fun i hi => (fj 92 i (by omega)).trans (tm.2.2 i hi)⟩, ?_, ⟨n, Pp, ad, hn, pc, ⟨(fi 86 24 (by omega)).trans pm1, fun i hi k hk => (fi 97 _ (by omega)).trans (pm2 i hi k hk)⟩, pv⟩, ⟨cm, k1, (fi 86 46 (by omega)).trans k2, fun i hi => ?_⟩, ⟨sn, sb, so, sv, s1, s2, (fi 86 37 (by omega)).trans s3, fun i hi => ?_⟩⟩
  · rw [fi 88 i (by omega), fi 89 i (by omega), fi 90 i (by omega)]; exact m4 i hi
  · exact RuleM.same (funext fun j => fi 94 j (by omega)) (fi 86 20 (by omega)) (fr 86 18 (by omega)) RM
  · obtain ⟨t, ht, t1, t2, t3⟩ := tx
    refine ⟨t, ht, t1, (fi 86 8 (by omega)).trans t2, fun i hi => ?_⟩
    rw [fi 91 i (by omega)]; exact t3 i hi
  · obtain ⟨a, b, u, q1, q2, q3, q4, q5, q6⟩ := k3 i hi
    refine ⟨a, b, u, q1, (fi 114 i (by omega)).trans q2, (fi 115 i (by omega)).trans q3, q4, q5, fun ha => ?_⟩
    obtain ⟨y, y1, y2, y3⟩ := q6 ha
    exact ⟨y, y1, y2, fun k hk => (fi 113 _ (by omega)).trans (y3 k hk)⟩
  · rw [fi 105 i (by omega), fi 106 i (by omega), fi 107 i (by omega)]; exact s4 i hi
theorem REL.cout {c : Nat} {C C1 M : aH} (f : Fr out116 C C1) (R : REL c C M) : REL c C1 M := by
  obtain ⟨N, sem, x, l, V, v, ⟨w, ⟨m1, m2, m3, m4⟩, X, RC⟩, mw, tc, tm, tx, ⟨n, Pp, ad, hn, pc, pm, pv⟩, ⟨cm, k1, k2, k3⟩, ⟨sn, sb, so, sv, s1, s2, s3, s4⟩⟩ := R
  have fi : ∀ a j, a < 86 → hI C1 a j = hI C a j := fun a j h => f.i a j (by unfold out116; simp; omega)
  have fj : ∀ a j, a < 86 → hJ C1 a j = hJ C a j := fun a j h => (f.2.1 a j (by unfold out116; simp; omega)).2
  have mid : ∀ a j, a < 86 → out116 a j = false := fun a j h => by unfold out116; simp; omega
  refine ⟨N, sem, x, l, V, v, ⟨f.wf w, ⟨(fi 3 0 (by omega)).trans m1, (fi 3 1 (by omega)).trans m2, (fi 3 2 (by omega)).trans m3, fun i hi => ?_⟩, St_to f (fun j => ⟨mid _ _ (by omega), mid _ _ (by omega), mid _ _ (by omega)⟩) X, RuleC.same (funext fun j => fi 15 j (by omega)) (fi 14 2 (by omega)) RC⟩, mw, ⟨(fi 77 1 (by omega)).trans tc.1, tc.2.1, fun i hi => (fj 78 i (by omega)).trans (tc.2.2 i hi)⟩, tm, ?_, ⟨n, Pp, ad, hn, pc.to f (mid _ _ (by omega)) (fun j => mid _ _ (by omega)) (fun a j h1 h2 => mid _ _ (by omega)) hn, pm, pv⟩, ⟨cm, k1, k2, fun i hi => ?_⟩, ⟨sn, sb, so, sv, s1, (fi 79 3 (by omega)).trans s2, s3, fun i hi => ?_⟩⟩
  · rw [fi 4 i (by omega), fi 5 i (by omega), fi 6 i (by omega)]; exact m4 i hi
  · obtain ⟨t, ht, t1, t2, t3⟩ := tx
    refine ⟨t, ht, (fi 1 1 (by omega)).trans t1, t2, fun i hi => ?_⟩
    rw [fi 2 i (by omega)]; exact t3 i hi
  · obtain ⟨a, b, u, q1, q2, q3, q4, q5, q6⟩ := k3 i hi
    refine ⟨a, b, u, (fi 76 i (by omega)).trans q1, q2, q3, q4, q5, fun ha => ?_⟩
    obtain ⟨y, y1, y2, y3⟩ := q6 ha
    exact ⟨y, y1, St_to f (fun j => ⟨mid _ _ (by omega), mid _ _ (by omega), mid _ _ (by omega)⟩) y2, y3⟩
  · rw [fi 80 i (by omega), fi 81 i (by omega), fi 82 i (by omega)]; exact s4 i hi

theorem out_w {h : aH} (w : Wf h) (v : Int64) : wJ h 116 0 v = some (sJ h 116 0 v) := wJ_eq w 116 1 rfl 0 (by decide) (by decide) v
theorem out_r {h : aH} (w : Wf h) : aJ h 116 0 = some (hJ h 116 0) := aJ_eq w 116 1 rfl 0 (by decide) (by decide)
theorem REL.wf {c : Nat} {C M : aH} (R : REL c C M) : Wf C ∧ Wf M := by
  obtain ⟨N, sem, x, l, V, v, cw, mw, -⟩ := R
  exact ⟨cw.1, mw.1⟩
/-- one call of the law that may throw: the class, what comes out, the reference -/
theorem STEPX.law {α : Type} {c : Nat} {fC : aH → Option (Option (α × aH))} {fM : aH → Option (α × aH)} (s : STEPX c fC fM) (t : α → Int64) {h : aH} (R : REL c h h) :
    (fC h = some none ∧ ∃ b h2, fM h = some (b, h2) ∧ hI h2 86 11 = 1 ∧ REL (c + 1) h2 h2 ∧ Wf h) ∨
    (∃ r h1 h2, fC h = some (some (r, h1)) ∧ fM (sJ h1 116 0 (t r)) = some (r, h2) ∧ hI h2 86 11 = 0 ∧ hJ h2 116 0 = t r ∧ REL (c + 1) h2 h2 ∧ Wf h ∧ Wf h1 ∧ Wf h2) := by
  have w := R.wf.1
  rcases s h h R with ⟨e1, b, M', e2, e3, R', H⟩ | ⟨r, C', M', e1, e2, e3, R', F, H⟩
  · exact Or.inl ⟨e1, b, M', e2, e3, R'.cside H, w⟩
  · right
    have fo : Fr out116 C' (sJ C' 116 0 (t r)) := (Fr.refl _ _).sJ _ rfl
    rcases s h (sJ C' 116 0 (t r)) ((R.mside F).mout fo) with ⟨e4, -⟩ | ⟨r2, C2, M2, e4, e5, e6, R2, F2, H2⟩
    · rw [e1] at e4; cases e4
    · rw [e1] at e4
      cases e4
      refine ⟨r, C', M2, e1, e5, e6, ?_, (R2.cout fo).cside H2, w, F.wf w, R2.wf.2⟩
      rw [(H2.2.1 116 0 rfl).2, hJ_sJ, if_pos ⟨rfl, rfl⟩]
theorem thrown_eq {h : aH} (w : Wf h) : fn_X12_thrown h 86 = some (hI h 86 11) := by
  unfold fn_X12_thrown
  rw [w_gI w 86 11 11 rfl]
  rfl
theorem cmp_self (x : Int64) : lg_cmp x x = 0 := by
  unfold lg_cmp
  simp
section CasesX
variable {Γ : aC} {cs : Nat × Nat} {b L : Nat} {xs : Nat → Int32}
set_option maxHeartbeats 1000000 in
theorem lc_5 (D : LC Γ b L xs) {c : Nat} (hc : c ≤ 64) (hL : 5 * c + 5 ≤ L) {h : aH} (R : REL c h h) (hcs : cs.1 + 1 ≤ 600128 ∧ cs.2 + 6 ≤ 7301098) (go : ∀ h2, REL (c + 1) h2 h2 → Jd Γ (cs.1 + 1, cs.2 + 6) 1711 (lvL b (nI (5 * c))) [] h2) : Jd Γ cs 329 (lvL b (nI (5 * c))) [] h := by
  have X := D.1
  have hE := D.2.2.1
  have hst := D.2.2.2.1
  obtain ⟨kv, hm, bv, h2, e1, e2, e3, e4, R', w, wm, w2⟩ : ∃ (kv : Int32) (hm : aH) (bv : Int32) (h2 : aH), fnL_basin h (xs (5 * c + 1)) (xs (5 * c + 2)) = some (kv, hm) ∧ fn_X12_basin hm 86 (xs (5 * c + 1)) (xs (5 * c + 2)) = some (bv, h2) ∧ hI h2 86 11 = kv ∧ (kv = 0 → hJ h2 116 0 = Int32.toInt64 bv) ∧ REL (c + 1) h2 h2 ∧ Wf h ∧ Wf hm ∧ Wf h2 := by
    rcases STEPX.law (stp_basin c (xs (5 * c + 1)) (xs (5 * c + 2))) Int32.toInt64 R with ⟨a1, bv, h2, a2, a3, R', w⟩ | ⟨r, h1, h2, a1, a2, a3, a4, R', w, w1, w2⟩
    · have a1 : fn_X11_basin h 0 (xs (5 * c + 1)) (xs (5 * c + 2)) = some none := a1
      exact ⟨1, h, bv, h2, by unfold fnL_basin; rw [a1]; rfl, a2, a3, fun q => absurd q (by decide), R', w, w, R'.wf.2⟩
    · have a1 : fn_X11_basin h 0 (xs (5 * c + 1)) (xs (5 * c + 2)) = some (some (r, h1)) := a1
      refine ⟨0, sJ h1 116 0 (Int32.toInt64 r), r, h2, ?_, a2, a3, fun _ => a4, R', w, w1, w2⟩
      unfold fnL_basin
      rw [a1, Option.bind_some]
      show (wJ h1 116 0 (Int32.toInt64 r)).bind (fun h' => some ((0 : Int32), h')) = _
      rw [out_w w1]; rfl
  refine r_aload_n (pc := 329) X dL_law_329 rfl ?_
  refine r_aloadQ_n (pc := 330) X dL_law_330 rfl ?_
  refine r_iload (pc := 331) X dL_law_331 rfl ?_
  refine r_iconst (pc := 333) X 1 dL_law_333 (by decide) ?_
  refine r_iadd (pc := 334) X dL_law_334 ?_
  refine r_sld (pc := 335) D (k := 5 * c + 1) dL_law_335 (nI_add _ 1) (by omega) ?_
  refine r_aloadQ_n (pc := 336) X dL_law_336 rfl ?_
  refine r_iload (pc := 337) X dL_law_337 rfl ?_
  refine r_iconst (pc := 339) X 2 dL_law_339 (by decide) ?_
  refine r_iadd (pc := 340) X dL_law_340 ?_
  refine r_sld (pc := 341) D (k := 5 * c + 2) dL_law_341 (nI_add _ 2) (by omega) ?_
  refine r_aload_n (pc := 342) X dL_law_342 rfl ?_
  refine r_callSW (pc := 343) X [.ref 0, .int (xs (5 * c + 1)), .int (xs (5 * c + 2)), .ref 116] hE dL_law_343 ml_L_49 wo_L_basin hcs (evW_basin (d := 999) hst (by decide) h (xs (5 * c + 1)) (xs (5 * c + 2)) (k_0 w) (kv, hm) e1) (by decide) rfl (Nat.le_of_ble_eq_true rfl) rfl ?_
  refine r_istore (pc := 346) X [some (.retAddr b), some (.ref 0), some (.ref 86), some (.ref 116), some (.int (nI (5 * c))), some (.int kv), none, none] dL_law_346 (by decide) rfl ?_
  refine r_aload_n (pc := 348) X dL_law_348 rfl ?_
  refine r_aloadQ_n (pc := 349) X dL_law_349 rfl ?_
  refine r_iload (pc := 350) X dL_law_350 rfl ?_
  refine r_iconst (pc := 352) X 1 dL_law_352 (by decide) ?_
  refine r_iadd (pc := 353) X dL_law_353 ?_
  refine r_sld (pc := 354) D (k := 5 * c + 1) dL_law_354 (nI_add _ 1) (by omega) ?_
  refine r_aloadQ_n (pc := 355) X dL_law_355 rfl ?_
  refine r_iload (pc := 356) X dL_law_356 rfl ?_
  refine r_iconst (pc := 358) X 2 dL_law_358 (by decide) ?_
  refine r_iadd (pc := 359) X dL_law_359 ?_
  refine r_sld (pc := 360) D (k := 5 * c + 2) dL_law_360 (nI_add _ 2) (by omega) ?_
  refine r_callVI (pc := 361) X [.int (xs (5 * c + 1)), .int (xs (5 * c + 2))] dL_law_361 ml_L_54 vo_X12_basin hcs (k_86 wm) (ev_X12_basin (d := 999) (by decide) hm 86 (xs (5 * c + 1)) (xs (5 * c + 2)) (bv, h2) e2) (by decide) rfl (Nat.le_of_ble_eq_true rfl) rfl ?_
  refine r_istore (pc := 364) X [some (.retAddr b), some (.ref 0), some (.ref 86), some (.ref 116), some (.int (nI (5 * c))), some (.int kv), some (.int bv), none] dL_law_364 (by decide) rfl ?_
  refine r_aload_n (pc := 366) X dL_law_366 rfl ?_
  refine r_callVI (pc := 367) X [] dL_law_367 ml_L_55 vo_X12_thrown hcs (k_86 w2) (ev_X12_thrown (d := 999) (by decide) h2 86 (hI h2 86 11) (thrown_eq w2)) (by decide) rfl (Nat.le_of_ble_eq_true rfl) rfl ?_
  rw [e3]
  refine r_iload (pc := 370) X dL_law_370 rfl ?_
  refine r_icmp_eq (pc := 372) X 377 dL_law_372 (by decide) (fun _ => ?_) (fun q => absurd rfl q)
  refine r_iload (pc := 377) X dL_law_377 rfl ?_
  refine r_if_ne (pc := 379) X 394 dL_law_379 (by decide) (fun q => ?_) (fun q => ?_)
  · refine r_goto (pc := 394) X 1711 dL_law_394 (by decide) ?_
    refine r_fg 5 [some (.retAddr b), some (.ref 0), some (.ref 86), some (.ref 116), some (.int (nI (5 * c))), none, some (.int bv), none] rfl ?_
    refine r_fg 6 (lvL b (nI (5 * c))) rfl ?_
    exact go h2 R'
  · refine r_aload_n (pc := 382) X dL_law_382 rfl ?_
    refine r_iconst (pc := 383) X 0 dL_law_383 (by decide) ?_
    refine r_lald (pc := 384) X dL_law_384 (out_r w2) ?_
    refine r_iload (pc := 385) X dL_law_385 rfl ?_
    refine r_i2l (pc := 387) X dL_law_387 ?_
    rw [e4 q]
    refine r_lcmp (pc := 388) X dL_law_388 ?_
    rw [cmp_self]
    refine r_if_eq (pc := 389) X 394 dL_law_389 (by decide) (fun _ => ?_) (fun q => absurd rfl q)
    refine r_goto (pc := 394) X 1711 dL_law_394 (by decide) ?_
    refine r_fg 5 [some (.retAddr b), some (.ref 0), some (.ref 86), some (.ref 116), some (.int (nI (5 * c))), none, some (.int bv), none] rfl ?_
    refine r_fg 6 (lvL b (nI (5 * c))) rfl ?_
    exact go h2 R'
set_option maxHeartbeats 1000000 in
theorem lc_6 (D : LC Γ b L xs) {c : Nat} (hc : c ≤ 64) (hL : 5 * c + 5 ≤ L) {h : aH} (R : REL c h h) (hcs : cs.1 + 1 ≤ 600128 ∧ cs.2 + 6 ≤ 7301098) (go : ∀ h2, REL (c + 1) h2 h2 → Jd Γ (cs.1 + 1, cs.2 + 6) 1711 (lvL b (nI (5 * c))) [] h2) : Jd Γ cs 397 (lvL b (nI (5 * c))) [] h := by
  have X := D.1
  have hE := D.2.2.1
  have hst := D.2.2.2.1
  obtain ⟨kv, hm, bv, h2, e1, e2, e3, e4, R', w, wm, w2⟩ : ∃ (kv : Int32) (hm : aH) (bv : Int32) (h2 : aH), fnL_sluice h (xs (5 * c + 1)) (xs (5 * c + 2)) = some (kv, hm) ∧ fn_X12_sluice hm 86 (xs (5 * c + 1)) (xs (5 * c + 2)) = some (bv, h2) ∧ hI h2 86 11 = kv ∧ (kv = 0 → hJ h2 116 0 = Int32.toInt64 bv) ∧ REL (c + 1) h2 h2 ∧ Wf h ∧ Wf hm ∧ Wf h2 := by
    rcases STEPX.law (stp_sluice c hc (xs (5 * c + 1)) (xs (5 * c + 2))) Int32.toInt64 R with ⟨a1, bv, h2, a2, a3, R', w⟩ | ⟨r, h1, h2, a1, a2, a3, a4, R', w, w1, w2⟩
    · have a1 : fn_X11_sluice h 0 (xs (5 * c + 1)) (xs (5 * c + 2)) = some none := a1
      exact ⟨1, h, bv, h2, by unfold fnL_sluice; rw [a1]; rfl, a2, a3, fun q => absurd q (by decide), R', w, w, R'.wf.2⟩
    · have a1 : fn_X11_sluice h 0 (xs (5 * c + 1)) (xs (5 * c + 2)) = some (some (r, h1)) := a1
      refine ⟨0, sJ h1 116 0 (Int32.toInt64 r), r, h2, ?_, a2, a3, fun _ => a4, R', w, w1, w2⟩
      unfold fnL_sluice
      rw [a1, Option.bind_some]
      show (wJ h1 116 0 (Int32.toInt64 r)).bind (fun h' => some ((0 : Int32), h')) = _
      rw [out_w w1]; rfl
  refine r_aload_n (pc := 397) X dL_law_397 rfl ?_
  refine r_aloadQ_n (pc := 398) X dL_law_398 rfl ?_
  refine r_iload (pc := 399) X dL_law_399 rfl ?_
  refine r_iconst (pc := 401) X 1 dL_law_401 (by decide) ?_
  refine r_iadd (pc := 402) X dL_law_402 ?_
  refine r_sld (pc := 403) D (k := 5 * c + 1) dL_law_403 (nI_add _ 1) (by omega) ?_
  refine r_aloadQ_n (pc := 404) X dL_law_404 rfl ?_
  refine r_iload (pc := 405) X dL_law_405 rfl ?_
  refine r_iconst (pc := 407) X 2 dL_law_407 (by decide) ?_
  refine r_iadd (pc := 408) X dL_law_408 ?_
  refine r_sld (pc := 409) D (k := 5 * c + 2) dL_law_409 (nI_add _ 2) (by omega) ?_
  refine r_aload_n (pc := 410) X dL_law_410 rfl ?_
  refine r_callSW (pc := 411) X [.ref 0, .int (xs (5 * c + 1)), .int (xs (5 * c + 2)), .ref 116] hE dL_law_411 ml_L_58 wo_L_sluice hcs (evW_sluice (d := 999) hst (by decide) h (xs (5 * c + 1)) (xs (5 * c + 2)) (k_0 w) (kv, hm) e1) (by decide) rfl (Nat.le_of_ble_eq_true rfl) rfl ?_
  refine r_istore (pc := 414) X [some (.retAddr b), some (.ref 0), some (.ref 86), some (.ref 116), some (.int (nI (5 * c))), some (.int kv), none, none] dL_law_414 (by decide) rfl ?_
  refine r_aload_n (pc := 416) X dL_law_416 rfl ?_
  refine r_aloadQ_n (pc := 417) X dL_law_417 rfl ?_
  refine r_iload (pc := 418) X dL_law_418 rfl ?_
  refine r_iconst (pc := 420) X 1 dL_law_420 (by decide) ?_
  refine r_iadd (pc := 421) X dL_law_421 ?_
  refine r_sld (pc := 422) D (k := 5 * c + 1) dL_law_422 (nI_add _ 1) (by omega) ?_
  refine r_aloadQ_n (pc := 423) X dL_law_423 rfl ?_
  refine r_iload (pc := 424) X dL_law_424 rfl ?_
  refine r_iconst (pc := 426) X 2 dL_law_426 (by decide) ?_
  refine r_iadd (pc := 427) X dL_law_427 ?_
  refine r_sld (pc := 428) D (k := 5 * c + 2) dL_law_428 (nI_add _ 2) (by omega) ?_
  refine r_callVI (pc := 429) X [.int (xs (5 * c + 1)), .int (xs (5 * c + 2))] dL_law_429 ml_L_60 vo_X12_sluice hcs (k_86 wm) (ev_X12_sluice (d := 999) (by decide) hm 86 (xs (5 * c + 1)) (xs (5 * c + 2)) (bv, h2) e2) (by decide) rfl (Nat.le_of_ble_eq_true rfl) rfl ?_
  refine r_istore (pc := 432) X [some (.retAddr b), some (.ref 0), some (.ref 86), some (.ref 116), some (.int (nI (5 * c))), some (.int kv), some (.int bv), none] dL_law_432 (by decide) rfl ?_
  refine r_aload_n (pc := 434) X dL_law_434 rfl ?_
  refine r_callVI (pc := 435) X [] dL_law_435 ml_L_55 vo_X12_thrown hcs (k_86 w2) (ev_X12_thrown (d := 999) (by decide) h2 86 (hI h2 86 11) (thrown_eq w2)) (by decide) rfl (Nat.le_of_ble_eq_true rfl) rfl ?_
  rw [e3]
  refine r_iload (pc := 438) X dL_law_438 rfl ?_
  refine r_icmp_eq (pc := 440) X 445 dL_law_440 (by decide) (fun _ => ?_) (fun q => absurd rfl q)
  refine r_iload (pc := 445) X dL_law_445 rfl ?_
  refine r_if_ne (pc := 447) X 462 dL_law_447 (by decide) (fun q => ?_) (fun q => ?_)
  · refine r_goto (pc := 462) X 1711 dL_law_462 (by decide) ?_
    refine r_fg 5 [some (.retAddr b), some (.ref 0), some (.ref 86), some (.ref 116), some (.int (nI (5 * c))), none, some (.int bv), none] rfl ?_
    refine r_fg 6 (lvL b (nI (5 * c))) rfl ?_
    exact go h2 R'
  · refine r_aload_n (pc := 450) X dL_law_450 rfl ?_
    refine r_iconst (pc := 451) X 0 dL_law_451 (by decide) ?_
    refine r_lald (pc := 452) X dL_law_452 (out_r w2) ?_
    refine r_iload (pc := 453) X dL_law_453 rfl ?_
    refine r_i2l (pc := 455) X dL_law_455 ?_
    rw [e4 q]
    refine r_lcmp (pc := 456) X dL_law_456 ?_
    rw [cmp_self]
    refine r_if_eq (pc := 457) X 462 dL_law_457 (by decide) (fun _ => ?_) (fun q => absurd rfl q)
    refine r_goto (pc := 462) X 1711 dL_law_462 (by decide) ?_
    refine r_fg 5 [some (.retAddr b), some (.ref 0), some (.ref 86), some (.ref 116), some (.int (nI (5 * c))), none, some (.int bv), none] rfl ?_
    refine r_fg 6 (lvL b (nI (5 * c))) rfl ?_
    exact go h2 R'
set_option maxHeartbeats 1000000 in
theorem lc_46 (D : LC Γ b L xs) {c : Nat} (hc : c ≤ 64) (hL : 5 * c + 5 ≤ L) {h : aH} (R : REL c h h) (hcs : cs.1 + 1 ≤ 600128 ∧ cs.2 + 6 ≤ 7301098) (go : ∀ h2, REL (c + 1) h2 h2 → Jd Γ (cs.1 + 1, cs.2 + 6) 1711 (lvL b (nI (5 * c))) [] h2) : Jd Γ cs 1656 (lvL b (nI (5 * c))) [] h := by
  have X := D.1
  have hE := D.2.2.1
  have hst := D.2.2.2.1
  obtain ⟨kv, hm, bv, h2, e1, e2, e3, e4, R', w, wm, w2⟩ : ∃ (kv : Int32) (hm : aH) (bv : Int64) (h2 : aH), fnL_row h (xs (5 * c + 1)) = some (kv, hm) ∧ fn_X12_row hm 86 (xs (5 * c + 1)) = some (bv, h2) ∧ hI h2 86 11 = kv ∧ (kv = 0 → hJ h2 116 0 = bv) ∧ REL (c + 1) h2 h2 ∧ Wf h ∧ Wf hm ∧ Wf h2 := by
    rcases STEPX.law (stp_row c (xs (5 * c + 1))) (fun q => q) R with ⟨a1, bv, h2, a2, a3, R', w⟩ | ⟨r, h1, h2, a1, a2, a3, a4, R', w, w1, w2⟩
    · have a1 : fn_X11_row h 0 (xs (5 * c + 1)) = some none := a1
      exact ⟨1, h, bv, h2, by unfold fnL_row; rw [a1]; rfl, a2, a3, fun q => absurd q (by decide), R', w, w, R'.wf.2⟩
    · have a1 : fn_X11_row h 0 (xs (5 * c + 1)) = some (some (r, h1)) := a1
      refine ⟨0, sJ h1 116 0 (r), r, h2, ?_, a2, a3, fun _ => a4, R', w, w1, w2⟩
      unfold fnL_row
      rw [a1, Option.bind_some]
      show (wJ h1 116 0 (r)).bind (fun h' => some ((0 : Int32), h')) = _
      rw [out_w w1]; rfl
  refine r_aload_n (pc := 1656) X dL_law_1656 rfl ?_
  refine r_aloadQ_n (pc := 1657) X dL_law_1657 rfl ?_
  refine r_iload (pc := 1658) X dL_law_1658 rfl ?_
  refine r_iconst (pc := 1660) X 1 dL_law_1660 (by decide) ?_
  refine r_iadd (pc := 1661) X dL_law_1661 ?_
  refine r_sld (pc := 1662) D (k := 5 * c + 1) dL_law_1662 (nI_add _ 1) (by omega) ?_
  refine r_aload_n (pc := 1663) X dL_law_1663 rfl ?_
  refine r_callSW (pc := 1664) X [.ref 0, .int (xs (5 * c + 1)), .ref 116] hE dL_law_1664 ml_L_219 wo_L_row hcs (evW_row (d := 999) hst (by decide) h (xs (5 * c + 1)) (k_0 w) (kv, hm) e1) (by decide) rfl (Nat.le_of_ble_eq_true rfl) rfl ?_
  refine r_istore (pc := 1667) X [some (.retAddr b), some (.ref 0), some (.ref 86), some (.ref 116), some (.int (nI (5 * c))), some (.int kv), none, none] dL_law_1667 (by decide) rfl ?_
  refine r_aload_n (pc := 1669) X dL_law_1669 rfl ?_
  refine r_aloadQ_n (pc := 1670) X dL_law_1670 rfl ?_
  refine r_iload (pc := 1671) X dL_law_1671 rfl ?_
  refine r_iconst (pc := 1673) X 1 dL_law_1673 (by decide) ?_
  refine r_iadd (pc := 1674) X dL_law_1674 ?_
  refine r_sld (pc := 1675) D (k := 5 * c + 1) dL_law_1675 (nI_add _ 1) (by omega) ?_
  refine r_callVJ (pc := 1676) X [.int (xs (5 * c + 1))] dL_law_1676 ml_L_222 vo_X12_row hcs (k_86 wm) (ev_X12_row (d := 999) (by decide) hm 86 (xs (5 * c + 1)) (bv, h2) e2) (by decide) rfl (Nat.le_of_ble_eq_true rfl) rfl ?_
  refine r_lstore (pc := 1679) X [some (.retAddr b), some (.ref 0), some (.ref 86), some (.ref 116), some (.int (nI (5 * c))), some (.int kv), some (.long bv), none] dL_law_1679 (by decide) rfl ?_
  refine r_aload_n (pc := 1681) X dL_law_1681 rfl ?_
  refine r_callVI (pc := 1682) X [] dL_law_1682 ml_L_55 vo_X12_thrown hcs (k_86 w2) (ev_X12_thrown (d := 999) (by decide) h2 86 (hI h2 86 11) (thrown_eq w2)) (by decide) rfl (Nat.le_of_ble_eq_true rfl) rfl ?_
  rw [e3]
  refine r_iload (pc := 1685) X dL_law_1685 rfl ?_
  refine r_icmp_eq (pc := 1687) X 1692 dL_law_1687 (by decide) (fun _ => ?_) (fun q => absurd rfl q)
  refine r_iload (pc := 1692) X dL_law_1692 rfl ?_
  refine r_if_ne (pc := 1694) X 1708 dL_law_1694 (by decide) (fun q => ?_) (fun q => ?_)
  · refine r_goto (pc := 1708) X 1711 dL_law_1708 (by decide) ?_
    refine r_fg 5 [some (.retAddr b), some (.ref 0), some (.ref 86), some (.ref 116), some (.int (nI (5 * c))), none, some (.long bv), none] rfl ?_
    refine r_fg 6 (lvL b (nI (5 * c))) rfl ?_
    exact go h2 R'
  · refine r_aload_n (pc := 1697) X dL_law_1697 rfl ?_
    refine r_iconst (pc := 1698) X 0 dL_law_1698 (by decide) ?_
    refine r_lald (pc := 1699) X dL_law_1699 (out_r w2) ?_
    refine r_lload (pc := 1700) X dL_law_1700 rfl ?_
    rw [e4 q]
    refine r_lcmp (pc := 1702) X dL_law_1702 ?_
    rw [cmp_self]
    refine r_if_eq (pc := 1703) X 1708 dL_law_1703 (by decide) (fun _ => ?_) (fun q => absurd rfl q)
    refine r_goto (pc := 1708) X 1711 dL_law_1708 (by decide) ?_
    refine r_fg 5 [some (.retAddr b), some (.ref 0), some (.ref 86), some (.ref 116), some (.int (nI (5 * c))), none, some (.long bv), none] rfl ?_
    refine r_fg 6 (lvL b (nI (5 * c))) rfl ?_
    exact go h2 R'
end CasesX
