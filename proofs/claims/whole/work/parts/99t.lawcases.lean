/-! the law's cases (laid) -/
section Cases
variable {Γ : aC} {cs : Nat × Nat} {b L : Nat} {xs : Nat → Int32}
set_option maxHeartbeats 1000000 in
theorem lc_0 (D : LC Γ b L xs) {c : Nat} (hc : c ≤ 64) (hL : 5 * c + 5 ≤ L) {h : aH} (R : REL c h h) (hcs : cs.1 ≤ 600128 ∧ cs.2 ≤ 7301098) (go : ∀ h2, REL (c + 1) h2 h2 → Jd Γ cs 1711 (lvL b (nI (5 * c))) [] h2) : Jd Γ cs 240 (lvL b (nI (5 * c))) [] h := by
  have X := D.1
  obtain ⟨r, h1, h2, e1, e2, R', w, w1⟩ := STEP.law2 (stp_sign c (xs (5 * c + 1))) R
  have e1 : fn_X11_sign h 0 (xs (5 * c + 1)) = some (r, h1) := e1
  have e2 : fn_X12_sign h1 86 (xs (5 * c + 1)) = some (r, h2) := e2
  refine r_aload_n (pc := 240) X dL_law_240 rfl ?_
  refine r_aloadQ_n (pc := 241) X dL_law_241 rfl ?_
  refine r_iload (pc := 242) X dL_law_242 rfl ?_
  refine r_iconst (pc := 244) X 1 dL_law_244 (by decide) ?_
  refine r_iadd (pc := 245) X dL_law_245 ?_
  refine r_sld (pc := 246) D (k := 5 * c + 1) dL_law_246 (nI_add _ 1) (by omega) ?_
  refine r_callVI (pc := 247) X [.int (xs (5 * c + 1))] dL_law_247 ml_L_26 vo_X11_sign hcs (k_0 w) (ev_X11_sign (d := 999) (by decide) h 0 (xs (5 * c + 1)) (r, h1) e1) (by decide) rfl (Nat.le_of_ble_eq_true rfl) rfl ?_
  refine r_aload_n (pc := 250) X dL_law_250 rfl ?_
  refine r_aloadQ_n (pc := 251) X dL_law_251 rfl ?_
  refine r_iload (pc := 252) X dL_law_252 rfl ?_
  refine r_iconst (pc := 254) X 1 dL_law_254 (by decide) ?_
  refine r_iadd (pc := 255) X dL_law_255 ?_
  refine r_sld (pc := 256) D (k := 5 * c + 1) dL_law_256 (nI_add _ 1) (by omega) ?_
  refine r_callVI (pc := 257) X [.int (xs (5 * c + 1))] dL_law_257 ml_L_30 vo_X12_sign hcs (k_86 w1) (ev_X12_sign (d := 999) (by decide) h1 86 (xs (5 * c + 1)) (r, h2) e2) (by decide) rfl (Nat.le_of_ble_eq_true rfl) rfl ?_
  exact r_icmp_eq (pc := 260) X 1711 dL_law_260 (by decide) (fun _ => go h2 R') (fun q => absurd rfl q)
set_option maxHeartbeats 1000000 in
theorem lc_1 (D : LC Γ b L xs) {c : Nat} (hc : c ≤ 64) (hL : 5 * c + 5 ≤ L) {h : aH} (R : REL c h h) (hcs : cs.1 ≤ 600128 ∧ cs.2 ≤ 7301098) (go : ∀ h2, REL (c + 1) h2 h2 → Jd Γ cs 1711 (lvL b (nI (5 * c))) [] h2) : Jd Γ cs 265 (lvL b (nI (5 * c))) [] h := by
  have X := D.1
  obtain ⟨r, h1, h2, e1, e2, R', w, w1⟩ := STEP.law2 (stp_end c (xs (5 * c + 1))) R
  have e1 : fn_X11_end h 0 (xs (5 * c + 1)) = some (r, h1) := e1
  have e2 : fn_X12_end h1 86 (xs (5 * c + 1)) = some (r, h2) := e2
  refine r_aload_n (pc := 265) X dL_law_265 rfl ?_
  refine r_aloadQ_n (pc := 266) X dL_law_266 rfl ?_
  refine r_iload (pc := 267) X dL_law_267 rfl ?_
  refine r_iconst (pc := 269) X 1 dL_law_269 (by decide) ?_
  refine r_iadd (pc := 270) X dL_law_270 ?_
  refine r_sld (pc := 271) D (k := 5 * c + 1) dL_law_271 (nI_add _ 1) (by omega) ?_
  refine r_callVI (pc := 272) X [.int (xs (5 * c + 1))] dL_law_272 ml_L_31 vo_X11_end hcs (k_0 w) (ev_X11_end (d := 999) (by decide) h 0 (xs (5 * c + 1)) (r, h1) e1) (by decide) rfl (Nat.le_of_ble_eq_true rfl) rfl ?_
  refine r_aload_n (pc := 275) X dL_law_275 rfl ?_
  refine r_aloadQ_n (pc := 276) X dL_law_276 rfl ?_
  refine r_iload (pc := 277) X dL_law_277 rfl ?_
  refine r_iconst (pc := 279) X 1 dL_law_279 (by decide) ?_
  refine r_iadd (pc := 280) X dL_law_280 ?_
  refine r_sld (pc := 281) D (k := 5 * c + 1) dL_law_281 (nI_add _ 1) (by omega) ?_
  refine r_callVI (pc := 282) X [.int (xs (5 * c + 1))] dL_law_282 ml_L_35 vo_X12_end hcs (k_86 w1) (ev_X12_end (d := 999) (by decide) h1 86 (xs (5 * c + 1)) (r, h2) e2) (by decide) rfl (Nat.le_of_ble_eq_true rfl) rfl ?_
  exact r_icmp_eq (pc := 285) X 1711 dL_law_285 (by decide) (fun _ => go h2 R') (fun q => absurd rfl q)
set_option maxHeartbeats 1000000 in
theorem lc_2 (D : LC Γ b L xs) {c : Nat} (hc : c ≤ 64) (hL : 5 * c + 5 ≤ L) {h : aH} (R : REL c h h) (hcs : cs.1 ≤ 600128 ∧ cs.2 ≤ 7301098) (go : ∀ h2, REL (c + 1) h2 h2 → Jd Γ cs 1711 (lvL b (nI (5 * c))) [] h2) : Jd Γ cs 290 (lvL b (nI (5 * c))) [] h := by
  have X := D.1
  obtain ⟨r, h1, h2, e1, e2, R', w, w1⟩ := STEP.law2 (stp_basins c hc) R
  have e1 : fn_X11_basins h 0 = some (r, h1) := e1
  have e2 : fn_X12_basins h1 86 = some (r, h2) := e2
  refine r_aload_n (pc := 290) X dL_law_290 rfl ?_
  refine r_callVI (pc := 291) X [] dL_law_291 ml_L_36 vo_X11_basins hcs (k_0 w) (ev_X11_basins (d := 999) (by decide) h 0 (r, h1) e1) (by decide) rfl (Nat.le_of_ble_eq_true rfl) rfl ?_
  refine r_aload_n (pc := 294) X dL_law_294 rfl ?_
  refine r_callVI (pc := 295) X [] dL_law_295 ml_L_40 vo_X12_basins hcs (k_86 w1) (ev_X12_basins (d := 999) (by decide) h1 86 (r, h2) e2) (by decide) rfl (Nat.le_of_ble_eq_true rfl) rfl ?_
  exact r_icmp_eq (pc := 298) X 1711 dL_law_298 (by decide) (fun _ => go h2 R') (fun q => absurd rfl q)
set_option maxHeartbeats 1000000 in
theorem lc_3 (D : LC Γ b L xs) {c : Nat} (hc : c ≤ 64) (hL : 5 * c + 5 ≤ L) {h : aH} (R : REL c h h) (hcs : cs.1 ≤ 600128 ∧ cs.2 ≤ 7301098) (go : ∀ h2, REL (c + 1) h2 h2 → Jd Γ cs 1711 (lvL b (nI (5 * c))) [] h2) : Jd Γ cs 303 (lvL b (nI (5 * c))) [] h := by
  have X := D.1
  obtain ⟨r, h1, h2, e1, e2, R', w, w1⟩ := STEP.law2 (stp_sluices c hc) R
  have e1 : fn_X11_sluices h 0 = some (r, h1) := e1
  have e2 : fn_X12_sluices h1 86 = some (r, h2) := e2
  refine r_aload_n (pc := 303) X dL_law_303 rfl ?_
  refine r_callVI (pc := 304) X [] dL_law_304 ml_L_41 vo_X11_sluices hcs (k_0 w) (ev_X11_sluices (d := 999) (by decide) h 0 (r, h1) e1) (by decide) rfl (Nat.le_of_ble_eq_true rfl) rfl ?_
  refine r_aload_n (pc := 307) X dL_law_307 rfl ?_
  refine r_callVI (pc := 308) X [] dL_law_308 ml_L_44 vo_X12_sluices hcs (k_86 w1) (ev_X12_sluices (d := 999) (by decide) h1 86 (r, h2) e2) (by decide) rfl (Nat.le_of_ble_eq_true rfl) rfl ?_
  exact r_icmp_eq (pc := 311) X 1711 dL_law_311 (by decide) (fun _ => go h2 R') (fun q => absurd rfl q)
set_option maxHeartbeats 1000000 in
theorem lc_4 (D : LC Γ b L xs) {c : Nat} (hc : c ≤ 64) (hL : 5 * c + 5 ≤ L) {h : aH} (R : REL c h h) (hcs : cs.1 ≤ 600128 ∧ cs.2 ≤ 7301098) (go : ∀ h2, REL (c + 1) h2 h2 → Jd Γ cs 1711 (lvL b (nI (5 * c))) [] h2) : Jd Γ cs 316 (lvL b (nI (5 * c))) [] h := by
  have X := D.1
  obtain ⟨r, h1, h2, e1, e2, R', w, w1⟩ := STEP.law2 (stp_rule c hc) R
  have e1 : fn_X11_rule h 0 = some (r, h1) := e1
  have e2 : fn_X12_rule h1 86 = some (r, h2) := e2
  refine r_aload_n (pc := 316) X dL_law_316 rfl ?_
  refine r_callVI (pc := 317) X [] dL_law_317 ml_L_45 vo_X11_rule hcs (k_0 w) (ev_X11_rule (d := 999) (by decide) h 0 (r, h1) e1) (by decide) rfl (Nat.le_of_ble_eq_true rfl) rfl ?_
  refine r_aload_n (pc := 320) X dL_law_320 rfl ?_
  refine r_callVI (pc := 321) X [] dL_law_321 ml_L_48 vo_X12_rule hcs (k_86 w1) (ev_X12_rule (d := 999) (by decide) h1 86 (r, h2) e2) (by decide) rfl (Nat.le_of_ble_eq_true rfl) rfl ?_
  exact r_icmp_eq (pc := 324) X 1711 dL_law_324 (by decide) (fun _ => go h2 R') (fun q => absurd rfl q)
set_option maxHeartbeats 1000000 in
theorem lc_7 (D : LC Γ b L xs) {c : Nat} (hc : c ≤ 64) (hL : 5 * c + 5 ≤ L) {h : aH} (R : REL c h h) (hcs : cs.1 ≤ 600128 ∧ cs.2 ≤ 7301098) (go : ∀ h2, REL (c + 1) h2 h2 → Jd Γ cs 1711 (lvL b (nI (5 * c))) [] h2) : Jd Γ cs 465 (lvL b (nI (5 * c))) [] h := by
  have X := D.1
  obtain ⟨r, h1, h2, e1, e2, R', w, w1⟩ := STEP.law2 (stp_sheet c (xs (5 * c + 1)) (xs (5 * c + 2)) (xs (5 * c + 3)) (xs (5 * c + 4))) R
  have e1 : fn_X11_sheet h 0 (xs (5 * c + 1)) (xs (5 * c + 2)) (xs (5 * c + 3)) (xs (5 * c + 4)) = some (r, h1) := e1
  have e2 : fn_X12_sheet h1 86 (xs (5 * c + 1)) (xs (5 * c + 2)) (xs (5 * c + 3)) (xs (5 * c + 4)) = some (r, h2) := e2
  refine r_aload_n (pc := 465) X dL_law_465 rfl ?_
  refine r_aloadQ_n (pc := 466) X dL_law_466 rfl ?_
  refine r_iload (pc := 467) X dL_law_467 rfl ?_
  refine r_iconst (pc := 469) X 1 dL_law_469 (by decide) ?_
  refine r_iadd (pc := 470) X dL_law_470 ?_
  refine r_sld (pc := 471) D (k := 5 * c + 1) dL_law_471 (nI_add _ 1) (by omega) ?_
  refine r_aloadQ_n (pc := 472) X dL_law_472 rfl ?_
  refine r_iload (pc := 473) X dL_law_473 rfl ?_
  refine r_iconst (pc := 475) X 2 dL_law_475 (by decide) ?_
  refine r_iadd (pc := 476) X dL_law_476 ?_
  refine r_sld (pc := 477) D (k := 5 * c + 2) dL_law_477 (nI_add _ 2) (by omega) ?_
  refine r_aloadQ_n (pc := 478) X dL_law_478 rfl ?_
  refine r_iload (pc := 479) X dL_law_479 rfl ?_
  refine r_iconst (pc := 481) X 3 dL_law_481 (by decide) ?_
  refine r_iadd (pc := 482) X dL_law_482 ?_
  refine r_sld (pc := 483) D (k := 5 * c + 3) dL_law_483 (nI_add _ 3) (by omega) ?_
  refine r_aloadQ_n (pc := 484) X dL_law_484 rfl ?_
  refine r_iload (pc := 485) X dL_law_485 rfl ?_
  refine r_iconst (pc := 487) X 4 dL_law_487 (by decide) ?_
  refine r_iadd (pc := 488) X dL_law_488 ?_
  refine r_sld (pc := 489) D (k := 5 * c + 4) dL_law_489 (nI_add _ 4) (by omega) ?_
  refine r_callVI (pc := 490) X [.int (xs (5 * c + 1)), .int (xs (5 * c + 2)), .int (xs (5 * c + 3)), .int (xs (5 * c + 4))] dL_law_490 ml_L_61 vo_X11_sheet hcs (k_0 w) (ev_X11_sheet (d := 999) (by decide) h 0 (xs (5 * c + 1)) (xs (5 * c + 2)) (xs (5 * c + 3)) (xs (5 * c + 4)) (r, h1) e1) (by decide) rfl (Nat.le_of_ble_eq_true rfl) rfl ?_
  refine r_aload_n (pc := 493) X dL_law_493 rfl ?_
  refine r_aloadQ_n (pc := 494) X dL_law_494 rfl ?_
  refine r_iload (pc := 495) X dL_law_495 rfl ?_
  refine r_iconst (pc := 497) X 1 dL_law_497 (by decide) ?_
  refine r_iadd (pc := 498) X dL_law_498 ?_
  refine r_sld (pc := 499) D (k := 5 * c + 1) dL_law_499 (nI_add _ 1) (by omega) ?_
  refine r_aloadQ_n (pc := 500) X dL_law_500 rfl ?_
  refine r_iload (pc := 501) X dL_law_501 rfl ?_
  refine r_iconst (pc := 503) X 2 dL_law_503 (by decide) ?_
  refine r_iadd (pc := 504) X dL_law_504 ?_
  refine r_sld (pc := 505) D (k := 5 * c + 2) dL_law_505 (nI_add _ 2) (by omega) ?_
  refine r_aloadQ_n (pc := 506) X dL_law_506 rfl ?_
  refine r_iload (pc := 507) X dL_law_507 rfl ?_
  refine r_iconst (pc := 509) X 3 dL_law_509 (by decide) ?_
  refine r_iadd (pc := 510) X dL_law_510 ?_
  refine r_sld (pc := 511) D (k := 5 * c + 3) dL_law_511 (nI_add _ 3) (by omega) ?_
  refine r_aloadQ_n (pc := 512) X dL_law_512 rfl ?_
  refine r_iload (pc := 513) X dL_law_513 rfl ?_
  refine r_iconst (pc := 515) X 4 dL_law_515 (by decide) ?_
  refine r_iadd (pc := 516) X dL_law_516 ?_
  refine r_sld (pc := 517) D (k := 5 * c + 4) dL_law_517 (nI_add _ 4) (by omega) ?_
  refine r_callVI (pc := 518) X [.int (xs (5 * c + 1)), .int (xs (5 * c + 2)), .int (xs (5 * c + 3)), .int (xs (5 * c + 4))] dL_law_518 ml_L_65 vo_X12_sheet hcs (k_86 w1) (ev_X12_sheet (d := 999) (by decide) h1 86 (xs (5 * c + 1)) (xs (5 * c + 2)) (xs (5 * c + 3)) (xs (5 * c + 4)) (r, h2) e2) (by decide) rfl (Nat.le_of_ble_eq_true rfl) rfl ?_
  exact r_icmp_eq (pc := 521) X 1711 dL_law_521 (by decide) (fun _ => go h2 R') (fun q => absurd rfl q)
set_option maxHeartbeats 1000000 in
theorem lc_8 (D : LC Γ b L xs) {c : Nat} (hc : c ≤ 64) (hL : 5 * c + 5 ≤ L) {h : aH} (R : REL c h h) (hcs : cs.1 ≤ 600128 ∧ cs.2 ≤ 7301098) (go : ∀ h2, REL (c + 1) h2 h2 → Jd Γ cs 1711 (lvL b (nI (5 * c))) [] h2) : Jd Γ cs 526 (lvL b (nI (5 * c))) [] h := by
  have X := D.1
  obtain ⟨r, h1, h2, e1, e2, R', w, w1⟩ := STEP.law2 (stp_hours c hc (xs (5 * c + 1))) R
  have e1 : fn_X11_hours h 0 (xs (5 * c + 1)) = some (r, h1) := e1
  have e2 : fn_X12_hours h1 86 (xs (5 * c + 1)) = some (r, h2) := e2
  refine r_aload_n (pc := 526) X dL_law_526 rfl ?_
  refine r_aloadQ_n (pc := 527) X dL_law_527 rfl ?_
  refine r_iload (pc := 528) X dL_law_528 rfl ?_
  refine r_iconst (pc := 530) X 1 dL_law_530 (by decide) ?_
  refine r_iadd (pc := 531) X dL_law_531 ?_
  refine r_sld (pc := 532) D (k := 5 * c + 1) dL_law_532 (nI_add _ 1) (by omega) ?_
  refine r_callVI (pc := 533) X [.int (xs (5 * c + 1))] dL_law_533 ml_L_66 vo_X11_hours hcs (k_0 w) (ev_X11_hours (d := 999) (by decide) h 0 (xs (5 * c + 1)) (r, h1) e1) (by decide) rfl (Nat.le_of_ble_eq_true rfl) rfl ?_
  refine r_aload_n (pc := 536) X dL_law_536 rfl ?_
  refine r_aloadQ_n (pc := 537) X dL_law_537 rfl ?_
  refine r_iload (pc := 538) X dL_law_538 rfl ?_
  refine r_iconst (pc := 540) X 1 dL_law_540 (by decide) ?_
  refine r_iadd (pc := 541) X dL_law_541 ?_
  refine r_sld (pc := 542) D (k := 5 * c + 1) dL_law_542 (nI_add _ 1) (by omega) ?_
  refine r_callVI (pc := 543) X [.int (xs (5 * c + 1))] dL_law_543 ml_L_69 vo_X12_hours hcs (k_86 w1) (ev_X12_hours (d := 999) (by decide) h1 86 (xs (5 * c + 1)) (r, h2) e2) (by decide) rfl (Nat.le_of_ble_eq_true rfl) rfl ?_
  exact r_icmp_eq (pc := 546) X 1711 dL_law_546 (by decide) (fun _ => go h2 R') (fun q => absurd rfl q)
set_option maxHeartbeats 1000000 in
theorem lc_9 (D : LC Γ b L xs) {c : Nat} (hc : c ≤ 64) (hL : 5 * c + 5 ≤ L) {h : aH} (R : REL c h h) (hcs : cs.1 ≤ 600128 ∧ cs.2 ≤ 7301098) (go : ∀ h2, REL (c + 1) h2 h2 → Jd Γ cs 1711 (lvL b (nI (5 * c))) [] h2) : Jd Γ cs 551 (lvL b (nI (5 * c))) [] h := by
  have X := D.1
  obtain ⟨r, h1, h2, e1, e2, R', w, w1⟩ := STEP.law2 (stp_pours c (xs (5 * c + 1)) (xs (5 * c + 2))) R
  have e1 : fn_X11_pours h 0 (xs (5 * c + 1)) (xs (5 * c + 2)) = some (r, h1) := e1
  have e2 : fn_X12_pours h1 86 (xs (5 * c + 1)) (xs (5 * c + 2)) = some (r, h2) := e2
  refine r_aload_n (pc := 551) X dL_law_551 rfl ?_
  refine r_aloadQ_n (pc := 552) X dL_law_552 rfl ?_
  refine r_iload (pc := 553) X dL_law_553 rfl ?_
  refine r_iconst (pc := 555) X 1 dL_law_555 (by decide) ?_
  refine r_iadd (pc := 556) X dL_law_556 ?_
  refine r_sld (pc := 557) D (k := 5 * c + 1) dL_law_557 (nI_add _ 1) (by omega) ?_
  refine r_aloadQ_n (pc := 558) X dL_law_558 rfl ?_
  refine r_iload (pc := 559) X dL_law_559 rfl ?_
  refine r_iconst (pc := 561) X 2 dL_law_561 (by decide) ?_
  refine r_iadd (pc := 562) X dL_law_562 ?_
  refine r_sld (pc := 563) D (k := 5 * c + 2) dL_law_563 (nI_add _ 2) (by omega) ?_
  refine r_callVI (pc := 564) X [.int (xs (5 * c + 1)), .int (xs (5 * c + 2))] dL_law_564 ml_L_70 vo_X11_pours hcs (k_0 w) (ev_X11_pours (d := 999) (by decide) h 0 (xs (5 * c + 1)) (xs (5 * c + 2)) (r, h1) e1) (by decide) rfl (Nat.le_of_ble_eq_true rfl) rfl ?_
  refine r_aload_n (pc := 567) X dL_law_567 rfl ?_
  refine r_aloadQ_n (pc := 568) X dL_law_568 rfl ?_
  refine r_iload (pc := 569) X dL_law_569 rfl ?_
  refine r_iconst (pc := 571) X 1 dL_law_571 (by decide) ?_
  refine r_iadd (pc := 572) X dL_law_572 ?_
  refine r_sld (pc := 573) D (k := 5 * c + 1) dL_law_573 (nI_add _ 1) (by omega) ?_
  refine r_aloadQ_n (pc := 574) X dL_law_574 rfl ?_
  refine r_iload (pc := 575) X dL_law_575 rfl ?_
  refine r_iconst (pc := 577) X 2 dL_law_577 (by decide) ?_
  refine r_iadd (pc := 578) X dL_law_578 ?_
  refine r_sld (pc := 579) D (k := 5 * c + 2) dL_law_579 (nI_add _ 2) (by omega) ?_
  refine r_callVI (pc := 580) X [.int (xs (5 * c + 1)), .int (xs (5 * c + 2))] dL_law_580 ml_L_73 vo_X12_pours hcs (k_86 w1) (ev_X12_pours (d := 999) (by decide) h1 86 (xs (5 * c + 1)) (xs (5 * c + 2)) (r, h2) e2) (by decide) rfl (Nat.le_of_ble_eq_true rfl) rfl ?_
  exact r_icmp_eq (pc := 583) X 1711 dL_law_583 (by decide) (fun _ => go h2 R') (fun q => absurd rfl q)
set_option maxHeartbeats 1000000 in
theorem lc_10 (D : LC Γ b L xs) {c : Nat} (hc : c ≤ 64) (hL : 5 * c + 5 ≤ L) {h : aH} (R : REL c h h) (hcs : cs.1 ≤ 600128 ∧ cs.2 ≤ 7301098) (go : ∀ h2, REL (c + 1) h2 h2 → Jd Γ cs 1711 (lvL b (nI (5 * c))) [] h2) : Jd Γ cs 588 (lvL b (nI (5 * c))) [] h := by
  have X := D.1
  obtain ⟨r, h1, h2, e1, e2, R', w, w1⟩ := STEP.law2 (stp_lets c (xs (5 * c + 1)) (xs (5 * c + 2))) R
  have e1 : fn_X11_lets h 0 (xs (5 * c + 1)) (xs (5 * c + 2)) = some (r, h1) := e1
  have e2 : fn_X12_lets h1 86 (xs (5 * c + 1)) (xs (5 * c + 2)) = some (r, h2) := e2
  refine r_aload_n (pc := 588) X dL_law_588 rfl ?_
  refine r_aloadQ_n (pc := 589) X dL_law_589 rfl ?_
  refine r_iload (pc := 590) X dL_law_590 rfl ?_
  refine r_iconst (pc := 592) X 1 dL_law_592 (by decide) ?_
  refine r_iadd (pc := 593) X dL_law_593 ?_
  refine r_sld (pc := 594) D (k := 5 * c + 1) dL_law_594 (nI_add _ 1) (by omega) ?_
  refine r_aloadQ_n (pc := 595) X dL_law_595 rfl ?_
  refine r_iload (pc := 596) X dL_law_596 rfl ?_
  refine r_iconst (pc := 598) X 2 dL_law_598 (by decide) ?_
  refine r_iadd (pc := 599) X dL_law_599 ?_
  refine r_sld (pc := 600) D (k := 5 * c + 2) dL_law_600 (nI_add _ 2) (by omega) ?_
  refine r_callVI (pc := 601) X [.int (xs (5 * c + 1)), .int (xs (5 * c + 2))] dL_law_601 ml_L_74 vo_X11_lets hcs (k_0 w) (ev_X11_lets (d := 999) (by decide) h 0 (xs (5 * c + 1)) (xs (5 * c + 2)) (r, h1) e1) (by decide) rfl (Nat.le_of_ble_eq_true rfl) rfl ?_
  refine r_aload_n (pc := 604) X dL_law_604 rfl ?_
  refine r_aloadQ_n (pc := 605) X dL_law_605 rfl ?_
  refine r_iload (pc := 606) X dL_law_606 rfl ?_
  refine r_iconst (pc := 608) X 1 dL_law_608 (by decide) ?_
  refine r_iadd (pc := 609) X dL_law_609 ?_
  refine r_sld (pc := 610) D (k := 5 * c + 1) dL_law_610 (nI_add _ 1) (by omega) ?_
  refine r_aloadQ_n (pc := 611) X dL_law_611 rfl ?_
  refine r_iload (pc := 612) X dL_law_612 rfl ?_
  refine r_iconst (pc := 614) X 2 dL_law_614 (by decide) ?_
  refine r_iadd (pc := 615) X dL_law_615 ?_
  refine r_sld (pc := 616) D (k := 5 * c + 2) dL_law_616 (nI_add _ 2) (by omega) ?_
  refine r_callVI (pc := 617) X [.int (xs (5 * c + 1)), .int (xs (5 * c + 2))] dL_law_617 ml_L_77 vo_X12_lets hcs (k_86 w1) (ev_X12_lets (d := 999) (by decide) h1 86 (xs (5 * c + 1)) (xs (5 * c + 2)) (r, h2) e2) (by decide) rfl (Nat.le_of_ble_eq_true rfl) rfl ?_
  exact r_icmp_eq (pc := 620) X 1711 dL_law_620 (by decide) (fun _ => go h2 R') (fun q => absurd rfl q)
set_option maxHeartbeats 1000000 in
theorem lc_11 (D : LC Γ b L xs) {c : Nat} (hc : c ≤ 64) (hL : 5 * c + 5 ≤ L) {h : aH} (R : REL c h h) (hcs : cs.1 ≤ 600128 ∧ cs.2 ≤ 7301098) (go : ∀ h2, REL (c + 1) h2 h2 → Jd Γ cs 1711 (lvL b (nI (5 * c))) [] h2) : Jd Γ cs 625 (lvL b (nI (5 * c))) [] h := by
  have X := D.1
  obtain ⟨r, h1, h2, e1, e2, R', w, w1⟩ := STEP.law2 (stp_boats c (xs (5 * c + 1))) R
  have e1 : fn_X11_boats h 0 (xs (5 * c + 1)) = some (r, h1) := e1
  have e2 : fn_X12_boats h1 86 (xs (5 * c + 1)) = some (r, h2) := e2
  refine r_aload_n (pc := 625) X dL_law_625 rfl ?_
  refine r_aloadQ_n (pc := 626) X dL_law_626 rfl ?_
  refine r_iload (pc := 627) X dL_law_627 rfl ?_
  refine r_iconst (pc := 629) X 1 dL_law_629 (by decide) ?_
  refine r_iadd (pc := 630) X dL_law_630 ?_
  refine r_sld (pc := 631) D (k := 5 * c + 1) dL_law_631 (nI_add _ 1) (by omega) ?_
  refine r_callVI (pc := 632) X [.int (xs (5 * c + 1))] dL_law_632 ml_L_78 vo_X11_boats hcs (k_0 w) (ev_X11_boats (d := 999) (by decide) h 0 (xs (5 * c + 1)) (r, h1) e1) (by decide) rfl (Nat.le_of_ble_eq_true rfl) rfl ?_
  refine r_aload_n (pc := 635) X dL_law_635 rfl ?_
  refine r_aloadQ_n (pc := 636) X dL_law_636 rfl ?_
  refine r_iload (pc := 637) X dL_law_637 rfl ?_
  refine r_iconst (pc := 639) X 1 dL_law_639 (by decide) ?_
  refine r_iadd (pc := 640) X dL_law_640 ?_
  refine r_sld (pc := 641) D (k := 5 * c + 1) dL_law_641 (nI_add _ 1) (by omega) ?_
  refine r_callVI (pc := 642) X [.int (xs (5 * c + 1))] dL_law_642 ml_L_81 vo_X12_boats hcs (k_86 w1) (ev_X12_boats (d := 999) (by decide) h1 86 (xs (5 * c + 1)) (r, h2) e2) (by decide) rfl (Nat.le_of_ble_eq_true rfl) rfl ?_
  exact r_icmp_eq (pc := 645) X 1711 dL_law_645 (by decide) (fun _ => go h2 R') (fun q => absurd rfl q)
set_option maxHeartbeats 1000000 in
theorem lc_12 (D : LC Γ b L xs) {c : Nat} (hc : c ≤ 64) (hL : 5 * c + 5 ≤ L) {h : aH} (R : REL c h h) (hcs : cs.1 ≤ 600128 ∧ cs.2 ≤ 7301098) (go : ∀ h2, REL (c + 1) h2 h2 → Jd Γ cs 1711 (lvL b (nI (5 * c))) [] h2) : Jd Γ cs 650 (lvL b (nI (5 * c))) [] h := by
  have X := D.1
  obtain ⟨r, h1, h2, e1, e2, R', w, w1⟩ := STEP.law2 (stp_sticks c (xs (5 * c + 1))) R
  have e1 : fn_X11_sticks h 0 (xs (5 * c + 1)) = some (r, h1) := e1
  have e2 : fn_X12_sticks h1 86 (xs (5 * c + 1)) = some (r, h2) := e2
  refine r_aload_n (pc := 650) X dL_law_650 rfl ?_
  refine r_aloadQ_n (pc := 651) X dL_law_651 rfl ?_
  refine r_iload (pc := 652) X dL_law_652 rfl ?_
  refine r_iconst (pc := 654) X 1 dL_law_654 (by decide) ?_
  refine r_iadd (pc := 655) X dL_law_655 ?_
  refine r_sld (pc := 656) D (k := 5 * c + 1) dL_law_656 (nI_add _ 1) (by omega) ?_
  refine r_callVI (pc := 657) X [.int (xs (5 * c + 1))] dL_law_657 ml_L_82 vo_X11_sticks hcs (k_0 w) (ev_X11_sticks (d := 999) (by decide) h 0 (xs (5 * c + 1)) (r, h1) e1) (by decide) rfl (Nat.le_of_ble_eq_true rfl) rfl ?_
  refine r_aload_n (pc := 660) X dL_law_660 rfl ?_
  refine r_aloadQ_n (pc := 661) X dL_law_661 rfl ?_
  refine r_iload (pc := 662) X dL_law_662 rfl ?_
  refine r_iconst (pc := 664) X 1 dL_law_664 (by decide) ?_
  refine r_iadd (pc := 665) X dL_law_665 ?_
  refine r_sld (pc := 666) D (k := 5 * c + 1) dL_law_666 (nI_add _ 1) (by omega) ?_
  refine r_callVI (pc := 667) X [.int (xs (5 * c + 1))] dL_law_667 ml_L_85 vo_X12_sticks hcs (k_86 w1) (ev_X12_sticks (d := 999) (by decide) h1 86 (xs (5 * c + 1)) (r, h2) e2) (by decide) rfl (Nat.le_of_ble_eq_true rfl) rfl ?_
  exact r_icmp_eq (pc := 670) X 1711 dL_law_670 (by decide) (fun _ => go h2 R') (fun q => absurd rfl q)
set_option maxHeartbeats 1000000 in
theorem lc_13 (D : LC Γ b L xs) {c : Nat} (hc : c ≤ 64) (hL : 5 * c + 5 ≤ L) {h : aH} (R : REL c h h) (hcs : cs.1 ≤ 600128 ∧ cs.2 ≤ 7301098) (go : ∀ h2, REL (c + 1) h2 h2 → Jd Γ cs 1711 (lvL b (nI (5 * c))) [] h2) : Jd Γ cs 675 (lvL b (nI (5 * c))) [] h := by
  have X := D.1
  obtain ⟨r, h1, h2, e1, e2, R', w, w1⟩ := STEP.law2 (stp_marks c (xs (5 * c + 1)) (xs (5 * c + 2))) R
  have e1 : fn_X11_marks h 0 (xs (5 * c + 1)) (xs (5 * c + 2)) = some (r, h1) := e1
  have e2 : fn_X12_marks h1 86 (xs (5 * c + 1)) (xs (5 * c + 2)) = some (r, h2) := e2
  refine r_aload_n (pc := 675) X dL_law_675 rfl ?_
  refine r_aloadQ_n (pc := 676) X dL_law_676 rfl ?_
  refine r_iload (pc := 677) X dL_law_677 rfl ?_
  refine r_iconst (pc := 679) X 1 dL_law_679 (by decide) ?_
  refine r_iadd (pc := 680) X dL_law_680 ?_
  refine r_sld (pc := 681) D (k := 5 * c + 1) dL_law_681 (nI_add _ 1) (by omega) ?_
  refine r_aloadQ_n (pc := 682) X dL_law_682 rfl ?_
  refine r_iload (pc := 683) X dL_law_683 rfl ?_
  refine r_iconst (pc := 685) X 2 dL_law_685 (by decide) ?_
  refine r_iadd (pc := 686) X dL_law_686 ?_
  refine r_sld (pc := 687) D (k := 5 * c + 2) dL_law_687 (nI_add _ 2) (by omega) ?_
  refine r_callVI (pc := 688) X [.int (xs (5 * c + 1)), .int (xs (5 * c + 2))] dL_law_688 ml_L_86 vo_X11_marks hcs (k_0 w) (ev_X11_marks (d := 999) (by decide) h 0 (xs (5 * c + 1)) (xs (5 * c + 2)) (r, h1) e1) (by decide) rfl (Nat.le_of_ble_eq_true rfl) rfl ?_
  refine r_aload_n (pc := 691) X dL_law_691 rfl ?_
  refine r_aloadQ_n (pc := 692) X dL_law_692 rfl ?_
  refine r_iload (pc := 693) X dL_law_693 rfl ?_
  refine r_iconst (pc := 695) X 1 dL_law_695 (by decide) ?_
  refine r_iadd (pc := 696) X dL_law_696 ?_
  refine r_sld (pc := 697) D (k := 5 * c + 1) dL_law_697 (nI_add _ 1) (by omega) ?_
  refine r_aloadQ_n (pc := 698) X dL_law_698 rfl ?_
  refine r_iload (pc := 699) X dL_law_699 rfl ?_
  refine r_iconst (pc := 701) X 2 dL_law_701 (by decide) ?_
  refine r_iadd (pc := 702) X dL_law_702 ?_
  refine r_sld (pc := 703) D (k := 5 * c + 2) dL_law_703 (nI_add _ 2) (by omega) ?_
  refine r_callVI (pc := 704) X [.int (xs (5 * c + 1)), .int (xs (5 * c + 2))] dL_law_704 ml_L_89 vo_X12_marks hcs (k_86 w1) (ev_X12_marks (d := 999) (by decide) h1 86 (xs (5 * c + 1)) (xs (5 * c + 2)) (r, h2) e2) (by decide) rfl (Nat.le_of_ble_eq_true rfl) rfl ?_
  exact r_icmp_eq (pc := 707) X 1711 dL_law_707 (by decide) (fun _ => go h2 R') (fun q => absurd rfl q)
set_option maxHeartbeats 1000000 in
theorem lc_14 (D : LC Γ b L xs) {c : Nat} (hc : c ≤ 64) (hL : 5 * c + 5 ≤ L) {h : aH} (R : REL c h h) (hcs : cs.1 ≤ 600128 ∧ cs.2 ≤ 7301098) (go : ∀ h2, REL (c + 1) h2 h2 → Jd Γ cs 1711 (lvL b (nI (5 * c))) [] h2) : Jd Γ cs 712 (lvL b (nI (5 * c))) [] h := by
  have X := D.1
  obtain ⟨r, h1, h2, e1, e2, R', w, w1⟩ := STEP.law2 (stp_night c hc) R
  have e1 : fn_X11_night h 0 = some (r, h1) := e1
  have e2 : fn_X12_night h1 86 = some (r, h2) := e2
  refine r_aload_n (pc := 712) X dL_law_712 rfl ?_
  refine r_callVI (pc := 713) X [] dL_law_713 ml_L_90 vo_X11_night hcs (k_0 w) (ev_X11_night (d := 999) (by decide) h 0 (r, h1) e1) (by decide) rfl (Nat.le_of_ble_eq_true rfl) rfl ?_
  refine r_aload_n (pc := 716) X dL_law_716 rfl ?_
  refine r_callVI (pc := 717) X [] dL_law_717 ml_L_93 vo_X12_night hcs (k_86 w1) (ev_X12_night (d := 999) (by decide) h1 86 (r, h2) e2) (by decide) rfl (Nat.le_of_ble_eq_true rfl) rfl ?_
  exact r_icmp_eq (pc := 720) X 1711 dL_law_720 (by decide) (fun _ => go h2 R') (fun q => absurd rfl q)
set_option maxHeartbeats 1000000 in
theorem lc_15 (D : LC Γ b L xs) {c : Nat} (hc : c ≤ 64) (hL : 5 * c + 5 ≤ L) {h : aH} (R : REL c h h) (hcs : cs.1 ≤ 600128 ∧ cs.2 ≤ 7301098) (go : ∀ h2, REL (c + 1) h2 h2 → Jd Γ cs 1711 (lvL b (nI (5 * c))) [] h2) : Jd Γ cs 725 (lvL b (nI (5 * c))) [] h := by
  have X := D.1
  obtain ⟨r, h1, h2, e1, e2, R', w, w1⟩ := STEP.law2 (stp_undo c) R
  have e1 : fn_X11_undo h 0 = some (r, h1) := e1
  have e2 : fn_X12_undo h1 86 = some (r, h2) := e2
  refine r_aload_n (pc := 725) X dL_law_725 rfl ?_
  refine r_callVI (pc := 726) X [] dL_law_726 ml_L_94 vo_X11_undo hcs (k_0 w) (ev_X11_undo (d := 999) (by decide) h 0 (r, h1) e1) (by decide) rfl (Nat.le_of_ble_eq_true rfl) rfl ?_
  refine r_aload_n (pc := 729) X dL_law_729 rfl ?_
  refine r_callVI (pc := 730) X [] dL_law_730 ml_L_97 vo_X12_undo hcs (k_86 w1) (ev_X12_undo (d := 999) (by decide) h1 86 (r, h2) e2) (by decide) rfl (Nat.le_of_ble_eq_true rfl) rfl ?_
  exact r_icmp_eq (pc := 733) X 1711 dL_law_733 (by decide) (fun _ => go h2 R') (fun q => absurd rfl q)
set_option maxHeartbeats 1000000 in
theorem lc_16 (D : LC Γ b L xs) {c : Nat} (hc : c ≤ 64) (hL : 5 * c + 5 ≤ L) {h : aH} (R : REL c h h) (hcs : cs.1 ≤ 600128 ∧ cs.2 ≤ 7301098) (go : ∀ h2, REL (c + 1) h2 h2 → Jd Γ cs 1711 (lvL b (nI (5 * c))) [] h2) : Jd Γ cs 738 (lvL b (nI (5 * c))) [] h := by
  have X := D.1
  obtain ⟨r, h1, h2, e1, e2, R', w, w1⟩ := STEP.law2 (STEP.of (fC := fun C => fn_X11_later C 0 (xs (5 * c + 1)) (xs (5 * c + 2))) (fM := fun M => fn_X12_later M 86 (xs (5 * c + 1)) (xs (5 * c + 2))) hc fun N sem x l C M w _ => q_later w.v w.2.2.2.2.2 w.1 w.2.1 w.2.2.1 w.2.2.2.1 (xs (5 * c + 1)) (xs (5 * c + 2))) R
  have e1 : fn_X11_later h 0 (xs (5 * c + 1)) (xs (5 * c + 2)) = some (r, h1) := e1
  have e2 : fn_X12_later h1 86 (xs (5 * c + 1)) (xs (5 * c + 2)) = some (r, h2) := e2
  refine r_aload_n (pc := 738) X dL_law_738 rfl ?_
  refine r_aloadQ_n (pc := 739) X dL_law_739 rfl ?_
  refine r_iload (pc := 740) X dL_law_740 rfl ?_
  refine r_iconst (pc := 742) X 1 dL_law_742 (by decide) ?_
  refine r_iadd (pc := 743) X dL_law_743 ?_
  refine r_sld (pc := 744) D (k := 5 * c + 1) dL_law_744 (nI_add _ 1) (by omega) ?_
  refine r_aloadQ_n (pc := 745) X dL_law_745 rfl ?_
  refine r_iload (pc := 746) X dL_law_746 rfl ?_
  refine r_iconst (pc := 748) X 2 dL_law_748 (by decide) ?_
  refine r_iadd (pc := 749) X dL_law_749 ?_
  refine r_sld (pc := 750) D (k := 5 * c + 2) dL_law_750 (nI_add _ 2) (by omega) ?_
  refine r_callVI (pc := 751) X [.int (xs (5 * c + 1)), .int (xs (5 * c + 2))] dL_law_751 ml_L_98 vo_X11_later hcs (k_0 w) (ev_X11_later (d := 999) (by decide) h 0 (xs (5 * c + 1)) (xs (5 * c + 2)) (r, h1) e1) (by decide) rfl (Nat.le_of_ble_eq_true rfl) rfl ?_
  refine r_aload_n (pc := 754) X dL_law_754 rfl ?_
  refine r_aloadQ_n (pc := 755) X dL_law_755 rfl ?_
  refine r_iload (pc := 756) X dL_law_756 rfl ?_
  refine r_iconst (pc := 758) X 1 dL_law_758 (by decide) ?_
  refine r_iadd (pc := 759) X dL_law_759 ?_
  refine r_sld (pc := 760) D (k := 5 * c + 1) dL_law_760 (nI_add _ 1) (by omega) ?_
  refine r_aloadQ_n (pc := 761) X dL_law_761 rfl ?_
  refine r_iload (pc := 762) X dL_law_762 rfl ?_
  refine r_iconst (pc := 764) X 2 dL_law_764 (by decide) ?_
  refine r_iadd (pc := 765) X dL_law_765 ?_
  refine r_sld (pc := 766) D (k := 5 * c + 2) dL_law_766 (nI_add _ 2) (by omega) ?_
  refine r_callVI (pc := 767) X [.int (xs (5 * c + 1)), .int (xs (5 * c + 2))] dL_law_767 ml_L_101 vo_X12_later hcs (k_86 w1) (ev_X12_later (d := 999) (by decide) h1 86 (xs (5 * c + 1)) (xs (5 * c + 2)) (r, h2) e2) (by decide) rfl (Nat.le_of_ble_eq_true rfl) rfl ?_
  exact r_icmp_eq (pc := 770) X 1711 dL_law_770 (by decide) (fun _ => go h2 R') (fun q => absurd rfl q)
set_option maxHeartbeats 1000000 in
theorem lc_17 (D : LC Γ b L xs) {c : Nat} (hc : c ≤ 64) (hL : 5 * c + 5 ≤ L) {h : aH} (R : REL c h h) (hcs : cs.1 ≤ 600128 ∧ cs.2 ≤ 7301098) (go : ∀ h2, REL (c + 1) h2 h2 → Jd Γ cs 1711 (lvL b (nI (5 * c))) [] h2) : Jd Γ cs 775 (lvL b (nI (5 * c))) [] h := by
  have X := D.1
  obtain ⟨r, h1, h2, e1, e2, R', w, w1⟩ := STEP.law2 (STEP.of (fC := fun C => fn_X11_marked C 0 (xs (5 * c + 1))) (fM := fun M => fn_X12_marked M 86 (xs (5 * c + 1))) hc fun N sem x l C M w _ => q_marked w.v w.2.2.2.2.2 w.1 w.2.1 w.2.2.1 w.2.2.2.1 (xs (5 * c + 1))) R
  have e1 : fn_X11_marked h 0 (xs (5 * c + 1)) = some (r, h1) := e1
  have e2 : fn_X12_marked h1 86 (xs (5 * c + 1)) = some (r, h2) := e2
  refine r_aload_n (pc := 775) X dL_law_775 rfl ?_
  refine r_aloadQ_n (pc := 776) X dL_law_776 rfl ?_
  refine r_iload (pc := 777) X dL_law_777 rfl ?_
  refine r_iconst (pc := 779) X 1 dL_law_779 (by decide) ?_
  refine r_iadd (pc := 780) X dL_law_780 ?_
  refine r_sld (pc := 781) D (k := 5 * c + 1) dL_law_781 (nI_add _ 1) (by omega) ?_
  refine r_callVI (pc := 782) X [.int (xs (5 * c + 1))] dL_law_782 ml_L_102 vo_X11_marked hcs (k_0 w) (ev_X11_marked (d := 999) (by decide) h 0 (xs (5 * c + 1)) (r, h1) e1) (by decide) rfl (Nat.le_of_ble_eq_true rfl) rfl ?_
  refine r_aload_n (pc := 785) X dL_law_785 rfl ?_
  refine r_aloadQ_n (pc := 786) X dL_law_786 rfl ?_
  refine r_iload (pc := 787) X dL_law_787 rfl ?_
  refine r_iconst (pc := 789) X 1 dL_law_789 (by decide) ?_
  refine r_iadd (pc := 790) X dL_law_790 ?_
  refine r_sld (pc := 791) D (k := 5 * c + 1) dL_law_791 (nI_add _ 1) (by omega) ?_
  refine r_callVI (pc := 792) X [.int (xs (5 * c + 1))] dL_law_792 ml_L_105 vo_X12_marked hcs (k_86 w1) (ev_X12_marked (d := 999) (by decide) h1 86 (xs (5 * c + 1)) (r, h2) e2) (by decide) rfl (Nat.le_of_ble_eq_true rfl) rfl ?_
  exact r_icmp_eq (pc := 795) X 1711 dL_law_795 (by decide) (fun _ => go h2 R') (fun q => absurd rfl q)
set_option maxHeartbeats 1000000 in
theorem lc_18 (D : LC Γ b L xs) {c : Nat} (hc : c ≤ 64) (hL : 5 * c + 5 ≤ L) {h : aH} (R : REL c h h) (hcs : cs.1 ≤ 600128 ∧ cs.2 ≤ 7301098) (go : ∀ h2, REL (c + 1) h2 h2 → Jd Γ cs 1711 (lvL b (nI (5 * c))) [] h2) : Jd Γ cs 800 (lvL b (nI (5 * c))) [] h := by
  have X := D.1
  obtain ⟨r, h1, h2, e1, e2, R', w, w1⟩ := STEP.law2 (STEP.of (fC := fun C => fn_X11_round C 0) (fM := fun M => fn_X12_round M 86) hc fun N sem x l C M w _ => q_round w) R
  have e1 : fn_X11_round h 0 = some (r, h1) := e1
  have e2 : fn_X12_round h1 86 = some (r, h2) := e2
  refine r_aload_n (pc := 800) X dL_law_800 rfl ?_
  refine r_callVI (pc := 801) X [] dL_law_801 ml_L_106 vo_X11_round hcs (k_0 w) (ev_X11_round (d := 999) (by decide) h 0 (r, h1) e1) (by decide) rfl (Nat.le_of_ble_eq_true rfl) rfl ?_
  refine r_aload_n (pc := 804) X dL_law_804 rfl ?_
  refine r_callVI (pc := 805) X [] dL_law_805 ml_L_109 vo_X12_round hcs (k_86 w1) (ev_X12_round (d := 999) (by decide) h1 86 (r, h2) e2) (by decide) rfl (Nat.le_of_ble_eq_true rfl) rfl ?_
  exact r_icmp_eq (pc := 808) X 1711 dL_law_808 (by decide) (fun _ => go h2 R') (fun q => absurd rfl q)
set_option maxHeartbeats 1000000 in
theorem lc_19 (D : LC Γ b L xs) {c : Nat} (hc : c ≤ 64) (hL : 5 * c + 5 ≤ L) {h : aH} (R : REL c h h) (hcs : cs.1 ≤ 600128 ∧ cs.2 ≤ 7301098) (go : ∀ h2, REL (c + 1) h2 h2 → Jd Γ cs 1711 (lvL b (nI (5 * c))) [] h2) : Jd Γ cs 813 (lvL b (nI (5 * c))) [] h := by
  have X := D.1
  obtain ⟨r, h1, h2, e1, e2, R', w, w1⟩ := STEP.law2 (STEP.of (fC := fun C => fn_X11_still C 0) (fM := fun M => fn_X12_still M 86) hc fun N sem x l C M w _ => q_still w) R
  have e1 : fn_X11_still h 0 = some (r, h1) := e1
  have e2 : fn_X12_still h1 86 = some (r, h2) := e2
  refine r_aload_n (pc := 813) X dL_law_813 rfl ?_
  refine r_callVI (pc := 814) X [] dL_law_814 ml_L_110 vo_X11_still hcs (k_0 w) (ev_X11_still (d := 999) (by decide) h 0 (r, h1) e1) (by decide) rfl (Nat.le_of_ble_eq_true rfl) rfl ?_
  refine r_aload_n (pc := 817) X dL_law_817 rfl ?_
  refine r_callVI (pc := 818) X [] dL_law_818 ml_L_113 vo_X12_still hcs (k_86 w1) (ev_X12_still (d := 999) (by decide) h1 86 (r, h2) e2) (by decide) rfl (Nat.le_of_ble_eq_true rfl) rfl ?_
  exact r_icmp_eq (pc := 821) X 1711 dL_law_821 (by decide) (fun _ => go h2 R') (fun q => absurd rfl q)
set_option maxHeartbeats 1000000 in
theorem lc_20 (D : LC Γ b L xs) {c : Nat} (hc : c ≤ 64) (hL : 5 * c + 5 ≤ L) {h : aH} (R : REL c h h) (hcs : cs.1 ≤ 600128 ∧ cs.2 ≤ 7301098) (go : ∀ h2, REL (c + 1) h2 h2 → Jd Γ cs 1711 (lvL b (nI (5 * c))) [] h2) : Jd Γ cs 826 (lvL b (nI (5 * c))) [] h := by
  have X := D.1
  obtain ⟨r, h1, h2, e1, e2, R', w, w1⟩ := STEP.law2 (STEP.of (fC := fun C => fn_X11_busiest C 0 (xs (5 * c + 1))) (fM := fun M => fn_X12_busiest M 86 (xs (5 * c + 1))) hc fun N sem x l C M w _ => q_busiest w (xs (5 * c + 1))) R
  have e1 : fn_X11_busiest h 0 (xs (5 * c + 1)) = some (r, h1) := e1
  have e2 : fn_X12_busiest h1 86 (xs (5 * c + 1)) = some (r, h2) := e2
  refine r_aload_n (pc := 826) X dL_law_826 rfl ?_
  refine r_aloadQ_n (pc := 827) X dL_law_827 rfl ?_
  refine r_iload (pc := 828) X dL_law_828 rfl ?_
  refine r_iconst (pc := 830) X 1 dL_law_830 (by decide) ?_
  refine r_iadd (pc := 831) X dL_law_831 ?_
  refine r_sld (pc := 832) D (k := 5 * c + 1) dL_law_832 (nI_add _ 1) (by omega) ?_
  refine r_callVI (pc := 833) X [.int (xs (5 * c + 1))] dL_law_833 ml_L_114 vo_X11_busiest hcs (k_0 w) (ev_X11_busiest (d := 999) (by decide) h 0 (xs (5 * c + 1)) (r, h1) e1) (by decide) rfl (Nat.le_of_ble_eq_true rfl) rfl ?_
  refine r_aload_n (pc := 836) X dL_law_836 rfl ?_
  refine r_aloadQ_n (pc := 837) X dL_law_837 rfl ?_
  refine r_iload (pc := 838) X dL_law_838 rfl ?_
  refine r_iconst (pc := 840) X 1 dL_law_840 (by decide) ?_
  refine r_iadd (pc := 841) X dL_law_841 ?_
  refine r_sld (pc := 842) D (k := 5 * c + 1) dL_law_842 (nI_add _ 1) (by omega) ?_
  refine r_callVI (pc := 843) X [.int (xs (5 * c + 1))] dL_law_843 ml_L_117 vo_X12_busiest hcs (k_86 w1) (ev_X12_busiest (d := 999) (by decide) h1 86 (xs (5 * c + 1)) (r, h2) e2) (by decide) rfl (Nat.le_of_ble_eq_true rfl) rfl ?_
  exact r_icmp_eq (pc := 846) X 1711 dL_law_846 (by decide) (fun _ => go h2 R') (fun q => absurd rfl q)
set_option maxHeartbeats 1000000 in
theorem lc_21 (D : LC Γ b L xs) {c : Nat} (hc : c ≤ 64) (hL : 5 * c + 5 ≤ L) {h : aH} (R : REL c h h) (hcs : cs.1 ≤ 600128 ∧ cs.2 ≤ 7301098) (go : ∀ h2, REL (c + 1) h2 h2 → Jd Γ cs 1711 (lvL b (nI (5 * c))) [] h2) : Jd Γ cs 851 (lvL b (nI (5 * c))) [] h := by
  have X := D.1
  obtain ⟨r, h1, h2, e1, e2, R', w, w1⟩ := STEP.law2 (STEP.of (fC := fun C => fn_X11_high C 0 (xs (5 * c + 1))) (fM := fun M => fn_X12_high M 86 (xs (5 * c + 1))) hc fun N sem x l C M w _ => q_high w (xs (5 * c + 1))) R
  have e1 : fn_X11_high h 0 (xs (5 * c + 1)) = some (r, h1) := e1
  have e2 : fn_X12_high h1 86 (xs (5 * c + 1)) = some (r, h2) := e2
  refine r_aload_n (pc := 851) X dL_law_851 rfl ?_
  refine r_aloadQ_n (pc := 852) X dL_law_852 rfl ?_
  refine r_iload (pc := 853) X dL_law_853 rfl ?_
  refine r_iconst (pc := 855) X 1 dL_law_855 (by decide) ?_
  refine r_iadd (pc := 856) X dL_law_856 ?_
  refine r_sld (pc := 857) D (k := 5 * c + 1) dL_law_857 (nI_add _ 1) (by omega) ?_
  refine r_callVI (pc := 858) X [.int (xs (5 * c + 1))] dL_law_858 ml_L_118 vo_X11_high hcs (k_0 w) (ev_X11_high (d := 999) (by decide) h 0 (xs (5 * c + 1)) (r, h1) e1) (by decide) rfl (Nat.le_of_ble_eq_true rfl) rfl ?_
  refine r_aload_n (pc := 861) X dL_law_861 rfl ?_
  refine r_aloadQ_n (pc := 862) X dL_law_862 rfl ?_
  refine r_iload (pc := 863) X dL_law_863 rfl ?_
  refine r_iconst (pc := 865) X 1 dL_law_865 (by decide) ?_
  refine r_iadd (pc := 866) X dL_law_866 ?_
  refine r_sld (pc := 867) D (k := 5 * c + 1) dL_law_867 (nI_add _ 1) (by omega) ?_
  refine r_callVI (pc := 868) X [.int (xs (5 * c + 1))] dL_law_868 ml_L_121 vo_X12_high hcs (k_86 w1) (ev_X12_high (d := 999) (by decide) h1 86 (xs (5 * c + 1)) (r, h2) e2) (by decide) rfl (Nat.le_of_ble_eq_true rfl) rfl ?_
  exact r_icmp_eq (pc := 871) X 1711 dL_law_871 (by decide) (fun _ => go h2 R') (fun q => absurd rfl q)
set_option maxHeartbeats 1000000 in
theorem lc_22 (D : LC Γ b L xs) {c : Nat} (hc : c ≤ 64) (hL : 5 * c + 5 ≤ L) {h : aH} (R : REL c h h) (hcs : cs.1 ≤ 600128 ∧ cs.2 ≤ 7301098) (go : ∀ h2, REL (c + 1) h2 h2 → Jd Γ cs 1711 (lvL b (nI (5 * c))) [] h2) : Jd Γ cs 876 (lvL b (nI (5 * c))) [] h := by
  have X := D.1
  obtain ⟨r, h1, h2, e1, e2, R', w, w1⟩ := STEP.law2 (STEP.of (fC := fun C => fn_X11_table C 0 (xs (5 * c + 1)) (xs (5 * c + 2)) (xs (5 * c + 3)) (xs (5 * c + 4))) (fM := fun M => fn_X12_table M 86 (xs (5 * c + 1)) (xs (5 * c + 2)) (xs (5 * c + 3)) (xs (5 * c + 4))) hc fun N sem x l C M w _ => q_table w (xs (5 * c + 1)) (xs (5 * c + 2)) (xs (5 * c + 3)) (xs (5 * c + 4))) R
  have e1 : fn_X11_table h 0 (xs (5 * c + 1)) (xs (5 * c + 2)) (xs (5 * c + 3)) (xs (5 * c + 4)) = some (r, h1) := e1
  have e2 : fn_X12_table h1 86 (xs (5 * c + 1)) (xs (5 * c + 2)) (xs (5 * c + 3)) (xs (5 * c + 4)) = some (r, h2) := e2
  refine r_aload_n (pc := 876) X dL_law_876 rfl ?_
  refine r_aloadQ_n (pc := 877) X dL_law_877 rfl ?_
  refine r_iload (pc := 878) X dL_law_878 rfl ?_
  refine r_iconst (pc := 880) X 1 dL_law_880 (by decide) ?_
  refine r_iadd (pc := 881) X dL_law_881 ?_
  refine r_sld (pc := 882) D (k := 5 * c + 1) dL_law_882 (nI_add _ 1) (by omega) ?_
  refine r_aloadQ_n (pc := 883) X dL_law_883 rfl ?_
  refine r_iload (pc := 884) X dL_law_884 rfl ?_
  refine r_iconst (pc := 886) X 2 dL_law_886 (by decide) ?_
  refine r_iadd (pc := 887) X dL_law_887 ?_
  refine r_sld (pc := 888) D (k := 5 * c + 2) dL_law_888 (nI_add _ 2) (by omega) ?_
  refine r_aloadQ_n (pc := 889) X dL_law_889 rfl ?_
  refine r_iload (pc := 890) X dL_law_890 rfl ?_
  refine r_iconst (pc := 892) X 3 dL_law_892 (by decide) ?_
  refine r_iadd (pc := 893) X dL_law_893 ?_
  refine r_sld (pc := 894) D (k := 5 * c + 3) dL_law_894 (nI_add _ 3) (by omega) ?_
  refine r_aloadQ_n (pc := 895) X dL_law_895 rfl ?_
  refine r_iload (pc := 896) X dL_law_896 rfl ?_
  refine r_iconst (pc := 898) X 4 dL_law_898 (by decide) ?_
  refine r_iadd (pc := 899) X dL_law_899 ?_
  refine r_sld (pc := 900) D (k := 5 * c + 4) dL_law_900 (nI_add _ 4) (by omega) ?_
  refine r_callVI (pc := 901) X [.int (xs (5 * c + 1)), .int (xs (5 * c + 2)), .int (xs (5 * c + 3)), .int (xs (5 * c + 4))] dL_law_901 ml_L_122 vo_X11_table hcs (k_0 w) (ev_X11_table (d := 999) (by decide) h 0 (xs (5 * c + 1)) (xs (5 * c + 2)) (xs (5 * c + 3)) (xs (5 * c + 4)) (r, h1) e1) (by decide) rfl (Nat.le_of_ble_eq_true rfl) rfl ?_
  refine r_aload_n (pc := 904) X dL_law_904 rfl ?_
  refine r_aloadQ_n (pc := 905) X dL_law_905 rfl ?_
  refine r_iload (pc := 906) X dL_law_906 rfl ?_
  refine r_iconst (pc := 908) X 1 dL_law_908 (by decide) ?_
  refine r_iadd (pc := 909) X dL_law_909 ?_
  refine r_sld (pc := 910) D (k := 5 * c + 1) dL_law_910 (nI_add _ 1) (by omega) ?_
  refine r_aloadQ_n (pc := 911) X dL_law_911 rfl ?_
  refine r_iload (pc := 912) X dL_law_912 rfl ?_
  refine r_iconst (pc := 914) X 2 dL_law_914 (by decide) ?_
  refine r_iadd (pc := 915) X dL_law_915 ?_
  refine r_sld (pc := 916) D (k := 5 * c + 2) dL_law_916 (nI_add _ 2) (by omega) ?_
  refine r_aloadQ_n (pc := 917) X dL_law_917 rfl ?_
  refine r_iload (pc := 918) X dL_law_918 rfl ?_
  refine r_iconst (pc := 920) X 3 dL_law_920 (by decide) ?_
  refine r_iadd (pc := 921) X dL_law_921 ?_
  refine r_sld (pc := 922) D (k := 5 * c + 3) dL_law_922 (nI_add _ 3) (by omega) ?_
  refine r_aloadQ_n (pc := 923) X dL_law_923 rfl ?_
  refine r_iload (pc := 924) X dL_law_924 rfl ?_
  refine r_iconst (pc := 926) X 4 dL_law_926 (by decide) ?_
  refine r_iadd (pc := 927) X dL_law_927 ?_
  refine r_sld (pc := 928) D (k := 5 * c + 4) dL_law_928 (nI_add _ 4) (by omega) ?_
  refine r_callVI (pc := 929) X [.int (xs (5 * c + 1)), .int (xs (5 * c + 2)), .int (xs (5 * c + 3)), .int (xs (5 * c + 4))] dL_law_929 ml_L_125 vo_X12_table hcs (k_86 w1) (ev_X12_table (d := 999) (by decide) h1 86 (xs (5 * c + 1)) (xs (5 * c + 2)) (xs (5 * c + 3)) (xs (5 * c + 4)) (r, h2) e2) (by decide) rfl (Nat.le_of_ble_eq_true rfl) rfl ?_
  exact r_icmp_eq (pc := 932) X 1711 dL_law_932 (by decide) (fun _ => go h2 R') (fun q => absurd rfl q)
set_option maxHeartbeats 1000000 in
theorem lc_23 (D : LC Γ b L xs) {c : Nat} (hc : c ≤ 64) (hL : 5 * c + 5 ≤ L) {h : aH} (R : REL c h h) (hcs : cs.1 ≤ 600128 ∧ cs.2 ≤ 7301098) (go : ∀ h2, REL (c + 1) h2 h2 → Jd Γ cs 1711 (lvL b (nI (5 * c))) [] h2) : Jd Γ cs 937 (lvL b (nI (5 * c))) [] h := by
  have X := D.1
  obtain ⟨r, h1, h2, e1, e2, R', w, w1⟩ := STEP.law2 (STEP.of (fC := fun C => fn_X11_quarters C 0 (xs (5 * c + 1)) (xs (5 * c + 2))) (fM := fun M => fn_X12_quarters M 86 (xs (5 * c + 1)) (xs (5 * c + 2))) hc fun N sem x l C M w _ => q_quarters w (xs (5 * c + 1)) (xs (5 * c + 2))) R
  have e1 : fn_X11_quarters h 0 (xs (5 * c + 1)) (xs (5 * c + 2)) = some (r, h1) := e1
  have e2 : fn_X12_quarters h1 86 (xs (5 * c + 1)) (xs (5 * c + 2)) = some (r, h2) := e2
  refine r_aload_n (pc := 937) X dL_law_937 rfl ?_
  refine r_aloadQ_n (pc := 938) X dL_law_938 rfl ?_
  refine r_iload (pc := 939) X dL_law_939 rfl ?_
  refine r_iconst (pc := 941) X 1 dL_law_941 (by decide) ?_
  refine r_iadd (pc := 942) X dL_law_942 ?_
  refine r_sld (pc := 943) D (k := 5 * c + 1) dL_law_943 (nI_add _ 1) (by omega) ?_
  refine r_aloadQ_n (pc := 944) X dL_law_944 rfl ?_
  refine r_iload (pc := 945) X dL_law_945 rfl ?_
  refine r_iconst (pc := 947) X 2 dL_law_947 (by decide) ?_
  refine r_iadd (pc := 948) X dL_law_948 ?_
  refine r_sld (pc := 949) D (k := 5 * c + 2) dL_law_949 (nI_add _ 2) (by omega) ?_
  refine r_callVI (pc := 950) X [.int (xs (5 * c + 1)), .int (xs (5 * c + 2))] dL_law_950 ml_L_126 vo_X11_quarters hcs (k_0 w) (ev_X11_quarters (d := 999) (by decide) h 0 (xs (5 * c + 1)) (xs (5 * c + 2)) (r, h1) e1) (by decide) rfl (Nat.le_of_ble_eq_true rfl) rfl ?_
  refine r_aload_n (pc := 953) X dL_law_953 rfl ?_
  refine r_aloadQ_n (pc := 954) X dL_law_954 rfl ?_
  refine r_iload (pc := 955) X dL_law_955 rfl ?_
  refine r_iconst (pc := 957) X 1 dL_law_957 (by decide) ?_
  refine r_iadd (pc := 958) X dL_law_958 ?_
  refine r_sld (pc := 959) D (k := 5 * c + 1) dL_law_959 (nI_add _ 1) (by omega) ?_
  refine r_aloadQ_n (pc := 960) X dL_law_960 rfl ?_
  refine r_iload (pc := 961) X dL_law_961 rfl ?_
  refine r_iconst (pc := 963) X 2 dL_law_963 (by decide) ?_
  refine r_iadd (pc := 964) X dL_law_964 ?_
  refine r_sld (pc := 965) D (k := 5 * c + 2) dL_law_965 (nI_add _ 2) (by omega) ?_
  refine r_callVI (pc := 966) X [.int (xs (5 * c + 1)), .int (xs (5 * c + 2))] dL_law_966 ml_L_129 vo_X12_quarters hcs (k_86 w1) (ev_X12_quarters (d := 999) (by decide) h1 86 (xs (5 * c + 1)) (xs (5 * c + 2)) (r, h2) e2) (by decide) rfl (Nat.le_of_ble_eq_true rfl) rfl ?_
  exact r_icmp_eq (pc := 969) X 1711 dL_law_969 (by decide) (fun _ => go h2 R') (fun q => absurd rfl q)
set_option maxHeartbeats 1000000 in
theorem lc_24 (D : LC Γ b L xs) {c : Nat} (hc : c ≤ 64) (hL : 5 * c + 5 ≤ L) {h : aH} (R : REL c h h) (hcs : cs.1 ≤ 600128 ∧ cs.2 ≤ 7301098) (go : ∀ h2, REL (c + 1) h2 h2 → Jd Γ cs 1711 (lvL b (nI (5 * c))) [] h2) : Jd Γ cs 974 (lvL b (nI (5 * c))) [] h := by
  have X := D.1
  obtain ⟨r, h1, h2, e1, e2, R', w, w1⟩ := STEP.law2 (STEP.of (fC := fun C => fn_X11_learns C 0 (xs (5 * c + 1)) (xs (5 * c + 2)) (xs (5 * c + 3)) (xs (5 * c + 4))) (fM := fun M => fn_X12_learns M 86 (xs (5 * c + 1)) (xs (5 * c + 2)) (xs (5 * c + 3)) (xs (5 * c + 4))) hc fun N sem x l C M w _ => q_learns w (xs (5 * c + 1)) (xs (5 * c + 2)) (xs (5 * c + 3)) (xs (5 * c + 4))) R
  have e1 : fn_X11_learns h 0 (xs (5 * c + 1)) (xs (5 * c + 2)) (xs (5 * c + 3)) (xs (5 * c + 4)) = some (r, h1) := e1
  have e2 : fn_X12_learns h1 86 (xs (5 * c + 1)) (xs (5 * c + 2)) (xs (5 * c + 3)) (xs (5 * c + 4)) = some (r, h2) := e2
  refine r_aload_n (pc := 974) X dL_law_974 rfl ?_
  refine r_aloadQ_n (pc := 975) X dL_law_975 rfl ?_
  refine r_iload (pc := 976) X dL_law_976 rfl ?_
  refine r_iconst (pc := 978) X 1 dL_law_978 (by decide) ?_
  refine r_iadd (pc := 979) X dL_law_979 ?_
  refine r_sld (pc := 980) D (k := 5 * c + 1) dL_law_980 (nI_add _ 1) (by omega) ?_
  refine r_aloadQ_n (pc := 981) X dL_law_981 rfl ?_
  refine r_iload (pc := 982) X dL_law_982 rfl ?_
  refine r_iconst (pc := 984) X 2 dL_law_984 (by decide) ?_
  refine r_iadd (pc := 985) X dL_law_985 ?_
  refine r_sld (pc := 986) D (k := 5 * c + 2) dL_law_986 (nI_add _ 2) (by omega) ?_
  refine r_aloadQ_n (pc := 987) X dL_law_987 rfl ?_
  refine r_iload (pc := 988) X dL_law_988 rfl ?_
  refine r_iconst (pc := 990) X 3 dL_law_990 (by decide) ?_
  refine r_iadd (pc := 991) X dL_law_991 ?_
  refine r_sld (pc := 992) D (k := 5 * c + 3) dL_law_992 (nI_add _ 3) (by omega) ?_
  refine r_aloadQ_n (pc := 993) X dL_law_993 rfl ?_
  refine r_iload (pc := 994) X dL_law_994 rfl ?_
  refine r_iconst (pc := 996) X 4 dL_law_996 (by decide) ?_
  refine r_iadd (pc := 997) X dL_law_997 ?_
  refine r_sld (pc := 998) D (k := 5 * c + 4) dL_law_998 (nI_add _ 4) (by omega) ?_
  refine r_callVI (pc := 999) X [.int (xs (5 * c + 1)), .int (xs (5 * c + 2)), .int (xs (5 * c + 3)), .int (xs (5 * c + 4))] dL_law_999 ml_L_130 vo_X11_learns hcs (k_0 w) (ev_X11_learns (d := 999) (by decide) h 0 (xs (5 * c + 1)) (xs (5 * c + 2)) (xs (5 * c + 3)) (xs (5 * c + 4)) (r, h1) e1) (by decide) rfl (Nat.le_of_ble_eq_true rfl) rfl ?_
  refine r_aload_n (pc := 1002) X dL_law_1002 rfl ?_
  refine r_aloadQ_n (pc := 1003) X dL_law_1003 rfl ?_
  refine r_iload (pc := 1004) X dL_law_1004 rfl ?_
  refine r_iconst (pc := 1006) X 1 dL_law_1006 (by decide) ?_
  refine r_iadd (pc := 1007) X dL_law_1007 ?_
  refine r_sld (pc := 1008) D (k := 5 * c + 1) dL_law_1008 (nI_add _ 1) (by omega) ?_
  refine r_aloadQ_n (pc := 1009) X dL_law_1009 rfl ?_
  refine r_iload (pc := 1010) X dL_law_1010 rfl ?_
  refine r_iconst (pc := 1012) X 2 dL_law_1012 (by decide) ?_
  refine r_iadd (pc := 1013) X dL_law_1013 ?_
  refine r_sld (pc := 1014) D (k := 5 * c + 2) dL_law_1014 (nI_add _ 2) (by omega) ?_
  refine r_aloadQ_n (pc := 1015) X dL_law_1015 rfl ?_
  refine r_iload (pc := 1016) X dL_law_1016 rfl ?_
  refine r_iconst (pc := 1018) X 3 dL_law_1018 (by decide) ?_
  refine r_iadd (pc := 1019) X dL_law_1019 ?_
  refine r_sld (pc := 1020) D (k := 5 * c + 3) dL_law_1020 (nI_add _ 3) (by omega) ?_
  refine r_aloadQ_n (pc := 1021) X dL_law_1021 rfl ?_
  refine r_iload (pc := 1022) X dL_law_1022 rfl ?_
  refine r_iconst (pc := 1024) X 4 dL_law_1024 (by decide) ?_
  refine r_iadd (pc := 1025) X dL_law_1025 ?_
  refine r_sld (pc := 1026) D (k := 5 * c + 4) dL_law_1026 (nI_add _ 4) (by omega) ?_
  refine r_callVI (pc := 1027) X [.int (xs (5 * c + 1)), .int (xs (5 * c + 2)), .int (xs (5 * c + 3)), .int (xs (5 * c + 4))] dL_law_1027 ml_L_133 vo_X12_learns hcs (k_86 w1) (ev_X12_learns (d := 999) (by decide) h1 86 (xs (5 * c + 1)) (xs (5 * c + 2)) (xs (5 * c + 3)) (xs (5 * c + 4)) (r, h2) e2) (by decide) rfl (Nat.le_of_ble_eq_true rfl) rfl ?_
  exact r_icmp_eq (pc := 1030) X 1711 dL_law_1030 (by decide) (fun _ => go h2 R') (fun q => absurd rfl q)
set_option maxHeartbeats 1000000 in
theorem lc_25 (D : LC Γ b L xs) {c : Nat} (hc : c ≤ 64) (hL : 5 * c + 5 ≤ L) {h : aH} (R : REL c h h) (hcs : cs.1 ≤ 600128 ∧ cs.2 ≤ 7301098) (go : ∀ h2, REL (c + 1) h2 h2 → Jd Γ cs 1711 (lvL b (nI (5 * c))) [] h2) : Jd Γ cs 1035 (lvL b (nI (5 * c))) [] h := by
  have X := D.1
  obtain ⟨r, h1, h2, e1, e2, R', w, w1⟩ := STEP.law2 (STEP.of (fC := fun C => fn_X11_words C 0 (xs (5 * c + 1)) (xs (5 * c + 2)) (xs (5 * c + 3))) (fM := fun M => fn_X12_words M 86 (xs (5 * c + 1)) (xs (5 * c + 2)) (xs (5 * c + 3))) hc fun N sem x l C M w _ => q_words w (xs (5 * c + 1)) (xs (5 * c + 2)) (xs (5 * c + 3))) R
  have e1 : fn_X11_words h 0 (xs (5 * c + 1)) (xs (5 * c + 2)) (xs (5 * c + 3)) = some (r, h1) := e1
  have e2 : fn_X12_words h1 86 (xs (5 * c + 1)) (xs (5 * c + 2)) (xs (5 * c + 3)) = some (r, h2) := e2
  refine r_aload_n (pc := 1035) X dL_law_1035 rfl ?_
  refine r_aloadQ_n (pc := 1036) X dL_law_1036 rfl ?_
  refine r_iload (pc := 1037) X dL_law_1037 rfl ?_
  refine r_iconst (pc := 1039) X 1 dL_law_1039 (by decide) ?_
  refine r_iadd (pc := 1040) X dL_law_1040 ?_
  refine r_sld (pc := 1041) D (k := 5 * c + 1) dL_law_1041 (nI_add _ 1) (by omega) ?_
  refine r_aloadQ_n (pc := 1042) X dL_law_1042 rfl ?_
  refine r_iload (pc := 1043) X dL_law_1043 rfl ?_
  refine r_iconst (pc := 1045) X 2 dL_law_1045 (by decide) ?_
  refine r_iadd (pc := 1046) X dL_law_1046 ?_
  refine r_sld (pc := 1047) D (k := 5 * c + 2) dL_law_1047 (nI_add _ 2) (by omega) ?_
  refine r_aloadQ_n (pc := 1048) X dL_law_1048 rfl ?_
  refine r_iload (pc := 1049) X dL_law_1049 rfl ?_
  refine r_iconst (pc := 1051) X 3 dL_law_1051 (by decide) ?_
  refine r_iadd (pc := 1052) X dL_law_1052 ?_
  refine r_sld (pc := 1053) D (k := 5 * c + 3) dL_law_1053 (nI_add _ 3) (by omega) ?_
  refine r_callVI (pc := 1054) X [.int (xs (5 * c + 1)), .int (xs (5 * c + 2)), .int (xs (5 * c + 3))] dL_law_1054 ml_L_134 vo_X11_words hcs (k_0 w) (ev_X11_words (d := 999) (by decide) h 0 (xs (5 * c + 1)) (xs (5 * c + 2)) (xs (5 * c + 3)) (r, h1) e1) (by decide) rfl (Nat.le_of_ble_eq_true rfl) rfl ?_
  refine r_aload_n (pc := 1057) X dL_law_1057 rfl ?_
  refine r_aloadQ_n (pc := 1058) X dL_law_1058 rfl ?_
  refine r_iload (pc := 1059) X dL_law_1059 rfl ?_
  refine r_iconst (pc := 1061) X 1 dL_law_1061 (by decide) ?_
  refine r_iadd (pc := 1062) X dL_law_1062 ?_
  refine r_sld (pc := 1063) D (k := 5 * c + 1) dL_law_1063 (nI_add _ 1) (by omega) ?_
  refine r_aloadQ_n (pc := 1064) X dL_law_1064 rfl ?_
  refine r_iload (pc := 1065) X dL_law_1065 rfl ?_
  refine r_iconst (pc := 1067) X 2 dL_law_1067 (by decide) ?_
  refine r_iadd (pc := 1068) X dL_law_1068 ?_
  refine r_sld (pc := 1069) D (k := 5 * c + 2) dL_law_1069 (nI_add _ 2) (by omega) ?_
  refine r_aloadQ_n (pc := 1070) X dL_law_1070 rfl ?_
  refine r_iload (pc := 1071) X dL_law_1071 rfl ?_
  refine r_iconst (pc := 1073) X 3 dL_law_1073 (by decide) ?_
  refine r_iadd (pc := 1074) X dL_law_1074 ?_
  refine r_sld (pc := 1075) D (k := 5 * c + 3) dL_law_1075 (nI_add _ 3) (by omega) ?_
  refine r_callVI (pc := 1076) X [.int (xs (5 * c + 1)), .int (xs (5 * c + 2)), .int (xs (5 * c + 3))] dL_law_1076 ml_L_138 vo_X12_words hcs (k_86 w1) (ev_X12_words (d := 999) (by decide) h1 86 (xs (5 * c + 1)) (xs (5 * c + 2)) (xs (5 * c + 3)) (r, h2) e2) (by decide) rfl (Nat.le_of_ble_eq_true rfl) rfl ?_
  exact r_icmp_eq (pc := 1079) X 1711 dL_law_1079 (by decide) (fun _ => go h2 R') (fun q => absurd rfl q)
set_option maxHeartbeats 1000000 in
theorem lc_26 (D : LC Γ b L xs) {c : Nat} (hc : c ≤ 64) (hL : 5 * c + 5 ≤ L) {h : aH} (R : REL c h h) (hcs : cs.1 ≤ 600128 ∧ cs.2 ≤ 7301098) (go : ∀ h2, REL (c + 1) h2 h2 → Jd Γ cs 1711 (lvL b (nI (5 * c))) [] h2) : Jd Γ cs 1084 (lvL b (nI (5 * c))) [] h := by
  have X := D.1
  obtain ⟨r, h1, h2, e1, e2, R', w, w1⟩ := STEP.law2 (STEP.of (fC := fun C => fn_X11_hears C 0 (xs (5 * c + 1)) (xs (5 * c + 2))) (fM := fun M => fn_X12_hears M 86 (xs (5 * c + 1)) (xs (5 * c + 2))) hc fun N sem x l C M w _ => q_hears w (xs (5 * c + 1)) (xs (5 * c + 2))) R
  have e1 : fn_X11_hears h 0 (xs (5 * c + 1)) (xs (5 * c + 2)) = some (r, h1) := e1
  have e2 : fn_X12_hears h1 86 (xs (5 * c + 1)) (xs (5 * c + 2)) = some (r, h2) := e2
  refine r_aload_n (pc := 1084) X dL_law_1084 rfl ?_
  refine r_aloadQ_n (pc := 1085) X dL_law_1085 rfl ?_
  refine r_iload (pc := 1086) X dL_law_1086 rfl ?_
  refine r_iconst (pc := 1088) X 1 dL_law_1088 (by decide) ?_
  refine r_iadd (pc := 1089) X dL_law_1089 ?_
  refine r_sld (pc := 1090) D (k := 5 * c + 1) dL_law_1090 (nI_add _ 1) (by omega) ?_
  refine r_aloadQ_n (pc := 1091) X dL_law_1091 rfl ?_
  refine r_iload (pc := 1092) X dL_law_1092 rfl ?_
  refine r_iconst (pc := 1094) X 2 dL_law_1094 (by decide) ?_
  refine r_iadd (pc := 1095) X dL_law_1095 ?_
  refine r_sld (pc := 1096) D (k := 5 * c + 2) dL_law_1096 (nI_add _ 2) (by omega) ?_
  refine r_callVI (pc := 1097) X [.int (xs (5 * c + 1)), .int (xs (5 * c + 2))] dL_law_1097 ml_L_139 vo_X11_hears hcs (k_0 w) (ev_X11_hears (d := 999) (by decide) h 0 (xs (5 * c + 1)) (xs (5 * c + 2)) (r, h1) e1) (by decide) rfl (Nat.le_of_ble_eq_true rfl) rfl ?_
  refine r_aload_n (pc := 1100) X dL_law_1100 rfl ?_
  refine r_aloadQ_n (pc := 1101) X dL_law_1101 rfl ?_
  refine r_iload (pc := 1102) X dL_law_1102 rfl ?_
  refine r_iconst (pc := 1104) X 1 dL_law_1104 (by decide) ?_
  refine r_iadd (pc := 1105) X dL_law_1105 ?_
  refine r_sld (pc := 1106) D (k := 5 * c + 1) dL_law_1106 (nI_add _ 1) (by omega) ?_
  refine r_aloadQ_n (pc := 1107) X dL_law_1107 rfl ?_
  refine r_iload (pc := 1108) X dL_law_1108 rfl ?_
  refine r_iconst (pc := 1110) X 2 dL_law_1110 (by decide) ?_
  refine r_iadd (pc := 1111) X dL_law_1111 ?_
  refine r_sld (pc := 1112) D (k := 5 * c + 2) dL_law_1112 (nI_add _ 2) (by omega) ?_
  refine r_callVI (pc := 1113) X [.int (xs (5 * c + 1)), .int (xs (5 * c + 2))] dL_law_1113 ml_L_142 vo_X12_hears hcs (k_86 w1) (ev_X12_hears (d := 999) (by decide) h1 86 (xs (5 * c + 1)) (xs (5 * c + 2)) (r, h2) e2) (by decide) rfl (Nat.le_of_ble_eq_true rfl) rfl ?_
  exact r_icmp_eq (pc := 1116) X 1711 dL_law_1116 (by decide) (fun _ => go h2 R') (fun q => absurd rfl q)
set_option maxHeartbeats 1000000 in
theorem lc_27 (D : LC Γ b L xs) {c : Nat} (hc : c ≤ 64) (hL : 5 * c + 5 ≤ L) {h : aH} (R : REL c h h) (hcs : cs.1 ≤ 600128 ∧ cs.2 ≤ 7301098) (go : ∀ h2, REL (c + 1) h2 h2 → Jd Γ cs 1711 (lvL b (nI (5 * c))) [] h2) : Jd Γ cs 1121 (lvL b (nI (5 * c))) [] h := by
  have X := D.1
  obtain ⟨r, h1, h2, e1, e2, R', w, w1⟩ := STEP.law2 (STEP.of (fC := fun C => fn_X11_drought C 0 (xs (5 * c + 1)) (xs (5 * c + 2)) (xs (5 * c + 3))) (fM := fun M => fn_X12_drought M 86 (xs (5 * c + 1)) (xs (5 * c + 2)) (xs (5 * c + 3))) hc fun N sem x l C M w _ => q_drought w (xs (5 * c + 1)) (xs (5 * c + 2)) (xs (5 * c + 3))) R
  have e1 : fn_X11_drought h 0 (xs (5 * c + 1)) (xs (5 * c + 2)) (xs (5 * c + 3)) = some (r, h1) := e1
  have e2 : fn_X12_drought h1 86 (xs (5 * c + 1)) (xs (5 * c + 2)) (xs (5 * c + 3)) = some (r, h2) := e2
  refine r_aload_n (pc := 1121) X dL_law_1121 rfl ?_
  refine r_aloadQ_n (pc := 1122) X dL_law_1122 rfl ?_
  refine r_iload (pc := 1123) X dL_law_1123 rfl ?_
  refine r_iconst (pc := 1125) X 1 dL_law_1125 (by decide) ?_
  refine r_iadd (pc := 1126) X dL_law_1126 ?_
  refine r_sld (pc := 1127) D (k := 5 * c + 1) dL_law_1127 (nI_add _ 1) (by omega) ?_
  refine r_aloadQ_n (pc := 1128) X dL_law_1128 rfl ?_
  refine r_iload (pc := 1129) X dL_law_1129 rfl ?_
  refine r_iconst (pc := 1131) X 2 dL_law_1131 (by decide) ?_
  refine r_iadd (pc := 1132) X dL_law_1132 ?_
  refine r_sld (pc := 1133) D (k := 5 * c + 2) dL_law_1133 (nI_add _ 2) (by omega) ?_
  refine r_aloadQ_n (pc := 1134) X dL_law_1134 rfl ?_
  refine r_iload (pc := 1135) X dL_law_1135 rfl ?_
  refine r_iconst (pc := 1137) X 3 dL_law_1137 (by decide) ?_
  refine r_iadd (pc := 1138) X dL_law_1138 ?_
  refine r_sld (pc := 1139) D (k := 5 * c + 3) dL_law_1139 (nI_add _ 3) (by omega) ?_
  refine r_callVI (pc := 1140) X [.int (xs (5 * c + 1)), .int (xs (5 * c + 2)), .int (xs (5 * c + 3))] dL_law_1140 ml_L_143 vo_X11_drought hcs (k_0 w) (ev_X11_drought (d := 999) (by decide) h 0 (xs (5 * c + 1)) (xs (5 * c + 2)) (xs (5 * c + 3)) (r, h1) e1) (by decide) rfl (Nat.le_of_ble_eq_true rfl) rfl ?_
  refine r_aload_n (pc := 1143) X dL_law_1143 rfl ?_
  refine r_aloadQ_n (pc := 1144) X dL_law_1144 rfl ?_
  refine r_iload (pc := 1145) X dL_law_1145 rfl ?_
  refine r_iconst (pc := 1147) X 1 dL_law_1147 (by decide) ?_
  refine r_iadd (pc := 1148) X dL_law_1148 ?_
  refine r_sld (pc := 1149) D (k := 5 * c + 1) dL_law_1149 (nI_add _ 1) (by omega) ?_
  refine r_aloadQ_n (pc := 1150) X dL_law_1150 rfl ?_
  refine r_iload (pc := 1151) X dL_law_1151 rfl ?_
  refine r_iconst (pc := 1153) X 2 dL_law_1153 (by decide) ?_
  refine r_iadd (pc := 1154) X dL_law_1154 ?_
  refine r_sld (pc := 1155) D (k := 5 * c + 2) dL_law_1155 (nI_add _ 2) (by omega) ?_
  refine r_aloadQ_n (pc := 1156) X dL_law_1156 rfl ?_
  refine r_iload (pc := 1157) X dL_law_1157 rfl ?_
  refine r_iconst (pc := 1159) X 3 dL_law_1159 (by decide) ?_
  refine r_iadd (pc := 1160) X dL_law_1160 ?_
  refine r_sld (pc := 1161) D (k := 5 * c + 3) dL_law_1161 (nI_add _ 3) (by omega) ?_
  refine r_callVI (pc := 1162) X [.int (xs (5 * c + 1)), .int (xs (5 * c + 2)), .int (xs (5 * c + 3))] dL_law_1162 ml_L_146 vo_X12_drought hcs (k_86 w1) (ev_X12_drought (d := 999) (by decide) h1 86 (xs (5 * c + 1)) (xs (5 * c + 2)) (xs (5 * c + 3)) (r, h2) e2) (by decide) rfl (Nat.le_of_ble_eq_true rfl) rfl ?_
  exact r_icmp_eq (pc := 1165) X 1711 dL_law_1165 (by decide) (fun _ => go h2 R') (fun q => absurd rfl q)
set_option maxHeartbeats 1000000 in
theorem lc_28 (D : LC Γ b L xs) {c : Nat} (hc : c ≤ 64) (hL : 5 * c + 5 ≤ L) {h : aH} (R : REL c h h) (hcs : cs.1 ≤ 600128 ∧ cs.2 ≤ 7301098) (go : ∀ h2, REL (c + 1) h2 h2 → Jd Γ cs 1711 (lvL b (nI (5 * c))) [] h2) : Jd Γ cs 1170 (lvL b (nI (5 * c))) [] h := by
  have X := D.1
  obtain ⟨r, h1, h2, e1, e2, R', w, w1⟩ := STEP.law2 (stp_saw c (xs (5 * c + 1)) (xs (5 * c + 2)) (xs (5 * c + 3))) R
  have e1 : fn_X11_saw h 0 (xs (5 * c + 1)) (xs (5 * c + 2)) (xs (5 * c + 3)) = some (r, h1) := e1
  have e2 : fn_X12_saw h1 86 (xs (5 * c + 1)) (xs (5 * c + 2)) (xs (5 * c + 3)) = some (r, h2) := e2
  refine r_aload_n (pc := 1170) X dL_law_1170 rfl ?_
  refine r_aloadQ_n (pc := 1171) X dL_law_1171 rfl ?_
  refine r_iload (pc := 1172) X dL_law_1172 rfl ?_
  refine r_iconst (pc := 1174) X 1 dL_law_1174 (by decide) ?_
  refine r_iadd (pc := 1175) X dL_law_1175 ?_
  refine r_sld (pc := 1176) D (k := 5 * c + 1) dL_law_1176 (nI_add _ 1) (by omega) ?_
  refine r_aloadQ_n (pc := 1177) X dL_law_1177 rfl ?_
  refine r_iload (pc := 1178) X dL_law_1178 rfl ?_
  refine r_iconst (pc := 1180) X 2 dL_law_1180 (by decide) ?_
  refine r_iadd (pc := 1181) X dL_law_1181 ?_
  refine r_sld (pc := 1182) D (k := 5 * c + 2) dL_law_1182 (nI_add _ 2) (by omega) ?_
  refine r_aloadQ_n (pc := 1183) X dL_law_1183 rfl ?_
  refine r_iload (pc := 1184) X dL_law_1184 rfl ?_
  refine r_iconst (pc := 1186) X 3 dL_law_1186 (by decide) ?_
  refine r_iadd (pc := 1187) X dL_law_1187 ?_
  refine r_sld (pc := 1188) D (k := 5 * c + 3) dL_law_1188 (nI_add _ 3) (by omega) ?_
  refine r_callVI (pc := 1189) X [.int (xs (5 * c + 1)), .int (xs (5 * c + 2)), .int (xs (5 * c + 3))] dL_law_1189 ml_L_147 vo_X11_saw hcs (k_0 w) (ev_X11_saw (d := 999) (by decide) h 0 (xs (5 * c + 1)) (xs (5 * c + 2)) (xs (5 * c + 3)) (r, h1) e1) (by decide) rfl (Nat.le_of_ble_eq_true rfl) rfl ?_
  refine r_aload_n (pc := 1192) X dL_law_1192 rfl ?_
  refine r_aloadQ_n (pc := 1193) X dL_law_1193 rfl ?_
  refine r_iload (pc := 1194) X dL_law_1194 rfl ?_
  refine r_iconst (pc := 1196) X 1 dL_law_1196 (by decide) ?_
  refine r_iadd (pc := 1197) X dL_law_1197 ?_
  refine r_sld (pc := 1198) D (k := 5 * c + 1) dL_law_1198 (nI_add _ 1) (by omega) ?_
  refine r_aloadQ_n (pc := 1199) X dL_law_1199 rfl ?_
  refine r_iload (pc := 1200) X dL_law_1200 rfl ?_
  refine r_iconst (pc := 1202) X 2 dL_law_1202 (by decide) ?_
  refine r_iadd (pc := 1203) X dL_law_1203 ?_
  refine r_sld (pc := 1204) D (k := 5 * c + 2) dL_law_1204 (nI_add _ 2) (by omega) ?_
  refine r_aloadQ_n (pc := 1205) X dL_law_1205 rfl ?_
  refine r_iload (pc := 1206) X dL_law_1206 rfl ?_
  refine r_iconst (pc := 1208) X 3 dL_law_1208 (by decide) ?_
  refine r_iadd (pc := 1209) X dL_law_1209 ?_
  refine r_sld (pc := 1210) D (k := 5 * c + 3) dL_law_1210 (nI_add _ 3) (by omega) ?_
  refine r_callVI (pc := 1211) X [.int (xs (5 * c + 1)), .int (xs (5 * c + 2)), .int (xs (5 * c + 3))] dL_law_1211 ml_L_150 vo_X12_saw hcs (k_86 w1) (ev_X12_saw (d := 999) (by decide) h1 86 (xs (5 * c + 1)) (xs (5 * c + 2)) (xs (5 * c + 3)) (r, h2) e2) (by decide) rfl (Nat.le_of_ble_eq_true rfl) rfl ?_
  exact r_icmp_eq (pc := 1214) X 1711 dL_law_1214 (by decide) (fun _ => go h2 R') (fun q => absurd rfl q)
set_option maxHeartbeats 1000000 in
theorem lc_29 (D : LC Γ b L xs) {c : Nat} (hc : c ≤ 64) (hL : 5 * c + 5 ≤ L) {h : aH} (R : REL c h h) (hcs : cs.1 ≤ 600128 ∧ cs.2 ≤ 7301098) (go : ∀ h2, REL (c + 1) h2 h2 → Jd Γ cs 1711 (lvL b (nI (5 * c))) [] h2) : Jd Γ cs 1219 (lvL b (nI (5 * c))) [] h := by
  have X := D.1
  obtain ⟨r, h1, h2, e1, e2, R', w, w1⟩ := STEP.law2 (stp_forget c) R
  have e1 : fn_X11_forget h 0 = some (r, h1) := e1
  have e2 : fn_X12_forget h1 86 = some (r, h2) := e2
  refine r_aload_n (pc := 1219) X dL_law_1219 rfl ?_
  refine r_callVI (pc := 1220) X [] dL_law_1220 ml_L_151 vo_X11_forget hcs (k_0 w) (ev_X11_forget (d := 999) (by decide) h 0 (r, h1) e1) (by decide) rfl (Nat.le_of_ble_eq_true rfl) rfl ?_
  refine r_aload_n (pc := 1223) X dL_law_1223 rfl ?_
  refine r_callVI (pc := 1224) X [] dL_law_1224 ml_L_154 vo_X12_forget hcs (k_86 w1) (ev_X12_forget (d := 999) (by decide) h1 86 (r, h2) e2) (by decide) rfl (Nat.le_of_ble_eq_true rfl) rfl ?_
  exact r_icmp_eq (pc := 1227) X 1711 dL_law_1227 (by decide) (fun _ => go h2 R') (fun q => absurd rfl q)
set_option maxHeartbeats 1000000 in
theorem lc_30 (D : LC Γ b L xs) {c : Nat} (hc : c ≤ 64) (hL : 5 * c + 5 ≤ L) {h : aH} (R : REL c h h) (hcs : cs.1 ≤ 600128 ∧ cs.2 ≤ 7301098) (go : ∀ h2, REL (c + 1) h2 h2 → Jd Γ cs 1711 (lvL b (nI (5 * c))) [] h2) : Jd Γ cs 1232 (lvL b (nI (5 * c))) [] h := by
  have X := D.1
  obtain ⟨r, h1, h2, e1, e2, R', w, w1⟩ := STEP.law2 (STEP.of (fC := fun C => fn_X11_fits C 0) (fM := fun M => fn_X12_fits M 86) hc fun N sem x l C M w s => by obtain ⟨n, sb, so, sv, s⟩ := s; exact q_fits w s) R
  have e1 : fn_X11_fits h 0 = some (r, h1) := e1
  have e2 : fn_X12_fits h1 86 = some (r, h2) := e2
  refine r_aload_n (pc := 1232) X dL_law_1232 rfl ?_
  refine r_callVI (pc := 1233) X [] dL_law_1233 ml_L_155 vo_X11_fits hcs (k_0 w) (ev_X11_fits (d := 999) (by decide) h 0 (r, h1) e1) (by decide) rfl (Nat.le_of_ble_eq_true rfl) rfl ?_
  refine r_aload_n (pc := 1236) X dL_law_1236 rfl ?_
  refine r_callVI (pc := 1237) X [] dL_law_1237 ml_L_158 vo_X12_fits hcs (k_86 w1) (ev_X12_fits (d := 999) (by decide) h1 86 (r, h2) e2) (by decide) rfl (Nat.le_of_ble_eq_true rfl) rfl ?_
  exact r_icmp_eq (pc := 1240) X 1711 dL_law_1240 (by decide) (fun _ => go h2 R') (fun q => absurd rfl q)
set_option maxHeartbeats 1000000 in
theorem lc_31 (D : LC Γ b L xs) {c : Nat} (hc : c ≤ 64) (hL : 5 * c + 5 ≤ L) {h : aH} (R : REL c h h) (hcs : cs.1 ≤ 600128 ∧ cs.2 ≤ 7301098) (go : ∀ h2, REL (c + 1) h2 h2 → Jd Γ cs 1711 (lvL b (nI (5 * c))) [] h2) : Jd Γ cs 1245 (lvL b (nI (5 * c))) [] h := by
  have X := D.1
  obtain ⟨r, h1, h2, e1, e2, R', w, w1⟩ := STEP.law2 (STEP.of (fC := fun C => fn_X11_looks C 0) (fM := fun M => fn_X12_looks M 86) hc fun N sem x l C M w s => by obtain ⟨n, sb, so, sv, s⟩ := s; exact q_looks w s) R
  have e1 : fn_X11_looks h 0 = some (r, h1) := e1
  have e2 : fn_X12_looks h1 86 = some (r, h2) := e2
  refine r_aload_n (pc := 1245) X dL_law_1245 rfl ?_
  refine r_callVI (pc := 1246) X [] dL_law_1246 ml_L_159 vo_X11_looks hcs (k_0 w) (ev_X11_looks (d := 999) (by decide) h 0 (r, h1) e1) (by decide) rfl (Nat.le_of_ble_eq_true rfl) rfl ?_
  refine r_aload_n (pc := 1249) X dL_law_1249 rfl ?_
  refine r_callVI (pc := 1250) X [] dL_law_1250 ml_L_162 vo_X12_looks hcs (k_86 w1) (ev_X12_looks (d := 999) (by decide) h1 86 (r, h2) e2) (by decide) rfl (Nat.le_of_ble_eq_true rfl) rfl ?_
  exact r_icmp_eq (pc := 1253) X 1711 dL_law_1253 (by decide) (fun _ => go h2 R') (fun q => absurd rfl q)
set_option maxHeartbeats 1000000 in
theorem lc_32 (D : LC Γ b L xs) {c : Nat} (hc : c ≤ 64) (hL : 5 * c + 5 ≤ L) {h : aH} (R : REL c h h) (hcs : cs.1 ≤ 600128 ∧ cs.2 ≤ 7301098) (go : ∀ h2, REL (c + 1) h2 h2 → Jd Γ cs 1711 (lvL b (nI (5 * c))) [] h2) : Jd Γ cs 1258 (lvL b (nI (5 * c))) [] h := by
  have X := D.1
  obtain ⟨r, h1, h2, e1, e2, R', w, w1⟩ := STEP.law2 (STEP.of (fC := fun C => fn_X11_needs C 0 (xs (5 * c + 1)) (xs (5 * c + 2))) (fM := fun M => fn_X12_needs M 86 (xs (5 * c + 1)) (xs (5 * c + 2))) hc fun N sem x l C M w _ => q_needs w (xs (5 * c + 1)) (xs (5 * c + 2))) R
  have e1 : fn_X11_needs h 0 (xs (5 * c + 1)) (xs (5 * c + 2)) = some (r, h1) := e1
  have e2 : fn_X12_needs h1 86 (xs (5 * c + 1)) (xs (5 * c + 2)) = some (r, h2) := e2
  refine r_aload_n (pc := 1258) X dL_law_1258 rfl ?_
  refine r_aloadQ_n (pc := 1259) X dL_law_1259 rfl ?_
  refine r_iload (pc := 1260) X dL_law_1260 rfl ?_
  refine r_iconst (pc := 1262) X 1 dL_law_1262 (by decide) ?_
  refine r_iadd (pc := 1263) X dL_law_1263 ?_
  refine r_sld (pc := 1264) D (k := 5 * c + 1) dL_law_1264 (nI_add _ 1) (by omega) ?_
  refine r_aloadQ_n (pc := 1265) X dL_law_1265 rfl ?_
  refine r_iload (pc := 1266) X dL_law_1266 rfl ?_
  refine r_iconst (pc := 1268) X 2 dL_law_1268 (by decide) ?_
  refine r_iadd (pc := 1269) X dL_law_1269 ?_
  refine r_sld (pc := 1270) D (k := 5 * c + 2) dL_law_1270 (nI_add _ 2) (by omega) ?_
  refine r_callVI (pc := 1271) X [.int (xs (5 * c + 1)), .int (xs (5 * c + 2))] dL_law_1271 ml_L_163 vo_X11_needs hcs (k_0 w) (ev_X11_needs (d := 999) (by decide) h 0 (xs (5 * c + 1)) (xs (5 * c + 2)) (r, h1) e1) (by decide) rfl (Nat.le_of_ble_eq_true rfl) rfl ?_
  refine r_aload_n (pc := 1274) X dL_law_1274 rfl ?_
  refine r_aloadQ_n (pc := 1275) X dL_law_1275 rfl ?_
  refine r_iload (pc := 1276) X dL_law_1276 rfl ?_
  refine r_iconst (pc := 1278) X 1 dL_law_1278 (by decide) ?_
  refine r_iadd (pc := 1279) X dL_law_1279 ?_
  refine r_sld (pc := 1280) D (k := 5 * c + 1) dL_law_1280 (nI_add _ 1) (by omega) ?_
  refine r_aloadQ_n (pc := 1281) X dL_law_1281 rfl ?_
  refine r_iload (pc := 1282) X dL_law_1282 rfl ?_
  refine r_iconst (pc := 1284) X 2 dL_law_1284 (by decide) ?_
  refine r_iadd (pc := 1285) X dL_law_1285 ?_
  refine r_sld (pc := 1286) D (k := 5 * c + 2) dL_law_1286 (nI_add _ 2) (by omega) ?_
  refine r_callVI (pc := 1287) X [.int (xs (5 * c + 1)), .int (xs (5 * c + 2))] dL_law_1287 ml_L_166 vo_X12_needs hcs (k_86 w1) (ev_X12_needs (d := 999) (by decide) h1 86 (xs (5 * c + 1)) (xs (5 * c + 2)) (r, h2) e2) (by decide) rfl (Nat.le_of_ble_eq_true rfl) rfl ?_
  exact r_icmp_eq (pc := 1290) X 1711 dL_law_1290 (by decide) (fun _ => go h2 R') (fun q => absurd rfl q)
set_option maxHeartbeats 1000000 in
theorem lc_33 (D : LC Γ b L xs) {c : Nat} (hc : c ≤ 64) (hL : 5 * c + 5 ≤ L) {h : aH} (R : REL c h h) (hcs : cs.1 ≤ 600128 ∧ cs.2 ≤ 7301098) (go : ∀ h2, REL (c + 1) h2 h2 → Jd Γ cs 1711 (lvL b (nI (5 * c))) [] h2) : Jd Γ cs 1295 (lvL b (nI (5 * c))) [] h := by
  have X := D.1
  obtain ⟨r, h1, h2, e1, e2, R', w, w1⟩ := STEP.law2 (stp_reach hc (xs (5 * c + 1))) R
  have e1 : fn_X11_reach h 0 (xs (5 * c + 1)) = some (r, h1) := e1
  have e2 : fn_X12_reach h1 86 (xs (5 * c + 1)) = some (r, h2) := e2
  refine r_aload_n (pc := 1295) X dL_law_1295 rfl ?_
  refine r_aloadQ_n (pc := 1296) X dL_law_1296 rfl ?_
  refine r_iload (pc := 1297) X dL_law_1297 rfl ?_
  refine r_iconst (pc := 1299) X 1 dL_law_1299 (by decide) ?_
  refine r_iadd (pc := 1300) X dL_law_1300 ?_
  refine r_sld (pc := 1301) D (k := 5 * c + 1) dL_law_1301 (nI_add _ 1) (by omega) ?_
  refine r_callVI (pc := 1302) X [.int (xs (5 * c + 1))] dL_law_1302 ml_L_167 vo_X11_reach hcs (k_0 w) (ev_X11_reach (d := 999) (by decide) h 0 (xs (5 * c + 1)) (r, h1) e1) (by decide) rfl (Nat.le_of_ble_eq_true rfl) rfl ?_
  refine r_aload_n (pc := 1305) X dL_law_1305 rfl ?_
  refine r_aloadQ_n (pc := 1306) X dL_law_1306 rfl ?_
  refine r_iload (pc := 1307) X dL_law_1307 rfl ?_
  refine r_iconst (pc := 1309) X 1 dL_law_1309 (by decide) ?_
  refine r_iadd (pc := 1310) X dL_law_1310 ?_
  refine r_sld (pc := 1311) D (k := 5 * c + 1) dL_law_1311 (nI_add _ 1) (by omega) ?_
  refine r_callVI (pc := 1312) X [.int (xs (5 * c + 1))] dL_law_1312 ml_L_170 vo_X12_reach hcs (k_86 w1) (ev_X12_reach (d := 999) (by decide) h1 86 (xs (5 * c + 1)) (r, h2) e2) (by decide) rfl (Nat.le_of_ble_eq_true rfl) rfl ?_
  exact r_icmp_eq (pc := 1315) X 1711 dL_law_1315 (by decide) (fun _ => go h2 R') (fun q => absurd rfl q)
set_option maxHeartbeats 1000000 in
theorem lc_34 (D : LC Γ b L xs) {c : Nat} (hc : c ≤ 64) (hL : 5 * c + 5 ≤ L) {h : aH} (R : REL c h h) (hcs : cs.1 ≤ 600128 ∧ cs.2 ≤ 7301098) (go : ∀ h2, REL (c + 1) h2 h2 → Jd Γ cs 1711 (lvL b (nI (5 * c))) [] h2) : Jd Γ cs 1320 (lvL b (nI (5 * c))) [] h := by
  have X := D.1
  obtain ⟨r, h1, h2, e1, e2, R', w, w1⟩ := STEP.law2 (stp_way hc (xs (5 * c + 1)) (xs (5 * c + 2))) R
  have e1 : fn_X11_way h 0 (xs (5 * c + 1)) (xs (5 * c + 2)) = some (r, h1) := e1
  have e2 : fn_X12_way h1 86 (xs (5 * c + 1)) (xs (5 * c + 2)) = some (r, h2) := e2
  refine r_aload_n (pc := 1320) X dL_law_1320 rfl ?_
  refine r_aloadQ_n (pc := 1321) X dL_law_1321 rfl ?_
  refine r_iload (pc := 1322) X dL_law_1322 rfl ?_
  refine r_iconst (pc := 1324) X 1 dL_law_1324 (by decide) ?_
  refine r_iadd (pc := 1325) X dL_law_1325 ?_
  refine r_sld (pc := 1326) D (k := 5 * c + 1) dL_law_1326 (nI_add _ 1) (by omega) ?_
  refine r_aloadQ_n (pc := 1327) X dL_law_1327 rfl ?_
  refine r_iload (pc := 1328) X dL_law_1328 rfl ?_
  refine r_iconst (pc := 1330) X 2 dL_law_1330 (by decide) ?_
  refine r_iadd (pc := 1331) X dL_law_1331 ?_
  refine r_sld (pc := 1332) D (k := 5 * c + 2) dL_law_1332 (nI_add _ 2) (by omega) ?_
  refine r_callVI (pc := 1333) X [.int (xs (5 * c + 1)), .int (xs (5 * c + 2))] dL_law_1333 ml_L_171 vo_X11_way hcs (k_0 w) (ev_X11_way (d := 999) (by decide) h 0 (xs (5 * c + 1)) (xs (5 * c + 2)) (r, h1) e1) (by decide) rfl (Nat.le_of_ble_eq_true rfl) rfl ?_
  refine r_aload_n (pc := 1336) X dL_law_1336 rfl ?_
  refine r_aloadQ_n (pc := 1337) X dL_law_1337 rfl ?_
  refine r_iload (pc := 1338) X dL_law_1338 rfl ?_
  refine r_iconst (pc := 1340) X 1 dL_law_1340 (by decide) ?_
  refine r_iadd (pc := 1341) X dL_law_1341 ?_
  refine r_sld (pc := 1342) D (k := 5 * c + 1) dL_law_1342 (nI_add _ 1) (by omega) ?_
  refine r_aloadQ_n (pc := 1343) X dL_law_1343 rfl ?_
  refine r_iload (pc := 1344) X dL_law_1344 rfl ?_
  refine r_iconst (pc := 1346) X 2 dL_law_1346 (by decide) ?_
  refine r_iadd (pc := 1347) X dL_law_1347 ?_
  refine r_sld (pc := 1348) D (k := 5 * c + 2) dL_law_1348 (nI_add _ 2) (by omega) ?_
  refine r_callVI (pc := 1349) X [.int (xs (5 * c + 1)), .int (xs (5 * c + 2))] dL_law_1349 ml_L_174 vo_X12_way hcs (k_86 w1) (ev_X12_way (d := 999) (by decide) h1 86 (xs (5 * c + 1)) (xs (5 * c + 2)) (r, h2) e2) (by decide) rfl (Nat.le_of_ble_eq_true rfl) rfl ?_
  exact r_icmp_eq (pc := 1352) X 1711 dL_law_1352 (by decide) (fun _ => go h2 R') (fun q => absurd rfl q)
set_option maxHeartbeats 1000000 in
theorem lc_35 (D : LC Γ b L xs) {c : Nat} (hc : c ≤ 64) (hL : 5 * c + 5 ≤ L) {h : aH} (R : REL c h h) (hcs : cs.1 ≤ 600128 ∧ cs.2 ≤ 7301098) (go : ∀ h2, REL (c + 1) h2 h2 → Jd Γ cs 1711 (lvL b (nI (5 * c))) [] h2) : Jd Γ cs 1357 (lvL b (nI (5 * c))) [] h := by
  have X := D.1
  obtain ⟨r, h1, h2, e1, e2, R', w, w1⟩ := STEP.law2 (stp_cut hc (xs (5 * c + 1)) (xs (5 * c + 2))) R
  have e1 : fn_X11_cut h 0 (xs (5 * c + 1)) (xs (5 * c + 2)) = some (r, h1) := e1
  have e2 : fn_X12_cut h1 86 (xs (5 * c + 1)) (xs (5 * c + 2)) = some (r, h2) := e2
  refine r_aload_n (pc := 1357) X dL_law_1357 rfl ?_
  refine r_aloadQ_n (pc := 1358) X dL_law_1358 rfl ?_
  refine r_iload (pc := 1359) X dL_law_1359 rfl ?_
  refine r_iconst (pc := 1361) X 1 dL_law_1361 (by decide) ?_
  refine r_iadd (pc := 1362) X dL_law_1362 ?_
  refine r_sld (pc := 1363) D (k := 5 * c + 1) dL_law_1363 (nI_add _ 1) (by omega) ?_
  refine r_aloadQ_n (pc := 1364) X dL_law_1364 rfl ?_
  refine r_iload (pc := 1365) X dL_law_1365 rfl ?_
  refine r_iconst (pc := 1367) X 2 dL_law_1367 (by decide) ?_
  refine r_iadd (pc := 1368) X dL_law_1368 ?_
  refine r_sld (pc := 1369) D (k := 5 * c + 2) dL_law_1369 (nI_add _ 2) (by omega) ?_
  refine r_callVI (pc := 1370) X [.int (xs (5 * c + 1)), .int (xs (5 * c + 2))] dL_law_1370 ml_L_175 vo_X11_cut hcs (k_0 w) (ev_X11_cut (d := 999) (by decide) h 0 (xs (5 * c + 1)) (xs (5 * c + 2)) (r, h1) e1) (by decide) rfl (Nat.le_of_ble_eq_true rfl) rfl ?_
  refine r_aload_n (pc := 1373) X dL_law_1373 rfl ?_
  refine r_aloadQ_n (pc := 1374) X dL_law_1374 rfl ?_
  refine r_iload (pc := 1375) X dL_law_1375 rfl ?_
  refine r_iconst (pc := 1377) X 1 dL_law_1377 (by decide) ?_
  refine r_iadd (pc := 1378) X dL_law_1378 ?_
  refine r_sld (pc := 1379) D (k := 5 * c + 1) dL_law_1379 (nI_add _ 1) (by omega) ?_
  refine r_aloadQ_n (pc := 1380) X dL_law_1380 rfl ?_
  refine r_iload (pc := 1381) X dL_law_1381 rfl ?_
  refine r_iconst (pc := 1383) X 2 dL_law_1383 (by decide) ?_
  refine r_iadd (pc := 1384) X dL_law_1384 ?_
  refine r_sld (pc := 1385) D (k := 5 * c + 2) dL_law_1385 (nI_add _ 2) (by omega) ?_
  refine r_callVI (pc := 1386) X [.int (xs (5 * c + 1)), .int (xs (5 * c + 2))] dL_law_1386 ml_L_178 vo_X12_cut hcs (k_86 w1) (ev_X12_cut (d := 999) (by decide) h1 86 (xs (5 * c + 1)) (xs (5 * c + 2)) (r, h2) e2) (by decide) rfl (Nat.le_of_ble_eq_true rfl) rfl ?_
  exact r_icmp_eq (pc := 1389) X 1711 dL_law_1389 (by decide) (fun _ => go h2 R') (fun q => absurd rfl q)
set_option maxHeartbeats 1000000 in
theorem lc_36 (D : LC Γ b L xs) {c : Nat} (hc : c ≤ 64) (hL : 5 * c + 5 ≤ L) {h : aH} (R : REL c h h) (hcs : cs.1 ≤ 600128 ∧ cs.2 ≤ 7301098) (go : ∀ h2, REL (c + 1) h2 h2 → Jd Γ cs 1711 (lvL b (nI (5 * c))) [] h2) : Jd Γ cs 1394 (lvL b (nI (5 * c))) [] h := by
  have X := D.1
  obtain ⟨r, h1, h2, e1, e2, R', w, w1⟩ := STEP.law2 (stp_ring hc) R
  have e1 : fn_X11_ring h 0 = some (r, h1) := e1
  have e2 : fn_X12_ring h1 86 = some (r, h2) := e2
  refine r_aload_n (pc := 1394) X dL_law_1394 rfl ?_
  refine r_callVI (pc := 1395) X [] dL_law_1395 ml_L_179 vo_X11_ring hcs (k_0 w) (ev_X11_ring (d := 999) (by decide) h 0 (r, h1) e1) (by decide) rfl (Nat.le_of_ble_eq_true rfl) rfl ?_
  refine r_aload_n (pc := 1398) X dL_law_1398 rfl ?_
  refine r_callVI (pc := 1399) X [] dL_law_1399 ml_L_182 vo_X12_ring hcs (k_86 w1) (ev_X12_ring (d := 999) (by decide) h1 86 (r, h2) e2) (by decide) rfl (Nat.le_of_ble_eq_true rfl) rfl ?_
  exact r_icmp_eq (pc := 1402) X 1711 dL_law_1402 (by decide) (fun _ => go h2 R') (fun q => absurd rfl q)
set_option maxHeartbeats 1000000 in
theorem lc_37 (D : LC Γ b L xs) {c : Nat} (hc : c ≤ 64) (hL : 5 * c + 5 ≤ L) {h : aH} (R : REL c h h) (hcs : cs.1 ≤ 600128 ∧ cs.2 ≤ 7301098) (go : ∀ h2, REL (c + 1) h2 h2 → Jd Γ cs 1711 (lvL b (nI (5 * c))) [] h2) : Jd Γ cs 1407 (lvL b (nI (5 * c))) [] h := by
  have X := D.1
  obtain ⟨r, h1, h2, e1, e2, R', w, w1⟩ := STEP.law2 (stp_order hc) R
  have e1 : fn_X11_order h 0 = some (r, h1) := e1
  have e2 : fn_X12_order h1 86 = some (r, h2) := e2
  refine r_aload_n (pc := 1407) X dL_law_1407 rfl ?_
  refine r_callVI (pc := 1408) X [] dL_law_1408 ml_L_183 vo_X11_order hcs (k_0 w) (ev_X11_order (d := 999) (by decide) h 0 (r, h1) e1) (by decide) rfl (Nat.le_of_ble_eq_true rfl) rfl ?_
  refine r_aload_n (pc := 1411) X dL_law_1411 rfl ?_
  refine r_callVI (pc := 1412) X [] dL_law_1412 ml_L_186 vo_X12_order hcs (k_86 w1) (ev_X12_order (d := 999) (by decide) h1 86 (r, h2) e2) (by decide) rfl (Nat.le_of_ble_eq_true rfl) rfl ?_
  exact r_icmp_eq (pc := 1415) X 1711 dL_law_1415 (by decide) (fun _ => go h2 R') (fun q => absurd rfl q)
set_option maxHeartbeats 1000000 in
theorem lc_38 (D : LC Γ b L xs) {c : Nat} (hc : c ≤ 64) (hL : 5 * c + 5 ≤ L) {h : aH} (R : REL c h h) (hcs : cs.1 ≤ 600128 ∧ cs.2 ≤ 7301098) (go : ∀ h2, REL (c + 1) h2 h2 → Jd Γ cs 1711 (lvL b (nI (5 * c))) [] h2) : Jd Γ cs 1420 (lvL b (nI (5 * c))) [] h := by
  have X := D.1
  obtain ⟨r, h1, h2, e1, e2, R', w, w1⟩ := STEP.law2 (STEP.of (fC := fun C => fn_X11_locks C 0 (xs (5 * c + 1)) (xs (5 * c + 2))) (fM := fun M => fn_X12_locks M 86 (xs (5 * c + 1)) (xs (5 * c + 2))) hc fun N sem x l C M w _ => q_locks w (xs (5 * c + 1)) (xs (5 * c + 2))) R
  have e1 : fn_X11_locks h 0 (xs (5 * c + 1)) (xs (5 * c + 2)) = some (r, h1) := e1
  have e2 : fn_X12_locks h1 86 (xs (5 * c + 1)) (xs (5 * c + 2)) = some (r, h2) := e2
  refine r_aload_n (pc := 1420) X dL_law_1420 rfl ?_
  refine r_aloadQ_n (pc := 1421) X dL_law_1421 rfl ?_
  refine r_iload (pc := 1422) X dL_law_1422 rfl ?_
  refine r_iconst (pc := 1424) X 1 dL_law_1424 (by decide) ?_
  refine r_iadd (pc := 1425) X dL_law_1425 ?_
  refine r_sld (pc := 1426) D (k := 5 * c + 1) dL_law_1426 (nI_add _ 1) (by omega) ?_
  refine r_aloadQ_n (pc := 1427) X dL_law_1427 rfl ?_
  refine r_iload (pc := 1428) X dL_law_1428 rfl ?_
  refine r_iconst (pc := 1430) X 2 dL_law_1430 (by decide) ?_
  refine r_iadd (pc := 1431) X dL_law_1431 ?_
  refine r_sld (pc := 1432) D (k := 5 * c + 2) dL_law_1432 (nI_add _ 2) (by omega) ?_
  refine r_callVI (pc := 1433) X [.int (xs (5 * c + 1)), .int (xs (5 * c + 2))] dL_law_1433 ml_L_187 vo_X11_locks hcs (k_0 w) (ev_X11_locks (d := 999) (by decide) h 0 (xs (5 * c + 1)) (xs (5 * c + 2)) (r, h1) e1) (by decide) rfl (Nat.le_of_ble_eq_true rfl) rfl ?_
  refine r_aload_n (pc := 1436) X dL_law_1436 rfl ?_
  refine r_aloadQ_n (pc := 1437) X dL_law_1437 rfl ?_
  refine r_iload (pc := 1438) X dL_law_1438 rfl ?_
  refine r_iconst (pc := 1440) X 1 dL_law_1440 (by decide) ?_
  refine r_iadd (pc := 1441) X dL_law_1441 ?_
  refine r_sld (pc := 1442) D (k := 5 * c + 1) dL_law_1442 (nI_add _ 1) (by omega) ?_
  refine r_aloadQ_n (pc := 1443) X dL_law_1443 rfl ?_
  refine r_iload (pc := 1444) X dL_law_1444 rfl ?_
  refine r_iconst (pc := 1446) X 2 dL_law_1446 (by decide) ?_
  refine r_iadd (pc := 1447) X dL_law_1447 ?_
  refine r_sld (pc := 1448) D (k := 5 * c + 2) dL_law_1448 (nI_add _ 2) (by omega) ?_
  refine r_callVI (pc := 1449) X [.int (xs (5 * c + 1)), .int (xs (5 * c + 2))] dL_law_1449 ml_L_190 vo_X12_locks hcs (k_86 w1) (ev_X12_locks (d := 999) (by decide) h1 86 (xs (5 * c + 1)) (xs (5 * c + 2)) (r, h2) e2) (by decide) rfl (Nat.le_of_ble_eq_true rfl) rfl ?_
  exact r_icmp_eq (pc := 1452) X 1711 dL_law_1452 (by decide) (fun _ => go h2 R') (fun q => absurd rfl q)
set_option maxHeartbeats 1000000 in
theorem lc_39 (D : LC Γ b L xs) {c : Nat} (hc : c ≤ 64) (hL : 5 * c + 5 ≤ L) {h : aH} (R : REL c h h) (hcs : cs.1 ≤ 600128 ∧ cs.2 ≤ 7301098) (go : ∀ h2, REL (c + 1) h2 h2 → Jd Γ cs 1711 (lvL b (nI (5 * c))) [] h2) : Jd Γ cs 1457 (lvL b (nI (5 * c))) [] h := by
  have X := D.1
  obtain ⟨r, h1, h2, e1, e2, R', w, w1⟩ := STEP.law2 (STEP.of (fC := fun C => fn_X11_spoils C 0 (xs (5 * c + 1)) (xs (5 * c + 2)) (xs (5 * c + 3))) (fM := fun M => fn_X12_spoils M 86 (xs (5 * c + 1)) (xs (5 * c + 2)) (xs (5 * c + 3))) hc fun N sem x l C M w _ => q_spoils w (xs (5 * c + 1)) (xs (5 * c + 2)) (xs (5 * c + 3))) R
  have e1 : fn_X11_spoils h 0 (xs (5 * c + 1)) (xs (5 * c + 2)) (xs (5 * c + 3)) = some (r, h1) := e1
  have e2 : fn_X12_spoils h1 86 (xs (5 * c + 1)) (xs (5 * c + 2)) (xs (5 * c + 3)) = some (r, h2) := e2
  refine r_aload_n (pc := 1457) X dL_law_1457 rfl ?_
  refine r_aloadQ_n (pc := 1458) X dL_law_1458 rfl ?_
  refine r_iload (pc := 1459) X dL_law_1459 rfl ?_
  refine r_iconst (pc := 1461) X 1 dL_law_1461 (by decide) ?_
  refine r_iadd (pc := 1462) X dL_law_1462 ?_
  refine r_sld (pc := 1463) D (k := 5 * c + 1) dL_law_1463 (nI_add _ 1) (by omega) ?_
  refine r_aloadQ_n (pc := 1464) X dL_law_1464 rfl ?_
  refine r_iload (pc := 1465) X dL_law_1465 rfl ?_
  refine r_iconst (pc := 1467) X 2 dL_law_1467 (by decide) ?_
  refine r_iadd (pc := 1468) X dL_law_1468 ?_
  refine r_sld (pc := 1469) D (k := 5 * c + 2) dL_law_1469 (nI_add _ 2) (by omega) ?_
  refine r_aloadQ_n (pc := 1470) X dL_law_1470 rfl ?_
  refine r_iload (pc := 1471) X dL_law_1471 rfl ?_
  refine r_iconst (pc := 1473) X 3 dL_law_1473 (by decide) ?_
  refine r_iadd (pc := 1474) X dL_law_1474 ?_
  refine r_sld (pc := 1475) D (k := 5 * c + 3) dL_law_1475 (nI_add _ 3) (by omega) ?_
  refine r_callVI (pc := 1476) X [.int (xs (5 * c + 1)), .int (xs (5 * c + 2)), .int (xs (5 * c + 3))] dL_law_1476 ml_L_191 vo_X11_spoils hcs (k_0 w) (ev_X11_spoils (d := 999) (by decide) h 0 (xs (5 * c + 1)) (xs (5 * c + 2)) (xs (5 * c + 3)) (r, h1) e1) (by decide) rfl (Nat.le_of_ble_eq_true rfl) rfl ?_
  refine r_aload_n (pc := 1479) X dL_law_1479 rfl ?_
  refine r_aloadQ_n (pc := 1480) X dL_law_1480 rfl ?_
  refine r_iload (pc := 1481) X dL_law_1481 rfl ?_
  refine r_iconst (pc := 1483) X 1 dL_law_1483 (by decide) ?_
  refine r_iadd (pc := 1484) X dL_law_1484 ?_
  refine r_sld (pc := 1485) D (k := 5 * c + 1) dL_law_1485 (nI_add _ 1) (by omega) ?_
  refine r_aloadQ_n (pc := 1486) X dL_law_1486 rfl ?_
  refine r_iload (pc := 1487) X dL_law_1487 rfl ?_
  refine r_iconst (pc := 1489) X 2 dL_law_1489 (by decide) ?_
  refine r_iadd (pc := 1490) X dL_law_1490 ?_
  refine r_sld (pc := 1491) D (k := 5 * c + 2) dL_law_1491 (nI_add _ 2) (by omega) ?_
  refine r_aloadQ_n (pc := 1492) X dL_law_1492 rfl ?_
  refine r_iload (pc := 1493) X dL_law_1493 rfl ?_
  refine r_iconst (pc := 1495) X 3 dL_law_1495 (by decide) ?_
  refine r_iadd (pc := 1496) X dL_law_1496 ?_
  refine r_sld (pc := 1497) D (k := 5 * c + 3) dL_law_1497 (nI_add _ 3) (by omega) ?_
  refine r_callVI (pc := 1498) X [.int (xs (5 * c + 1)), .int (xs (5 * c + 2)), .int (xs (5 * c + 3))] dL_law_1498 ml_L_194 vo_X12_spoils hcs (k_86 w1) (ev_X12_spoils (d := 999) (by decide) h1 86 (xs (5 * c + 1)) (xs (5 * c + 2)) (xs (5 * c + 3)) (r, h2) e2) (by decide) rfl (Nat.le_of_ble_eq_true rfl) rfl ?_
  exact r_icmp_eq (pc := 1501) X 1711 dL_law_1501 (by decide) (fun _ => go h2 R') (fun q => absurd rfl q)
set_option maxHeartbeats 1000000 in
theorem lc_40 (D : LC Γ b L xs) {c : Nat} (hc : c ≤ 64) (hL : 5 * c + 5 ≤ L) {h : aH} (R : REL c h h) (hcs : cs.1 ≤ 600128 ∧ cs.2 ≤ 7301098) (go : ∀ h2, REL (c + 1) h2 h2 → Jd Γ cs 1711 (lvL b (nI (5 * c))) [] h2) : Jd Γ cs 1506 (lvL b (nI (5 * c))) [] h := by
  have X := D.1
  obtain ⟨r, h1, h2, e1, e2, R', w, w1⟩ := STEP.law2 (STEP.of (fC := fun C => fn_X11_rests C 0 (xs (5 * c + 1))) (fM := fun M => fn_X12_rests M 86 (xs (5 * c + 1))) hc fun N sem x l C M w _ => q_rests w (xs (5 * c + 1))) R
  have e1 : fn_X11_rests h 0 (xs (5 * c + 1)) = some (r, h1) := e1
  have e2 : fn_X12_rests h1 86 (xs (5 * c + 1)) = some (r, h2) := e2
  refine r_aload_n (pc := 1506) X dL_law_1506 rfl ?_
  refine r_aloadQ_n (pc := 1507) X dL_law_1507 rfl ?_
  refine r_iload (pc := 1508) X dL_law_1508 rfl ?_
  refine r_iconst (pc := 1510) X 1 dL_law_1510 (by decide) ?_
  refine r_iadd (pc := 1511) X dL_law_1511 ?_
  refine r_sld (pc := 1512) D (k := 5 * c + 1) dL_law_1512 (nI_add _ 1) (by omega) ?_
  refine r_callVI (pc := 1513) X [.int (xs (5 * c + 1))] dL_law_1513 ml_L_195 vo_X11_rests hcs (k_0 w) (ev_X11_rests (d := 999) (by decide) h 0 (xs (5 * c + 1)) (r, h1) e1) (by decide) rfl (Nat.le_of_ble_eq_true rfl) rfl ?_
  refine r_aload_n (pc := 1516) X dL_law_1516 rfl ?_
  refine r_aloadQ_n (pc := 1517) X dL_law_1517 rfl ?_
  refine r_iload (pc := 1518) X dL_law_1518 rfl ?_
  refine r_iconst (pc := 1520) X 1 dL_law_1520 (by decide) ?_
  refine r_iadd (pc := 1521) X dL_law_1521 ?_
  refine r_sld (pc := 1522) D (k := 5 * c + 1) dL_law_1522 (nI_add _ 1) (by omega) ?_
  refine r_callVI (pc := 1523) X [.int (xs (5 * c + 1))] dL_law_1523 ml_L_198 vo_X12_rests hcs (k_86 w1) (ev_X12_rests (d := 999) (by decide) h1 86 (xs (5 * c + 1)) (r, h2) e2) (by decide) rfl (Nat.le_of_ble_eq_true rfl) rfl ?_
  exact r_icmp_eq (pc := 1526) X 1711 dL_law_1526 (by decide) (fun _ => go h2 R') (fun q => absurd rfl q)
set_option maxHeartbeats 1000000 in
theorem lc_41 (D : LC Γ b L xs) {c : Nat} (hc : c ≤ 64) (hL : 5 * c + 5 ≤ L) {h : aH} (R : REL c h h) (hcs : cs.1 ≤ 600128 ∧ cs.2 ≤ 7301098) (go : ∀ h2, REL (c + 1) h2 h2 → Jd Γ cs 1711 (lvL b (nI (5 * c))) [] h2) : Jd Γ cs 1531 (lvL b (nI (5 * c))) [] h := by
  have X := D.1
  obtain ⟨r, h1, h2, e1, e2, R', w, w1⟩ := STEP.law2 (stp_law c hc) R
  have e1 : fn_X11_law h 0 = some (r, h1) := e1
  have e2 : fn_X12_law h1 86 = some (r, h2) := e2
  refine r_aload_n (pc := 1531) X dL_law_1531 rfl ?_
  refine r_callVI (pc := 1532) X [] dL_law_1532 ml_L_199 vo_X11_law hcs (k_0 w) (ev_X11_law (d := 999) (by decide) h 0 (r, h1) e1) (by decide) rfl (Nat.le_of_ble_eq_true rfl) rfl ?_
  refine r_aload_n (pc := 1535) X dL_law_1535 rfl ?_
  refine r_callVI (pc := 1536) X [] dL_law_1536 ml_L_202 vo_X12_law hcs (k_86 w1) (ev_X12_law (d := 999) (by decide) h1 86 (r, h2) e2) (by decide) rfl (Nat.le_of_ble_eq_true rfl) rfl ?_
  exact r_icmp_eq (pc := 1539) X 1711 dL_law_1539 (by decide) (fun _ => go h2 R') (fun q => absurd rfl q)
set_option maxHeartbeats 1000000 in
theorem lc_42 (D : LC Γ b L xs) {c : Nat} (hc : c ≤ 64) (hL : 5 * c + 5 ≤ L) {h : aH} (R : REL c h h) (hcs : cs.1 ≤ 600128 ∧ cs.2 ≤ 7301098) (go : ∀ h2, REL (c + 1) h2 h2 → Jd Γ cs 1711 (lvL b (nI (5 * c))) [] h2) : Jd Γ cs 1544 (lvL b (nI (5 * c))) [] h := by
  have X := D.1
  obtain ⟨r, h1, h2, e1, e2, R', w, w1⟩ := STEP.law2 (STEP.of (fC := fun C => fn_X11_years C 0 (xs (5 * c + 1)) (xs (5 * c + 2))) (fM := fun M => fn_X12_years M 86 (xs (5 * c + 1)) (xs (5 * c + 2))) hc fun N sem x l C M w _ => q_years w (xs (5 * c + 1)) (xs (5 * c + 2))) R
  have e1 : fn_X11_years h 0 (xs (5 * c + 1)) (xs (5 * c + 2)) = some (r, h1) := e1
  have e2 : fn_X12_years h1 86 (xs (5 * c + 1)) (xs (5 * c + 2)) = some (r, h2) := e2
  refine r_aload_n (pc := 1544) X dL_law_1544 rfl ?_
  refine r_aloadQ_n (pc := 1545) X dL_law_1545 rfl ?_
  refine r_iload (pc := 1546) X dL_law_1546 rfl ?_
  refine r_iconst (pc := 1548) X 1 dL_law_1548 (by decide) ?_
  refine r_iadd (pc := 1549) X dL_law_1549 ?_
  refine r_sld (pc := 1550) D (k := 5 * c + 1) dL_law_1550 (nI_add _ 1) (by omega) ?_
  refine r_aloadQ_n (pc := 1551) X dL_law_1551 rfl ?_
  refine r_iload (pc := 1552) X dL_law_1552 rfl ?_
  refine r_iconst (pc := 1554) X 2 dL_law_1554 (by decide) ?_
  refine r_iadd (pc := 1555) X dL_law_1555 ?_
  refine r_sld (pc := 1556) D (k := 5 * c + 2) dL_law_1556 (nI_add _ 2) (by omega) ?_
  refine r_callVI (pc := 1557) X [.int (xs (5 * c + 1)), .int (xs (5 * c + 2))] dL_law_1557 ml_L_203 vo_X11_years hcs (k_0 w) (ev_X11_years (d := 999) (by decide) h 0 (xs (5 * c + 1)) (xs (5 * c + 2)) (r, h1) e1) (by decide) rfl (Nat.le_of_ble_eq_true rfl) rfl ?_
  refine r_aload_n (pc := 1560) X dL_law_1560 rfl ?_
  refine r_aloadQ_n (pc := 1561) X dL_law_1561 rfl ?_
  refine r_iload (pc := 1562) X dL_law_1562 rfl ?_
  refine r_iconst (pc := 1564) X 1 dL_law_1564 (by decide) ?_
  refine r_iadd (pc := 1565) X dL_law_1565 ?_
  refine r_sld (pc := 1566) D (k := 5 * c + 1) dL_law_1566 (nI_add _ 1) (by omega) ?_
  refine r_aloadQ_n (pc := 1567) X dL_law_1567 rfl ?_
  refine r_iload (pc := 1568) X dL_law_1568 rfl ?_
  refine r_iconst (pc := 1570) X 2 dL_law_1570 (by decide) ?_
  refine r_iadd (pc := 1571) X dL_law_1571 ?_
  refine r_sld (pc := 1572) D (k := 5 * c + 2) dL_law_1572 (nI_add _ 2) (by omega) ?_
  refine r_callVI (pc := 1573) X [.int (xs (5 * c + 1)), .int (xs (5 * c + 2))] dL_law_1573 ml_L_206 vo_X12_years hcs (k_86 w1) (ev_X12_years (d := 999) (by decide) h1 86 (xs (5 * c + 1)) (xs (5 * c + 2)) (r, h2) e2) (by decide) rfl (Nat.le_of_ble_eq_true rfl) rfl ?_
  exact r_icmp_eq (pc := 1576) X 1711 dL_law_1576 (by decide) (fun _ => go h2 R') (fun q => absurd rfl q)
set_option maxHeartbeats 1000000 in
theorem lc_43 (D : LC Γ b L xs) {c : Nat} (hc : c ≤ 64) (hL : 5 * c + 5 ≤ L) {h : aH} (R : REL c h h) (hcs : cs.1 ≤ 600128 ∧ cs.2 ≤ 7301098) (go : ∀ h2, REL (c + 1) h2 h2 → Jd Γ cs 1711 (lvL b (nI (5 * c))) [] h2) : Jd Γ cs 1581 (lvL b (nI (5 * c))) [] h := by
  have X := D.1
  obtain ⟨r, h1, h2, e1, e2, R', w, w1⟩ := STEP.law2 (stp_keep c (xs (5 * c + 1))) R
  have e1 : fn_X11_keep h 0 (xs (5 * c + 1)) = some (r, h1) := e1
  have e2 : fn_X12_keep h1 86 (xs (5 * c + 1)) = some (r, h2) := e2
  refine r_aload_n (pc := 1581) X dL_law_1581 rfl ?_
  refine r_aloadQ_n (pc := 1582) X dL_law_1582 rfl ?_
  refine r_iload (pc := 1583) X dL_law_1583 rfl ?_
  refine r_iconst (pc := 1585) X 1 dL_law_1585 (by decide) ?_
  refine r_iadd (pc := 1586) X dL_law_1586 ?_
  refine r_sld (pc := 1587) D (k := 5 * c + 1) dL_law_1587 (nI_add _ 1) (by omega) ?_
  refine r_callVI (pc := 1588) X [.int (xs (5 * c + 1))] dL_law_1588 ml_L_207 vo_X11_keep hcs (k_0 w) (ev_X11_keep (d := 999) (by decide) h 0 (xs (5 * c + 1)) (r, h1) e1) (by decide) rfl (Nat.le_of_ble_eq_true rfl) rfl ?_
  refine r_aload_n (pc := 1591) X dL_law_1591 rfl ?_
  refine r_aloadQ_n (pc := 1592) X dL_law_1592 rfl ?_
  refine r_iload (pc := 1593) X dL_law_1593 rfl ?_
  refine r_iconst (pc := 1595) X 1 dL_law_1595 (by decide) ?_
  refine r_iadd (pc := 1596) X dL_law_1596 ?_
  refine r_sld (pc := 1597) D (k := 5 * c + 1) dL_law_1597 (nI_add _ 1) (by omega) ?_
  refine r_callVI (pc := 1598) X [.int (xs (5 * c + 1))] dL_law_1598 ml_L_210 vo_X12_keep hcs (k_86 w1) (ev_X12_keep (d := 999) (by decide) h1 86 (xs (5 * c + 1)) (r, h2) e2) (by decide) rfl (Nat.le_of_ble_eq_true rfl) rfl ?_
  exact r_icmp_eq (pc := 1601) X 1711 dL_law_1601 (by decide) (fun _ => go h2 R') (fun q => absurd rfl q)
set_option maxHeartbeats 1000000 in
theorem lc_44 (D : LC Γ b L xs) {c : Nat} (hc : c ≤ 64) (hL : 5 * c + 5 ≤ L) {h : aH} (R : REL c h h) (hcs : cs.1 ≤ 600128 ∧ cs.2 ≤ 7301098) (go : ∀ h2, REL (c + 1) h2 h2 → Jd Γ cs 1711 (lvL b (nI (5 * c))) [] h2) : Jd Γ cs 1606 (lvL b (nI (5 * c))) [] h := by
  have X := D.1
  obtain ⟨r, h1, h2, e1, e2, R', w, w1⟩ := STEP.law2 (stp_again c hc (xs (5 * c + 1))) R
  have e1 : fn_X11_again h 0 (xs (5 * c + 1)) = some (r, h1) := e1
  have e2 : fn_X12_again h1 86 (xs (5 * c + 1)) = some (r, h2) := e2
  refine r_aload_n (pc := 1606) X dL_law_1606 rfl ?_
  refine r_aloadQ_n (pc := 1607) X dL_law_1607 rfl ?_
  refine r_iload (pc := 1608) X dL_law_1608 rfl ?_
  refine r_iconst (pc := 1610) X 1 dL_law_1610 (by decide) ?_
  refine r_iadd (pc := 1611) X dL_law_1611 ?_
  refine r_sld (pc := 1612) D (k := 5 * c + 1) dL_law_1612 (nI_add _ 1) (by omega) ?_
  refine r_callVI (pc := 1613) X [.int (xs (5 * c + 1))] dL_law_1613 ml_L_211 vo_X11_again hcs (k_0 w) (ev_X11_again (d := 999) (by decide) h 0 (xs (5 * c + 1)) (r, h1) e1) (by decide) rfl (Nat.le_of_ble_eq_true rfl) rfl ?_
  refine r_aload_n (pc := 1616) X dL_law_1616 rfl ?_
  refine r_aloadQ_n (pc := 1617) X dL_law_1617 rfl ?_
  refine r_iload (pc := 1618) X dL_law_1618 rfl ?_
  refine r_iconst (pc := 1620) X 1 dL_law_1620 (by decide) ?_
  refine r_iadd (pc := 1621) X dL_law_1621 ?_
  refine r_sld (pc := 1622) D (k := 5 * c + 1) dL_law_1622 (nI_add _ 1) (by omega) ?_
  refine r_callVI (pc := 1623) X [.int (xs (5 * c + 1))] dL_law_1623 ml_L_214 vo_X12_again hcs (k_86 w1) (ev_X12_again (d := 999) (by decide) h1 86 (xs (5 * c + 1)) (r, h2) e2) (by decide) rfl (Nat.le_of_ble_eq_true rfl) rfl ?_
  exact r_icmp_eq (pc := 1626) X 1711 dL_law_1626 (by decide) (fun _ => go h2 R') (fun q => absurd rfl q)
set_option maxHeartbeats 1000000 in
theorem lc_45 (D : LC Γ b L xs) {c : Nat} (hc : c ≤ 64) (hL : 5 * c + 5 ≤ L) {h : aH} (R : REL c h h) (hcs : cs.1 ≤ 600128 ∧ cs.2 ≤ 7301098) (go : ∀ h2, REL (c + 1) h2 h2 → Jd Γ cs 1711 (lvL b (nI (5 * c))) [] h2) : Jd Γ cs 1631 (lvL b (nI (5 * c))) [] h := by
  have X := D.1
  obtain ⟨r, h1, h2, e1, e2, R', w, w1⟩ := STEP.law2 (stp_count c (xs (5 * c + 1))) R
  have e1 : (fn_X11_count h 0 (xs (5 * c + 1))).bind (fun q => some (q, h)) = some (r, h1) := e1
  obtain ⟨r0, e4, e3⟩ := ob e1
  cases e3
  have e2 : fn_X12_count h 86 (xs (5 * c + 1)) = some (r, h2) := e2
  refine r_aload_n (pc := 1631) X dL_law_1631 rfl ?_
  refine r_aloadQ_n (pc := 1632) X dL_law_1632 rfl ?_
  refine r_iload (pc := 1633) X dL_law_1633 rfl ?_
  refine r_iconst (pc := 1635) X 1 dL_law_1635 (by decide) ?_
  refine r_iadd (pc := 1636) X dL_law_1636 ?_
  refine r_sld (pc := 1637) D (k := 5 * c + 1) dL_law_1637 (nI_add _ 1) (by omega) ?_
  refine r_callVI (pc := 1638) X [.int (xs (5 * c + 1))] dL_law_1638 ml_L_215 vo_X11_count hcs (k_0 w) (ev_X11_count (d := 999) (by decide) h 0 (xs (5 * c + 1)) r e4) (by decide) rfl (Nat.le_of_ble_eq_true rfl) rfl ?_
  refine r_aload_n (pc := 1641) X dL_law_1641 rfl ?_
  refine r_aloadQ_n (pc := 1642) X dL_law_1642 rfl ?_
  refine r_iload (pc := 1643) X dL_law_1643 rfl ?_
  refine r_iconst (pc := 1645) X 1 dL_law_1645 (by decide) ?_
  refine r_iadd (pc := 1646) X dL_law_1646 ?_
  refine r_sld (pc := 1647) D (k := 5 * c + 1) dL_law_1647 (nI_add _ 1) (by omega) ?_
  refine r_callVI (pc := 1648) X [.int (xs (5 * c + 1))] dL_law_1648 ml_L_218 vo_X12_count hcs (k_86 w) (ev_X12_count (d := 999) (by decide) h 86 (xs (5 * c + 1)) (r, h2) e2) (by decide) rfl (Nat.le_of_ble_eq_true rfl) rfl ?_
  exact r_icmp_eq (pc := 1651) X 1711 dL_law_1651 (by decide) (fun _ => go h2 R') (fun q => absurd rfl q)
end Cases
