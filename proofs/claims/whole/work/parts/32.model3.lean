theorem dX12_undo_0 : decode cX12_undo 0 = .ok (.aload_n 0, 1) := by decide +kernel
theorem dX12_undo_1 : decode cX12_undo 1 = .ok (.iconst 0, 1) := by decide +kernel
theorem dX12_undo_2 : decode cX12_undo 2 = .ok (.putfield 100, 3) := by decide +kernel
theorem dX12_undo_5 : decode cX12_undo 5 = .ok (.aload_n 0, 1) := by decide +kernel
theorem dX12_undo_6 : decode cX12_undo 6 = .ok (.getfield 163, 3) := by decide +kernel
theorem dX12_undo_9 : decode cX12_undo 9 = .ok (.ifCond .ne 5, 3) := by decide +kernel
theorem dX12_undo_12 : decode cX12_undo 12 = .ok (.iconst (-1), 1) := by decide +kernel
theorem dX12_undo_13 : decode cX12_undo 13 = .ok (.ireturn, 1) := by decide +kernel
theorem dX12_undo_14 : decode cX12_undo 14 = .ok (.aload_n 0, 1) := by decide +kernel
theorem dX12_undo_15 : decode cX12_undo 15 = .ok (.dup, 1) := by decide +kernel
theorem dX12_undo_16 : decode cX12_undo 16 = .ok (.getfield 163, 3) := by decide +kernel
theorem dX12_undo_19 : decode cX12_undo 19 = .ok (.iconst 1, 1) := by decide +kernel
theorem dX12_undo_20 : decode cX12_undo 20 = .ok (.isub, 1) := by decide +kernel
theorem dX12_undo_21 : decode cX12_undo 21 = .ok (.putfield 163, 3) := by decide +kernel
theorem dX12_undo_24 : decode cX12_undo 24 = .ok (.iconst 0, 1) := by decide +kernel
theorem dX12_undo_25 : decode cX12_undo 25 = .ok (.istore_n 1, 1) := by decide +kernel
theorem dX12_undo_26 : decode cX12_undo 26 = .ok (.iload_n 1, 1) := by decide +kernel
theorem dX12_undo_27 : decode cX12_undo 27 = .ok (.bipush 16, 2) := by decide +kernel
theorem dX12_undo_29 : decode cX12_undo 29 = .ok (.if_icmp .ge 29, 3) := by decide +kernel
theorem dX12_undo_32 : decode cX12_undo 32 = .ok (.aload_n 0, 1) := by decide +kernel
theorem dX12_undo_33 : decode cX12_undo 33 = .ok (.getfield 9, 3) := by decide +kernel
theorem dX12_undo_36 : decode cX12_undo 36 = .ok (.iload_n 1, 1) := by decide +kernel
theorem dX12_undo_37 : decode cX12_undo 37 = .ok (.aload_n 0, 1) := by decide +kernel
theorem dX12_undo_38 : decode cX12_undo 38 = .ok (.getfield 42, 3) := by decide +kernel
theorem dX12_undo_41 : decode cX12_undo 41 = .ok (.bipush 16, 2) := by decide +kernel
theorem dX12_undo_43 : decode cX12_undo 43 = .ok (.aload_n 0, 1) := by decide +kernel
theorem dX12_undo_44 : decode cX12_undo 44 = .ok (.getfield 163, 3) := by decide +kernel
theorem dX12_undo_47 : decode cX12_undo 47 = .ok (.imul, 1) := by decide +kernel
theorem dX12_undo_48 : decode cX12_undo 48 = .ok (.iload_n 1, 1) := by decide +kernel
theorem dX12_undo_49 : decode cX12_undo 49 = .ok (.iadd, 1) := by decide +kernel
theorem dX12_undo_50 : decode cX12_undo 50 = .ok (.iaload, 1) := by decide +kernel
theorem dX12_undo_51 : decode cX12_undo 51 = .ok (.iastore, 1) := by decide +kernel
theorem dX12_undo_52 : decode cX12_undo 52 = .ok (.iinc 1 1, 3) := by decide +kernel
theorem dX12_undo_55 : decode cX12_undo 55 = .ok (.goto (-29), 3) := by decide +kernel
theorem dX12_undo_58 : decode cX12_undo 58 = .ok (.aload_n 0, 1) := by decide +kernel
theorem dX12_undo_59 : decode cX12_undo 59 = .ok (.getfield 163, 3) := by decide +kernel
theorem dX12_undo_62 : decode cX12_undo 62 = .ok (.ireturn, 1) := by decide +kernel
def lb_X12_undo_26 (v0 : Nat) (s : Int32 × aH) : Option ((Int32 × aH) ⊕ ((Int32 × aH))) :=
  if s.1 < 16 then
    (gR s.2 v0 11 0).bind fun a6 =>
    (gR s.2 v0 11 23).bind fun a7 =>
    (gI s.2 v0 11 24).bind fun x8 =>
    (aI s.2 a7 14 ((16 * x8) + s.1)).bind fun x9 =>
    (wI s.2 a6 s.1 x9).bind fun h10 =>
    (some (s.1 + 1)).bind fun x11 =>
    some (.inl (x11, h10))
  else
    (gI s.2 v0 11 24).bind fun x5 =>
    some (.inr (x5, s.2))
def hd_X12_undo_26 (Γ : aC) (v0 : Nat) (s : Int32 × aH) : Prop := Jd Γ (0, 0) 26 [some (.ref v0), some (.int s.1)] [] s.2
def ex_X12_undo_26 (Γ : aC) (v0 : Nat) (r : (Int32 × aH)) : Prop := (fun r => RqI Γ r) r
set_option maxRecDepth 20000 in
set_option maxHeartbeats 4000000 in
theorem lw_X12_undo_26 {Γ : aC} {d : Nat} (X : Cx Γ RX12 cX12_undo 2 (some .int) (d, 0, 0)) (hd : 0 ≤ d) (v0 : Nat) : ∀ n s o, lp (lb_X12_undo_26 v0) n s = some o → ex_X12_undo_26 Γ v0 o → hd_X12_undo_26 Γ v0 s := by
  have hd1 : 0 ≤ d := by omega
  refine J_lp _ _ _ ?_
  intro s o hf hk
  unfold lb_X12_undo_26 at hf
  refine r_iload_n (pc := 26) X dX12_undo_26 rfl ?_
  refine r_bipush (pc := 27) X 16 dX12_undo_27 (by decide) ?_
  refine r_icmp_ge (pc := 29) X 58 dX12_undo_29 (by decide) (fun c12 => ?_) (fun c12 => ?_)
  · rw [if_neg c12] at hf
    refine r_aload_n (pc := 58) X dX12_undo_58 rfl ?_
    obtain ⟨x5, ex5, hf⟩ := ob hf
    refine r_getI (pc := 59) X dX12_undo_59 fl_X12_163 rfl ex5 ?_
    obtain rfl := Option.some.inj hf
    exact r_iret (pc := 62) X dX12_undo_62 hk
  · rw [if_pos c12] at hf
    refine r_aload_n (pc := 32) X dX12_undo_32 rfl ?_
    obtain ⟨a6, ea6, hf⟩ := ob hf
    refine r_getR (pc := 33) X dX12_undo_33 fl_X12_9 rfl ea6 ?_
    refine r_iload_n (pc := 36) X dX12_undo_36 rfl ?_
    refine r_aload_n (pc := 37) X dX12_undo_37 rfl ?_
    obtain ⟨a7, ea7, hf⟩ := ob hf
    refine r_getR (pc := 38) X dX12_undo_38 fl_X12_42 rfl ea7 ?_
    refine r_bipush (pc := 41) X 16 dX12_undo_41 (by decide) ?_
    refine r_aload_n (pc := 43) X dX12_undo_43 rfl ?_
    obtain ⟨x8, ex8, hf⟩ := ob hf
    refine r_getI (pc := 44) X dX12_undo_44 fl_X12_163 rfl ex8 ?_
    refine r_imul (pc := 47) X dX12_undo_47 ?_
    refine r_iload_n (pc := 48) X dX12_undo_48 rfl ?_
    refine r_iadd (pc := 49) X dX12_undo_49 ?_
    obtain ⟨x9, ex9, hf⟩ := ob hf
    refine r_iald (pc := 50) X dX12_undo_50 ex9 ?_
    obtain ⟨h10, eh10, hf⟩ := ob hf
    refine r_iast (pc := 51) X dX12_undo_51 eh10 ?_
    obtain ⟨x11, ex11, hf⟩ := ob hf
    refine r_iinc2 (pc := 52) X 1 [some (.ref v0), some (.int x11)] dX12_undo_52 (by decide) rfl (by decide) ex11 rfl ?_
    refine r_goto (pc := 55) X 26 dX12_undo_55 (by decide) ?_
    obtain rfl := Option.some.inj hf
    exact hk
def fn_X12_undo (h : aH) (p0 : Nat) : Option (Int32 × aH) :=
  (pI h p0 11 11 0).bind fun h1 =>
  (gI h1 p0 11 24).bind fun x2 =>
  if x2 = 0 then
    some ((-1), h1)
  else
    (gI h1 p0 11 24).bind fun x3 =>
    (pI h1 p0 11 24 (x3 - 1)).bind fun h4 =>
    (lp (lb_X12_undo_26 p0) lpN (0, h4)).bind fun o13 =>
    some o13
set_option maxRecDepth 20000 in
set_option maxHeartbeats 4000000 in
theorem ev_X12_undo {l : Launch} {g : aG} {d : Nat} (hd : 0 ≤ d) (h : aH) (p0 : Nat) (o : Int32 × aH) (hf : fn_X12_undo h p0 = some o) : EvM l g d yX12_undo cX12_undo 2 (some .int) [.ref p0] h (some (.int o.1), o.2) := by
  refine EvM.of mk_X12_undo (Nat.le_of_ble_eq_true rfl) ?_
  intro Γ hl hg hq X
  have hd1 : 0 ≤ d := by omega
  have hk : RqI Γ o := hq
  unfold fn_X12_undo at hf
  show Jd Γ (0, 0) 0 [some (.ref p0), none] [] h
  refine r_aload_n (pc := 0) X dX12_undo_0 rfl ?_
  refine r_iconst (pc := 1) X 0 dX12_undo_1 (by decide) ?_
  obtain ⟨h1, eh1, hf⟩ := ob hf
  refine r_putI (pc := 2) X dX12_undo_2 fp_X12_100 rfl eh1 ?_
  refine r_aload_n (pc := 5) X dX12_undo_5 rfl ?_
  obtain ⟨x2, ex2, hf⟩ := ob hf
  refine r_getI (pc := 6) X dX12_undo_6 fl_X12_163 rfl ex2 ?_
  refine r_if_ne (pc := 9) X 14 dX12_undo_9 (by decide) (fun c14 => ?_) (fun c14 => ?_)
  · rw [if_neg c14] at hf
    refine r_aload_n (pc := 14) X dX12_undo_14 rfl ?_
    refine r_dup (pc := 15) X dX12_undo_15 rfl ?_
    obtain ⟨x3, ex3, hf⟩ := ob hf
    refine r_getI (pc := 16) X dX12_undo_16 fl_X12_163 rfl ex3 ?_
    refine r_iconst (pc := 19) X 1 dX12_undo_19 (by decide) ?_
    refine r_isub (pc := 20) X dX12_undo_20 ?_
    obtain ⟨h4, eh4, hf⟩ := ob hf
    refine r_putI (pc := 21) X dX12_undo_21 fp_X12_163 rfl eh4 ?_
    refine r_iconst (pc := 24) X 0 dX12_undo_24 (by decide) ?_
    refine r_istore_n (pc := 25) X [some (.ref p0), some (.int 0)] dX12_undo_25 (by decide) rfl ?_
    obtain ⟨o13, eo13, hf⟩ := ob hf
    refine (lw_X12_undo_26 X hd _ lpN _ o13 eo13 ?_)
    obtain rfl := Option.some.inj hf
    exact hk
  · rw [if_pos c14] at hf
    refine r_iconst (pc := 12) X (-1) dX12_undo_12 (by decide) ?_
    obtain rfl := Option.some.inj hf
    exact r_iret (pc := 13) X dX12_undo_13 hk

theorem dX12_later_0 : decode cX12_later 0 = .ok (.aload_n 0, 1) := by decide +kernel
theorem dX12_later_1 : decode cX12_later 1 = .ok (.iconst 0, 1) := by decide +kernel
theorem dX12_later_2 : decode cX12_later 2 = .ok (.putfield 100, 3) := by decide +kernel
theorem dX12_later_5 : decode cX12_later 5 = .ok (.aload_n 0, 1) := by decide +kernel
theorem dX12_later_6 : decode cX12_later 6 = .ok (.iload_n 1, 1) := by decide +kernel
theorem dX12_later_7 : decode cX12_later 7 = .ok (.invokevirtual 114, 3) := by decide +kernel
theorem dX12_later_10 : decode cX12_later 10 = .ok (.ifCond .eq 13, 3) := by decide +kernel
theorem dX12_later_13 : decode cX12_later 13 = .ok (.iload_n 2, 1) := by decide +kernel
theorem dX12_later_14 : decode cX12_later 14 = .ok (.iconst 0, 1) := by decide +kernel
theorem dX12_later_15 : decode cX12_later 15 = .ok (.bipush 99, 2) := by decide +kernel
theorem dX12_later_17 : decode cX12_later 17 = .ok (.invokestatic 110, 3) := by decide +kernel
theorem dX12_later_20 : decode cX12_later 20 = .ok (.ifCond .ne 5, 3) := by decide +kernel
theorem dX12_later_23 : decode cX12_later 23 = .ok (.iconst (-1), 1) := by decide +kernel
theorem dX12_later_24 : decode cX12_later 24 = .ok (.ireturn, 1) := by decide +kernel
theorem dX12_later_25 : decode cX12_later 25 = .ok (.aload_n 0, 1) := by decide +kernel
theorem dX12_later_26 : decode cX12_later 26 = .ok (.iload_n 2, 1) := by decide +kernel
theorem dX12_later_27 : decode cX12_later 27 = .ok (.invokevirtual 303, 3) := by decide +kernel
theorem dX12_later_30 : decode cX12_later 30 = .ok (.aload_n 0, 1) := by decide +kernel
theorem dX12_later_31 : decode cX12_later 31 = .ok (.iconst 0, 1) := by decide +kernel
theorem dX12_later_32 : decode cX12_later 32 = .ok (.putfield 104, 3) := by decide +kernel
theorem dX12_later_35 : decode cX12_later 35 = .ok (.aload_n 0, 1) := by decide +kernel
theorem dX12_later_36 : decode cX12_later 36 = .ok (.aload_n 0, 1) := by decide +kernel
theorem dX12_later_37 : decode cX12_later 37 = .ok (.aload_n 0, 1) := by decide +kernel
theorem dX12_later_38 : decode cX12_later 38 = .ok (.getfield 48, 3) := by decide +kernel
theorem dX12_later_41 : decode cX12_later 41 = .ok (.iconst 0, 1) := by decide +kernel
theorem dX12_later_42 : decode cX12_later 42 = .ok (.invokevirtual 239, 3) := by decide +kernel
theorem dX12_later_45 : decode cX12_later 45 = .ok (.i2l, 1) := by decide +kernel
theorem dX12_later_46 : decode cX12_later 46 = .ok (.invokevirtual 274, 3) := by decide +kernel
theorem dX12_later_49 : decode cX12_later 49 = .ok (.aload_n 0, 1) := by decide +kernel
theorem dX12_later_50 : decode cX12_later 50 = .ok (.aload_n 0, 1) := by decide +kernel
theorem dX12_later_51 : decode cX12_later 51 = .ok (.getfield 48, 3) := by decide +kernel
theorem dX12_later_54 : decode cX12_later 54 = .ok (.bipush 12, 2) := by decide +kernel
theorem dX12_later_56 : decode cX12_later 56 = .ok (.iaload, 1) := by decide +kernel
theorem dX12_later_57 : decode cX12_later 57 = .ok (.i2l, 1) := by decide +kernel
theorem dX12_later_58 : decode cX12_later 58 = .ok (.invokevirtual 274, 3) := by decide +kernel
theorem dX12_later_61 : decode cX12_later 61 = .ok (.aload_n 0, 1) := by decide +kernel
theorem dX12_later_62 : decode cX12_later 62 = .ok (.getfield 48, 3) := by decide +kernel
theorem dX12_later_65 : decode cX12_later 65 = .ok (.iload_n 1, 1) := by decide +kernel
theorem dX12_later_66 : decode cX12_later 66 = .ok (.iaload, 1) := by decide +kernel
theorem dX12_later_67 : decode cX12_later 67 = .ok (.ireturn, 1) := by decide +kernel
def fn_X12_later (h : aH) (p0 : Nat) (p1 : Int32) (p2 : Int32) : Option (Int32 × aH) :=
  (pI h p0 11 11 0).bind fun h1 =>
  (ck h1 p0 11).bind fun u2 =>
  (fn_X12_isBasin h1 p0 p1).bind fun x3 =>
  if x3 = 0 then
    some ((-1), h1)
  else
    (fn_X12_in h1 p2 0 99).bind fun x4 =>
    if x4 = 0 then
      some ((-1), h1)
    else
      (ck h1 p0 11).bind fun u5 =>
      (fn_X12_goThen h1 p0 p2).bind fun h6 =>
      (pI h6 p0 11 10 0).bind fun h7 =>
      (gR h7 p0 11 26).bind fun a8 =>
      (ck h7 p0 11).bind fun u9 =>
      (fn_X12_sumOf h7 p0 a8 0).bind fun x10 =>
      (ck h7 p0 11).bind fun u11 =>
      (fn_X12_tell h7 p0 (Int32.toInt64 x10)).bind fun h12 =>
      (gR h12 p0 11 26).bind fun a13 =>
      (aI h12 a13 14 12).bind fun x14 =>
      (ck h12 p0 11).bind fun u15 =>
      (fn_X12_tell h12 p0 (Int32.toInt64 x14)).bind fun h16 =>
      (gR h16 p0 11 26).bind fun a17 =>
      (aI h16 a17 14 p1).bind fun x18 =>
      some (x18, h16)
set_option maxRecDepth 20000 in
set_option maxHeartbeats 4000000 in
theorem ev_X12_later {l : Launch} {g : aG} {d : Nat} (hd : 248 ≤ d) (h : aH) (p0 : Nat) (p1 : Int32) (p2 : Int32) (o : Int32 × aH) (hf : fn_X12_later h p0 p1 p2 = some o) : EvM l g d yX12_later cX12_later 3 (some .int) [.ref p0, .int p1, .int p2] h (some (.int o.1), o.2) := by
  refine EvM.of mk_X12_later (Nat.le_of_ble_eq_true rfl) ?_
  intro Γ hl hg hq X
  have hd1 : 1 ≤ d := by omega
  have hk : RqI Γ o := hq
  unfold fn_X12_later at hf
  show Jd Γ (0, 0) 0 [some (.ref p0), some (.int p1), some (.int p2)] [] h
  refine r_aload_n (pc := 0) X dX12_later_0 rfl ?_
  refine r_iconst (pc := 1) X 0 dX12_later_1 (by decide) ?_
  obtain ⟨h1, eh1, hf⟩ := ob hf
  refine r_putI (pc := 2) X dX12_later_2 fp_X12_100 rfl eh1 ?_
  refine r_aload_n (pc := 5) X dX12_later_5 rfl ?_
  refine r_iload_n (pc := 6) X dX12_later_6 rfl ?_
  obtain ⟨u2, eu2, hf⟩ := ob hf
  obtain ⟨x3, ex3, hf⟩ := ob hf
  refine r_callVI (pc := 7) X [.int p1] dX12_later_7 ml_X12_114 vo_X12_isBasin ⟨Nat.le_refl _, Nat.le_refl _⟩ eu2 (ev_X12_isBasin (d := d - 1) (by omega) _ _ _ _ ex3) hd1 rfl (Nat.le_of_ble_eq_true rfl) rfl ?_
  refine r_if_eq (pc := 10) X 23 dX12_later_10 (by decide) (fun c20 => ?_) (fun c20 => ?_)
  · rw [if_pos c20] at hf
    refine r_iconst (pc := 23) X (-1) dX12_later_23 (by decide) ?_
    obtain rfl := Option.some.inj hf
    exact r_iret (pc := 24) X dX12_later_24 hk
  · rw [if_neg c20] at hf
    refine r_iload_n (pc := 13) X dX12_later_13 rfl ?_
    refine r_iconst (pc := 14) X 0 dX12_later_14 (by decide) ?_
    refine r_bipush (pc := 15) X 99 dX12_later_15 (by decide) ?_
    obtain ⟨x4, ex4, hf⟩ := ob hf
    refine r_callSI (pc := 17) X [.int p2, .int 0, .int 99] dX12_later_17 ml_X12_110 so_X12_in ⟨Nat.le_refl _, Nat.le_refl _⟩ (ev_X12_in (d := d - 1) (by omega) _ _ _ _ _ ex4) hd1 rfl (Nat.le_of_ble_eq_true rfl) rfl ?_
    refine r_if_ne (pc := 20) X 25 dX12_later_20 (by decide) (fun c19 => ?_) (fun c19 => ?_)
    · rw [if_neg c19] at hf
      refine r_aload_n (pc := 25) X dX12_later_25 rfl ?_
      refine r_iload_n (pc := 26) X dX12_later_26 rfl ?_
      obtain ⟨u5, eu5, hf⟩ := ob hf
      obtain ⟨h6, eh6, hf⟩ := ob hf
      refine r_callVV (pc := 27) X [.int p2] dX12_later_27 ml_X12_303 vo_X12_goThen ⟨Nat.le_refl _, Nat.le_refl _⟩ eu5 (ev_X12_goThen (d := d - 1) (by omega) _ _ _ _ eh6) hd1 rfl (Nat.le_of_ble_eq_true rfl) rfl ?_
      refine r_aload_n (pc := 30) X dX12_later_30 rfl ?_
      refine r_iconst (pc := 31) X 0 dX12_later_31 (by decide) ?_
      obtain ⟨h7, eh7, hf⟩ := ob hf
      refine r_putI (pc := 32) X dX12_later_32 fp_X12_104 rfl eh7 ?_
      refine r_aload_n (pc := 35) X dX12_later_35 rfl ?_
      refine r_aload_n (pc := 36) X dX12_later_36 rfl ?_
      refine r_aload_n (pc := 37) X dX12_later_37 rfl ?_
      obtain ⟨a8, ea8, hf⟩ := ob hf
      refine r_getR (pc := 38) X dX12_later_38 fl_X12_48 rfl ea8 ?_
      refine r_iconst (pc := 41) X 0 dX12_later_41 (by decide) ?_
      obtain ⟨u9, eu9, hf⟩ := ob hf
      obtain ⟨x10, ex10, hf⟩ := ob hf
      refine r_callVI (pc := 42) X [.ref a8, .int 0] dX12_later_42 ml_X12_239 vo_X12_sumOf ⟨Nat.le_refl _, Nat.le_refl _⟩ eu9 (ev_X12_sumOf (d := d - 1) (by omega) _ _ _ _ _ ex10) hd1 rfl (Nat.le_of_ble_eq_true rfl) rfl ?_
      refine r_i2l (pc := 45) X dX12_later_45 ?_
      obtain ⟨u11, eu11, hf⟩ := ob hf
      obtain ⟨h12, eh12, hf⟩ := ob hf
      refine r_callVV (pc := 46) X [.long (Int32.toInt64 x10)] dX12_later_46 ml_X12_274 vo_X12_tell ⟨Nat.le_refl _, Nat.le_refl _⟩ eu11 (ev_X12_tell (d := d - 1) (by omega) _ _ _ _ eh12) hd1 rfl (Nat.le_of_ble_eq_true rfl) rfl ?_
      refine r_aload_n (pc := 49) X dX12_later_49 rfl ?_
      refine r_aload_n (pc := 50) X dX12_later_50 rfl ?_
      obtain ⟨a13, ea13, hf⟩ := ob hf
      refine r_getR (pc := 51) X dX12_later_51 fl_X12_48 rfl ea13 ?_
      refine r_bipush (pc := 54) X 12 dX12_later_54 (by decide) ?_
      obtain ⟨x14, ex14, hf⟩ := ob hf
      refine r_iald (pc := 56) X dX12_later_56 ex14 ?_
      refine r_i2l (pc := 57) X dX12_later_57 ?_
      obtain ⟨u15, eu15, hf⟩ := ob hf
      obtain ⟨h16, eh16, hf⟩ := ob hf
      refine r_callVV (pc := 58) X [.long (Int32.toInt64 x14)] dX12_later_58 ml_X12_274 vo_X12_tell ⟨Nat.le_refl _, Nat.le_refl _⟩ eu15 (ev_X12_tell (d := d - 1) (by omega) _ _ _ _ eh16) hd1 rfl (Nat.le_of_ble_eq_true rfl) rfl ?_
      refine r_aload_n (pc := 61) X dX12_later_61 rfl ?_
      obtain ⟨a17, ea17, hf⟩ := ob hf
      refine r_getR (pc := 62) X dX12_later_62 fl_X12_48 rfl ea17 ?_
      refine r_iload_n (pc := 65) X dX12_later_65 rfl ?_
      obtain ⟨x18, ex18, hf⟩ := ob hf
      refine r_iald (pc := 66) X dX12_later_66 ex18 ?_
      obtain rfl := Option.some.inj hf
      exact r_iret (pc := 67) X dX12_later_67 hk
    · rw [if_pos c19] at hf
      refine r_iconst (pc := 23) X (-1) dX12_later_23 (by decide) ?_
      obtain rfl := Option.some.inj hf
      exact r_iret (pc := 24) X dX12_later_24 hk

theorem dX12_isMarked_0 : decode cX12_isMarked 0 = .ok (.aload_n 1, 1) := by decide +kernel
theorem dX12_isMarked_1 : decode cX12_isMarked 1 = .ok (.iload_n 2, 1) := by decide +kernel
theorem dX12_isMarked_2 : decode cX12_isMarked 2 = .ok (.iaload, 1) := by decide +kernel
theorem dX12_isMarked_3 : decode cX12_isMarked 3 = .ok (.aload_n 1, 1) := by decide +kernel
theorem dX12_isMarked_4 : decode cX12_isMarked 4 = .ok (.bipush 6, 2) := by decide +kernel
theorem dX12_isMarked_6 : decode cX12_isMarked 6 = .ok (.iload_n 2, 1) := by decide +kernel
theorem dX12_isMarked_7 : decode cX12_isMarked 7 = .ok (.iadd, 1) := by decide +kernel
theorem dX12_isMarked_8 : decode cX12_isMarked 8 = .ok (.iaload, 1) := by decide +kernel
theorem dX12_isMarked_9 : decode cX12_isMarked 9 = .ok (.if_icmp .lt 7, 3) := by decide +kernel
theorem dX12_isMarked_12 : decode cX12_isMarked 12 = .ok (.iconst 1, 1) := by decide +kernel
theorem dX12_isMarked_13 : decode cX12_isMarked 13 = .ok (.goto 4, 3) := by decide +kernel
theorem dX12_isMarked_16 : decode cX12_isMarked 16 = .ok (.iconst 0, 1) := by decide +kernel
theorem dX12_isMarked_17 : decode cX12_isMarked 17 = .ok (.ireturn, 1) := by decide +kernel
def fn_X12_isMarked (h : aH) (p0 : Nat) (p1 : Nat) (p2 : Int32) : Option (Int32) :=
  (aI h p1 14 p2).bind fun x1 =>
  (aI h p1 14 (6 + p2)).bind fun x2 =>
  if x1 < x2 then
    some 0
  else
    some 1
set_option maxRecDepth 20000 in
set_option maxHeartbeats 4000000 in
theorem ev_X12_isMarked {l : Launch} {g : aG} {d : Nat} (hd : 0 ≤ d) (h : aH) (p0 : Nat) (p1 : Nat) (p2 : Int32) (o : Int32) (hf : fn_X12_isMarked h p0 p1 p2 = some o) : EvM l g d yX12_isMarked cX12_isMarked 3 (some .boolean) [.ref p0, .ref p1, .int p2] h (some (.int o), h) := by
  refine EvM.of mk_X12_isMarked (Nat.le_of_ble_eq_true rfl) ?_
  intro Γ hl hg hq X
  have hd1 : 0 ≤ d := by omega
  have hk : RpI h Γ o := hq
  unfold fn_X12_isMarked at hf
  show Jd Γ (0, 0) 0 [some (.ref p0), some (.ref p1), some (.int p2)] [] h
  refine r_aload_n (pc := 0) X dX12_isMarked_0 rfl ?_
  refine r_iload_n (pc := 1) X dX12_isMarked_1 rfl ?_
  obtain ⟨x1, ex1, hf⟩ := ob hf
  refine r_iald (pc := 2) X dX12_isMarked_2 ex1 ?_
  refine r_aload_n (pc := 3) X dX12_isMarked_3 rfl ?_
  refine r_bipush (pc := 4) X 6 dX12_isMarked_4 (by decide) ?_
  refine r_iload_n (pc := 6) X dX12_isMarked_6 rfl ?_
  refine r_iadd (pc := 7) X dX12_isMarked_7 ?_
  obtain ⟨x2, ex2, hf⟩ := ob hf
  refine r_iald (pc := 8) X dX12_isMarked_8 ex2 ?_
  refine r_icmp_lt (pc := 9) X 16 dX12_isMarked_9 (by decide) (fun c3 => ?_) (fun c3 => ?_)
  · rw [if_pos c3] at hf
    refine r_iconst (pc := 16) X 0 dX12_isMarked_16 (by decide) ?_
    obtain rfl := Option.some.inj hf
    exact r_zret (pc := 17) X dX12_isMarked_17 (Or.inl rfl) hk
  · rw [if_neg c3] at hf
    refine r_iconst (pc := 12) X 1 dX12_isMarked_12 (by decide) ?_
    refine r_goto (pc := 13) X 17 dX12_isMarked_13 (by decide) ?_
    obtain rfl := Option.some.inj hf
    exact r_zret (pc := 17) X dX12_isMarked_17 (Or.inr rfl) hk

theorem dX12_marked_0 : decode cX12_marked 0 = .ok (.aload_n 0, 1) := by decide +kernel
theorem dX12_marked_1 : decode cX12_marked 1 = .ok (.iconst 0, 1) := by decide +kernel
theorem dX12_marked_2 : decode cX12_marked 2 = .ok (.putfield 100, 3) := by decide +kernel
theorem dX12_marked_5 : decode cX12_marked 5 = .ok (.aload_n 0, 1) := by decide +kernel
theorem dX12_marked_6 : decode cX12_marked 6 = .ok (.iload_n 1, 1) := by decide +kernel
theorem dX12_marked_7 : decode cX12_marked 7 = .ok (.invokevirtual 114, 3) := by decide +kernel
theorem dX12_marked_10 : decode cX12_marked 10 = .ok (.ifCond .ne 5, 3) := by decide +kernel
theorem dX12_marked_13 : decode cX12_marked 13 = .ok (.iconst (-1), 1) := by decide +kernel
theorem dX12_marked_14 : decode cX12_marked 14 = .ok (.ireturn, 1) := by decide +kernel
theorem dX12_marked_15 : decode cX12_marked 15 = .ok (.aload_n 0, 1) := by decide +kernel
theorem dX12_marked_16 : decode cX12_marked 16 = .ok (.getfield 9, 3) := by decide +kernel
theorem dX12_marked_19 : decode cX12_marked 19 = .ok (.aload_n 0, 1) := by decide +kernel
theorem dX12_marked_20 : decode cX12_marked 20 = .ok (.getfield 48, 3) := by decide +kernel
theorem dX12_marked_23 : decode cX12_marked 23 = .ok (.iconst 0, 1) := by decide +kernel
theorem dX12_marked_24 : decode cX12_marked 24 = .ok (.invokestatic 242, 3) := by decide +kernel
theorem dX12_marked_27 : decode cX12_marked 27 = .ok (.bipush (-2), 2) := by decide +kernel
theorem dX12_marked_29 : decode cX12_marked 29 = .ok (.istore_n 2, 1) := by decide +kernel
theorem dX12_marked_30 : decode cX12_marked 30 = .ok (.iconst 0, 1) := by decide +kernel
theorem dX12_marked_31 : decode cX12_marked 31 = .ok (.istore_n 3, 1) := by decide +kernel
theorem dX12_marked_32 : decode cX12_marked 32 = .ok (.iconst 0, 1) := by decide +kernel
theorem dX12_marked_33 : decode cX12_marked 33 = .ok (.istore 4, 2) := by decide +kernel
theorem dX12_marked_35 : decode cX12_marked 35 = .ok (.iload 4, 2) := by decide +kernel
theorem dX12_marked_37 : decode cX12_marked 37 = .ok (.bipush 99, 2) := by decide +kernel
theorem dX12_marked_39 : decode cX12_marked 39 = .ok (.if_icmp .gt 45, 3) := by decide +kernel
theorem dX12_marked_42 : decode cX12_marked 42 = .ok (.aload_n 0, 1) := by decide +kernel
theorem dX12_marked_43 : decode cX12_marked 43 = .ok (.aload_n 0, 1) := by decide +kernel
theorem dX12_marked_44 : decode cX12_marked 44 = .ok (.getfield 48, 3) := by decide +kernel
theorem dX12_marked_47 : decode cX12_marked 47 = .ok (.iload_n 1, 1) := by decide +kernel
theorem dX12_marked_48 : decode cX12_marked 48 = .ok (.invokevirtual 306, 3) := by decide +kernel
theorem dX12_marked_51 : decode cX12_marked 51 = .ok (.ifCond .eq 19, 3) := by decide +kernel
theorem dX12_marked_54 : decode cX12_marked 54 = .ok (.iload_n 2, 1) := by decide +kernel
theorem dX12_marked_55 : decode cX12_marked 55 = .ok (.bipush (-2), 2) := by decide +kernel
theorem dX12_marked_57 : decode cX12_marked 57 = .ok (.if_icmp .ne 8, 3) := by decide +kernel
theorem dX12_marked_60 : decode cX12_marked 60 = .ok (.iload 4, 2) := by decide +kernel
theorem dX12_marked_62 : decode cX12_marked 62 = .ok (.goto 4, 3) := by decide +kernel
theorem dX12_marked_65 : decode cX12_marked 65 = .ok (.iload_n 2, 1) := by decide +kernel
theorem dX12_marked_66 : decode cX12_marked 66 = .ok (.istore_n 2, 1) := by decide +kernel
theorem dX12_marked_67 : decode cX12_marked 67 = .ok (.iinc 3 1, 3) := by decide +kernel
theorem dX12_marked_70 : decode cX12_marked 70 = .ok (.aload_n 0, 1) := by decide +kernel
theorem dX12_marked_71 : decode cX12_marked 71 = .ok (.aload_n 0, 1) := by decide +kernel
theorem dX12_marked_72 : decode cX12_marked 72 = .ok (.getfield 48, 3) := by decide +kernel
theorem dX12_marked_75 : decode cX12_marked 75 = .ok (.invokevirtual 260, 3) := by decide +kernel
theorem dX12_marked_78 : decode cX12_marked 78 = .ok (.iinc 4 1, 3) := by decide +kernel
theorem dX12_marked_81 : decode cX12_marked 81 = .ok (.goto (-46), 3) := by decide +kernel
theorem dX12_marked_84 : decode cX12_marked 84 = .ok (.iload_n 2, 1) := by decide +kernel
theorem dX12_marked_85 : decode cX12_marked 85 = .ok (.bipush (-2), 2) := by decide +kernel
theorem dX12_marked_87 : decode cX12_marked 87 = .ok (.if_icmp .ne 6, 3) := by decide +kernel
theorem dX12_marked_90 : decode cX12_marked 90 = .ok (.bipush (-2), 2) := by decide +kernel
theorem dX12_marked_92 : decode cX12_marked 92 = .ok (.ireturn, 1) := by decide +kernel
theorem dX12_marked_93 : decode cX12_marked 93 = .ok (.aload_n 0, 1) := by decide +kernel
theorem dX12_marked_94 : decode cX12_marked 94 = .ok (.iconst 0, 1) := by decide +kernel
theorem dX12_marked_95 : decode cX12_marked 95 = .ok (.putfield 104, 3) := by decide +kernel
theorem dX12_marked_98 : decode cX12_marked 98 = .ok (.aload_n 0, 1) := by decide +kernel
theorem dX12_marked_99 : decode cX12_marked 99 = .ok (.iload_n 3, 1) := by decide +kernel
theorem dX12_marked_100 : decode cX12_marked 100 = .ok (.i2l, 1) := by decide +kernel
theorem dX12_marked_101 : decode cX12_marked 101 = .ok (.invokevirtual 274, 3) := by decide +kernel
theorem dX12_marked_104 : decode cX12_marked 104 = .ok (.iload_n 2, 1) := by decide +kernel
theorem dX12_marked_105 : decode cX12_marked 105 = .ok (.ireturn, 1) := by decide +kernel
def lb_X12_marked_35 (v0 : Nat) (v1 : Int32) (s : Int32 × Int32 × Int32 × aH) : Option ((Int32 × Int32 × Int32 × aH) ⊕ ((Int32 × Int32 × aH))) :=
  if s.2.2.1 ≤ 99 then
    (gR s.2.2.2 v0 11 26).bind fun a7 =>
    (ck s.2.2.2 v0 11).bind fun u8 =>
    (fn_X12_isMarked s.2.2.2 v0 a7 v1).bind fun x9 =>
    ((
      if x9 = 0 then
        some (s.1, s.2.1)
      else
        if s.1 = (-2) then
          (some (s.2.1 + 1)).bind fun x16 =>
          some (s.2.2.1, x16)
        else
          (some (s.2.1 + 1)).bind fun x15 =>
          some (s.1, x15)
    ) : Option (Int32 × Int32)).bind fun t10 =>
    (gR s.2.2.2 v0 11 26).bind fun a11 =>
    (ck s.2.2.2 v0 11).bind fun u12 =>
    (fn_X12_goHour s.2.2.2 v0 a11).bind fun h13 =>
    (some (s.2.2.1 + 1)).bind fun x14 =>
    some (.inl (t10.1, t10.2, x14, h13))
  else
    some (.inr (s.1, s.2.1, s.2.2.2))
def hd_X12_marked_35 (Γ : aC) (v0 : Nat) (v1 : Int32) (s : Int32 × Int32 × Int32 × aH) : Prop := Jd Γ (0, 0) 35 [some (.ref v0), some (.int v1), some (.int s.1), some (.int s.2.1), some (.int s.2.2.1)] [] s.2.2.2
def ex_X12_marked_35 (Γ : aC) (v0 : Nat) (v1 : Int32) (r : (Int32 × Int32 × aH)) : Prop := (fun r => ∀ (j4 : Option Value), Jd Γ (0, 0) 84 [some (.ref v0), some (.int v1), some (.int r.1), some (.int r.2.1), j4] [] r.2.2) r
set_option maxRecDepth 20000 in
set_option maxHeartbeats 4000000 in
theorem lw_X12_marked_35 {Γ : aC} {d : Nat} (X : Cx Γ RX12 cX12_marked 5 (some .int) (d, 0, 0)) (hd : 246 ≤ d) (v0 : Nat) (v1 : Int32) : ∀ n s o, lp (lb_X12_marked_35 v0 v1) n s = some o → ex_X12_marked_35 Γ v0 v1 o → hd_X12_marked_35 Γ v0 v1 s := by
  have hd1 : 1 ≤ d := by omega
  refine J_lp _ _ _ ?_
  intro s o hf hk
  unfold lb_X12_marked_35 at hf
  refine r_iload (pc := 35) X dX12_marked_35 rfl ?_
  refine r_bipush (pc := 37) X 99 dX12_marked_37 (by decide) ?_
  refine r_icmp_gt (pc := 39) X 84 dX12_marked_39 (by decide) (fun c19 => ?_) (fun c19 => ?_)
  · rw [if_neg c19] at hf
    obtain rfl := Option.some.inj hf
    exact hk _
  · rw [if_pos c19] at hf
    refine r_aload_n (pc := 42) X dX12_marked_42 rfl ?_
    refine r_aload_n (pc := 43) X dX12_marked_43 rfl ?_
    obtain ⟨a7, ea7, hf⟩ := ob hf
    refine r_getR (pc := 44) X dX12_marked_44 fl_X12_48 rfl ea7 ?_
    refine r_iload_n (pc := 47) X dX12_marked_47 rfl ?_
    obtain ⟨u8, eu8, hf⟩ := ob hf
    obtain ⟨x9, ex9, hf⟩ := ob hf
    refine r_callVI (pc := 48) X [.ref a7, .int v1] dX12_marked_48 ml_X12_306 vo_X12_isMarked ⟨Nat.le_refl _, Nat.le_refl _⟩ eu8 (ev_X12_isMarked (d := d - 1) (by omega) _ _ _ _ _ ex9) hd1 rfl (Nat.le_of_ble_eq_true rfl) rfl ?_
    obtain ⟨t10, et10, hf⟩ := ob hf
    have Jt10 : Jd Γ (0, 0) 70 [some (.ref v0), some (.int v1), some (.int t10.1), some (.int t10.2), some (.int s.2.2.1)] [] s.2.2.2 := by
      refine r_aload_n (pc := 70) X dX12_marked_70 rfl ?_
      refine r_aload_n (pc := 71) X dX12_marked_71 rfl ?_
      obtain ⟨a11, ea11, hf⟩ := ob hf
      refine r_getR (pc := 72) X dX12_marked_72 fl_X12_48 rfl ea11 ?_
      obtain ⟨u12, eu12, hf⟩ := ob hf
      obtain ⟨h13, eh13, hf⟩ := ob hf
      refine r_callVV (pc := 75) X [.ref a11] dX12_marked_75 ml_X12_260 vo_X12_goHour ⟨Nat.le_refl _, Nat.le_refl _⟩ eu12 (ev_X12_goHour (d := d - 1) (by omega) _ _ _ _ eh13) hd1 rfl (Nat.le_of_ble_eq_true rfl) rfl ?_
      obtain ⟨x14, ex14, hf⟩ := ob hf
      refine r_iinc2 (pc := 78) X 1 [some (.ref v0), some (.int v1), some (.int t10.1), some (.int t10.2), some (.int x14)] dX12_marked_78 (by decide) rfl (by decide) ex14 rfl ?_
      refine r_goto (pc := 81) X 35 dX12_marked_81 (by decide) ?_
      obtain rfl := Option.some.inj hf
      exact hk
    refine r_if_eq (pc := 51) X 70 dX12_marked_51 (by decide) (fun c18 => ?_) (fun c18 => ?_)
    · rw [if_pos c18] at et10
      obtain rfl := Option.some.inj et10
      exact Jt10
    · rw [if_neg c18] at et10
      refine r_iload_n (pc := 54) X dX12_marked_54 rfl ?_
      refine r_bipush (pc := 55) X (-2) dX12_marked_55 (by decide) ?_
      refine r_icmp_ne (pc := 57) X 65 dX12_marked_57 (by decide) (fun c17 => ?_) (fun c17 => ?_)
      · rw [if_neg c17] at et10
        refine r_iload_n (pc := 65) X dX12_marked_65 rfl ?_
        refine r_istore_n (pc := 66) X [some (.ref v0), some (.int v1), some (.int s.1), some (.int s.2.1), some (.int s.2.2.1)] dX12_marked_66 (by decide) rfl ?_
        obtain ⟨x15, ex15, et10⟩ := ob et10
        refine r_iinc2 (pc := 67) X 1 [some (.ref v0), some (.int v1), some (.int s.1), some (.int x15), some (.int s.2.2.1)] dX12_marked_67 (by decide) rfl (by decide) ex15 rfl ?_
        obtain rfl := Option.some.inj et10
        exact Jt10
      · rw [if_pos c17] at et10
        refine r_iload (pc := 60) X dX12_marked_60 rfl ?_
        refine r_goto (pc := 62) X 66 dX12_marked_62 (by decide) ?_
        refine r_istore_n (pc := 66) X [some (.ref v0), some (.int v1), some (.int s.2.2.1), some (.int s.2.1), some (.int s.2.2.1)] dX12_marked_66 (by decide) rfl ?_
        obtain ⟨x16, ex16, et10⟩ := ob et10
        refine r_iinc2 (pc := 67) X 1 [some (.ref v0), some (.int v1), some (.int s.2.2.1), some (.int x16), some (.int s.2.2.1)] dX12_marked_67 (by decide) rfl (by decide) ex16 rfl ?_
        obtain rfl := Option.some.inj et10
        exact Jt10
def fn_X12_marked (h : aH) (p0 : Nat) (p1 : Int32) : Option (Int32 × aH) :=
  (pI h p0 11 11 0).bind fun h1 =>
  (ck h1 p0 11).bind fun u2 =>
  (fn_X12_isBasin h1 p0 p1).bind fun x3 =>
  if x3 = 0 then
    some ((-1), h1)
  else
    (gR h1 p0 11 0).bind fun a4 =>
    (gR h1 p0 11 26).bind fun a5 =>
    (fn_X12_lay h1 a4 a5 0).bind fun h6 =>
    (lp (lb_X12_marked_35 p0 p1) lpN ((-2), 0, 0, h6)).bind fun o20 =>
    if o20.1 = (-2) then
      some ((-2), o20.2.2)
    else
      (pI o20.2.2 p0 11 10 0).bind fun h22 =>
      (ck h22 p0 11).bind fun u23 =>
      (fn_X12_tell h22 p0 (Int32.toInt64 o20.2.1)).bind fun h24 =>
      some (o20.1, h24)
set_option maxRecDepth 20000 in
set_option maxHeartbeats 4000000 in
theorem ev_X12_marked {l : Launch} {g : aG} {d : Nat} (hd : 246 ≤ d) (h : aH) (p0 : Nat) (p1 : Int32) (o : Int32 × aH) (hf : fn_X12_marked h p0 p1 = some o) : EvM l g d yX12_marked cX12_marked 5 (some .int) [.ref p0, .int p1] h (some (.int o.1), o.2) := by
  refine EvM.of mk_X12_marked (Nat.le_of_ble_eq_true rfl) ?_
  intro Γ hl hg hq X
  have hd1 : 1 ≤ d := by omega
  have hk : RqI Γ o := hq
  unfold fn_X12_marked at hf
  show Jd Γ (0, 0) 0 [some (.ref p0), some (.int p1), none, none, none] [] h
  refine r_aload_n (pc := 0) X dX12_marked_0 rfl ?_
  refine r_iconst (pc := 1) X 0 dX12_marked_1 (by decide) ?_
  obtain ⟨h1, eh1, hf⟩ := ob hf
  refine r_putI (pc := 2) X dX12_marked_2 fp_X12_100 rfl eh1 ?_
  refine r_aload_n (pc := 5) X dX12_marked_5 rfl ?_
  refine r_iload_n (pc := 6) X dX12_marked_6 rfl ?_
  obtain ⟨u2, eu2, hf⟩ := ob hf
  obtain ⟨x3, ex3, hf⟩ := ob hf
  refine r_callVI (pc := 7) X [.int p1] dX12_marked_7 ml_X12_114 vo_X12_isBasin ⟨Nat.le_refl _, Nat.le_refl _⟩ eu2 (ev_X12_isBasin (d := d - 1) (by omega) _ _ _ _ ex3) hd1 rfl (Nat.le_of_ble_eq_true rfl) rfl ?_
  refine r_if_ne (pc := 10) X 15 dX12_marked_10 (by decide) (fun c26 => ?_) (fun c26 => ?_)
  · rw [if_neg c26] at hf
    refine r_aload_n (pc := 15) X dX12_marked_15 rfl ?_
    obtain ⟨a4, ea4, hf⟩ := ob hf
    refine r_getR (pc := 16) X dX12_marked_16 fl_X12_9 rfl ea4 ?_
    refine r_aload_n (pc := 19) X dX12_marked_19 rfl ?_
    obtain ⟨a5, ea5, hf⟩ := ob hf
    refine r_getR (pc := 20) X dX12_marked_20 fl_X12_48 rfl ea5 ?_
    refine r_iconst (pc := 23) X 0 dX12_marked_23 (by decide) ?_
    obtain ⟨h6, eh6, hf⟩ := ob hf
    refine r_callSV (pc := 24) X [.ref a4, .ref a5, .int 0] dX12_marked_24 ml_X12_242 so_X12_lay ⟨Nat.le_refl _, Nat.le_refl _⟩ (ev_X12_lay (d := d - 1) (by omega) _ _ _ _ _ eh6) hd1 rfl (Nat.le_of_ble_eq_true rfl) rfl ?_
    refine r_bipush (pc := 27) X (-2) dX12_marked_27 (by decide) ?_
    refine r_istore_n (pc := 29) X [some (.ref p0), some (.int p1), some (.int (-2)), none, none] dX12_marked_29 (by decide) rfl ?_
    refine r_iconst (pc := 30) X 0 dX12_marked_30 (by decide) ?_
    refine r_istore_n (pc := 31) X [some (.ref p0), some (.int p1), some (.int (-2)), some (.int 0), none] dX12_marked_31 (by decide) rfl ?_
    refine r_iconst (pc := 32) X 0 dX12_marked_32 (by decide) ?_
    refine r_istore (pc := 33) X [some (.ref p0), some (.int p1), some (.int (-2)), some (.int 0), some (.int 0)] dX12_marked_33 (by decide) rfl ?_
    obtain ⟨o20, eo20, hf⟩ := ob hf
    refine (lw_X12_marked_35 X hd _ _ lpN _ o20 eo20 ?_)
    intro j21
    refine r_iload_n (pc := 84) X dX12_marked_84 rfl ?_
    refine r_bipush (pc := 85) X (-2) dX12_marked_85 (by decide) ?_
    refine r_icmp_ne (pc := 87) X 93 dX12_marked_87 (by decide) (fun c25 => ?_) (fun c25 => ?_)
    · rw [if_neg c25] at hf
      refine r_aload_n (pc := 93) X dX12_marked_93 rfl ?_
      refine r_iconst (pc := 94) X 0 dX12_marked_94 (by decide) ?_
      obtain ⟨h22, eh22, hf⟩ := ob hf
      refine r_putI (pc := 95) X dX12_marked_95 fp_X12_104 rfl eh22 ?_
      refine r_aload_n (pc := 98) X dX12_marked_98 rfl ?_
      refine r_iload_n (pc := 99) X dX12_marked_99 rfl ?_
      refine r_i2l (pc := 100) X dX12_marked_100 ?_
      obtain ⟨u23, eu23, hf⟩ := ob hf
      obtain ⟨h24, eh24, hf⟩ := ob hf
      refine r_callVV (pc := 101) X [.long (Int32.toInt64 o20.2.1)] dX12_marked_101 ml_X12_274 vo_X12_tell ⟨Nat.le_refl _, Nat.le_refl _⟩ eu23 (ev_X12_tell (d := d - 1) (by omega) _ _ _ _ eh24) hd1 rfl (Nat.le_of_ble_eq_true rfl) rfl ?_
      refine r_iload_n (pc := 104) X dX12_marked_104 rfl ?_
      obtain rfl := Option.some.inj hf
      exact r_iret (pc := 105) X dX12_marked_105 hk
    · rw [if_pos c25] at hf
      refine r_bipush (pc := 90) X (-2) dX12_marked_90 (by decide) ?_
      obtain rfl := Option.some.inj hf
      exact r_iret (pc := 92) X dX12_marked_92 hk
  · rw [if_pos c26] at hf
    refine r_iconst (pc := 13) X (-1) dX12_marked_13 (by decide) ?_
    obtain rfl := Option.some.inj hf
    exact r_iret (pc := 14) X dX12_marked_14 hk

theorem dX12_layTrail_0 : decode cX12_layTrail 0 = .ok (.aload_n 0, 1) := by decide +kernel
theorem dX12_layTrail_1 : decode cX12_layTrail 1 = .ok (.getfield 9, 3) := by decide +kernel
theorem dX12_layTrail_4 : decode cX12_layTrail 4 = .ok (.aload_n 0, 1) := by decide +kernel
theorem dX12_layTrail_5 : decode cX12_layTrail 5 = .ok (.getfield 48, 3) := by decide +kernel
theorem dX12_layTrail_8 : decode cX12_layTrail 8 = .ok (.iconst 0, 1) := by decide +kernel
theorem dX12_layTrail_9 : decode cX12_layTrail 9 = .ok (.invokestatic 242, 3) := by decide +kernel
theorem dX12_layTrail_12 : decode cX12_layTrail 12 = .ok (.iconst 0, 1) := by decide +kernel
theorem dX12_layTrail_13 : decode cX12_layTrail 13 = .ok (.istore_n 2, 1) := by decide +kernel
theorem dX12_layTrail_14 : decode cX12_layTrail 14 = .ok (.iload_n 2, 1) := by decide +kernel
theorem dX12_layTrail_15 : decode cX12_layTrail 15 = .ok (.iload_n 1, 1) := by decide +kernel
theorem dX12_layTrail_16 : decode cX12_layTrail 16 = .ok (.if_icmp .gt 32, 3) := by decide +kernel
theorem dX12_layTrail_19 : decode cX12_layTrail 19 = .ok (.aload_n 0, 1) := by decide +kernel
theorem dX12_layTrail_20 : decode cX12_layTrail 20 = .ok (.getfield 48, 3) := by decide +kernel
theorem dX12_layTrail_23 : decode cX12_layTrail 23 = .ok (.aload_n 0, 1) := by decide +kernel
theorem dX12_layTrail_24 : decode cX12_layTrail 24 = .ok (.getfield 57, 3) := by decide +kernel
theorem dX12_layTrail_27 : decode cX12_layTrail 27 = .ok (.bipush 16, 2) := by decide +kernel
theorem dX12_layTrail_29 : decode cX12_layTrail 29 = .ok (.iload_n 2, 1) := by decide +kernel
theorem dX12_layTrail_30 : decode cX12_layTrail 30 = .ok (.imul, 1) := by decide +kernel
theorem dX12_layTrail_31 : decode cX12_layTrail 31 = .ok (.invokestatic 242, 3) := by decide +kernel
theorem dX12_layTrail_34 : decode cX12_layTrail 34 = .ok (.aload_n 0, 1) := by decide +kernel
theorem dX12_layTrail_35 : decode cX12_layTrail 35 = .ok (.aload_n 0, 1) := by decide +kernel
theorem dX12_layTrail_36 : decode cX12_layTrail 36 = .ok (.getfield 48, 3) := by decide +kernel
theorem dX12_layTrail_39 : decode cX12_layTrail 39 = .ok (.invokevirtual 260, 3) := by decide +kernel
theorem dX12_layTrail_42 : decode cX12_layTrail 42 = .ok (.iinc 2 1, 3) := by decide +kernel
theorem dX12_layTrail_45 : decode cX12_layTrail 45 = .ok (.goto (-31), 3) := by decide +kernel
theorem dX12_layTrail_48 : decode cX12_layTrail 48 = .ok (.return_, 1) := by decide +kernel
def lb_X12_layTrail_14 (v0 : Nat) (v1 : Int32) (s : Int32 × aH) : Option ((Int32 × aH) ⊕ ((aH))) :=
  if s.1 ≤ v1 then
    (gR s.2 v0 11 26).bind fun a4 =>
    (gR s.2 v0 11 31).bind fun a5 =>
    (fn_X12_lay s.2 a4 a5 (16 * s.1)).bind fun h6 =>
    (gR h6 v0 11 26).bind fun a7 =>
    (ck h6 v0 11).bind fun u8 =>
    (fn_X12_goHour h6 v0 a7).bind fun h9 =>
    (some (s.1 + 1)).bind fun x10 =>
    some (.inl (x10, h9))
  else
    some (.inr s.2)
def hd_X12_layTrail_14 (Γ : aC) (v0 : Nat) (v1 : Int32) (s : Int32 × aH) : Prop := Jd Γ (0, 0) 14 [some (.ref v0), some (.int v1), some (.int s.1)] [] s.2
def ex_X12_layTrail_14 (Γ : aC) (v0 : Nat) (v1 : Int32) (r : (aH)) : Prop := (fun r => RqV Γ r) r
set_option maxRecDepth 20000 in
set_option maxHeartbeats 4000000 in
theorem lw_X12_layTrail_14 {Γ : aC} {d : Nat} (X : Cx Γ RX12 cX12_layTrail 3 none (d, 0, 0)) (hd : 246 ≤ d) (v0 : Nat) (v1 : Int32) : ∀ n s o, lp (lb_X12_layTrail_14 v0 v1) n s = some o → ex_X12_layTrail_14 Γ v0 v1 o → hd_X12_layTrail_14 Γ v0 v1 s := by
  have hd1 : 1 ≤ d := by omega
  refine J_lp _ _ _ ?_
  intro s o hf hk
  unfold lb_X12_layTrail_14 at hf
  refine r_iload_n (pc := 14) X dX12_layTrail_14 rfl ?_
  refine r_iload_n (pc := 15) X dX12_layTrail_15 rfl ?_
  refine r_icmp_gt (pc := 16) X 48 dX12_layTrail_16 (by decide) (fun c11 => ?_) (fun c11 => ?_)
  · rw [if_neg c11] at hf
    obtain rfl := Option.some.inj hf
    exact r_vret (pc := 48) X dX12_layTrail_48 hk
  · rw [if_pos c11] at hf
    refine r_aload_n (pc := 19) X dX12_layTrail_19 rfl ?_
    obtain ⟨a4, ea4, hf⟩ := ob hf
    refine r_getR (pc := 20) X dX12_layTrail_20 fl_X12_48 rfl ea4 ?_
    refine r_aload_n (pc := 23) X dX12_layTrail_23 rfl ?_
    obtain ⟨a5, ea5, hf⟩ := ob hf
    refine r_getR (pc := 24) X dX12_layTrail_24 fl_X12_57 rfl ea5 ?_
    refine r_bipush (pc := 27) X 16 dX12_layTrail_27 (by decide) ?_
    refine r_iload_n (pc := 29) X dX12_layTrail_29 rfl ?_
    refine r_imul (pc := 30) X dX12_layTrail_30 ?_
    obtain ⟨h6, eh6, hf⟩ := ob hf
    refine r_callSV (pc := 31) X [.ref a4, .ref a5, .int (16 * s.1)] dX12_layTrail_31 ml_X12_242 so_X12_lay ⟨Nat.le_refl _, Nat.le_refl _⟩ (ev_X12_lay (d := d - 1) (by omega) _ _ _ _ _ eh6) hd1 rfl (Nat.le_of_ble_eq_true rfl) rfl ?_
    refine r_aload_n (pc := 34) X dX12_layTrail_34 rfl ?_
    refine r_aload_n (pc := 35) X dX12_layTrail_35 rfl ?_
    obtain ⟨a7, ea7, hf⟩ := ob hf
    refine r_getR (pc := 36) X dX12_layTrail_36 fl_X12_48 rfl ea7 ?_
    obtain ⟨u8, eu8, hf⟩ := ob hf
    obtain ⟨h9, eh9, hf⟩ := ob hf
    refine r_callVV (pc := 39) X [.ref a7] dX12_layTrail_39 ml_X12_260 vo_X12_goHour ⟨Nat.le_refl _, Nat.le_refl _⟩ eu8 (ev_X12_goHour (d := d - 1) (by omega) _ _ _ _ eh9) hd1 rfl (Nat.le_of_ble_eq_true rfl) rfl ?_
    obtain ⟨x10, ex10, hf⟩ := ob hf
    refine r_iinc2 (pc := 42) X 1 [some (.ref v0), some (.int v1), some (.int x10)] dX12_layTrail_42 (by decide) rfl (by decide) ex10 rfl ?_
    refine r_goto (pc := 45) X 14 dX12_layTrail_45 (by decide) ?_
    obtain rfl := Option.some.inj hf
    exact hk
def fn_X12_layTrail (h : aH) (p0 : Nat) (p1 : Int32) : Option (aH) :=
  (gR h p0 11 0).bind fun a1 =>
  (gR h p0 11 26).bind fun a2 =>
  (fn_X12_lay h a1 a2 0).bind fun h3 =>
  (lp (lb_X12_layTrail_14 p0 p1) lpN (0, h3)).bind fun o12 =>
  some o12
set_option maxRecDepth 20000 in
set_option maxHeartbeats 4000000 in
theorem ev_X12_layTrail {l : Launch} {g : aG} {d : Nat} (hd : 246 ≤ d) (h : aH) (p0 : Nat) (p1 : Int32) (o : aH) (hf : fn_X12_layTrail h p0 p1 = some o) : EvM l g d yX12_layTrail cX12_layTrail 3 none [.ref p0, .int p1] h (none, o) := by
  refine EvM.of mk_X12_layTrail (Nat.le_of_ble_eq_true rfl) ?_
  intro Γ hl hg hq X
  have hd1 : 1 ≤ d := by omega
  have hk : RqV Γ o := hq
  unfold fn_X12_layTrail at hf
  show Jd Γ (0, 0) 0 [some (.ref p0), some (.int p1), none] [] h
  refine r_aload_n (pc := 0) X dX12_layTrail_0 rfl ?_
  obtain ⟨a1, ea1, hf⟩ := ob hf
  refine r_getR (pc := 1) X dX12_layTrail_1 fl_X12_9 rfl ea1 ?_
  refine r_aload_n (pc := 4) X dX12_layTrail_4 rfl ?_
  obtain ⟨a2, ea2, hf⟩ := ob hf
  refine r_getR (pc := 5) X dX12_layTrail_5 fl_X12_48 rfl ea2 ?_
  refine r_iconst (pc := 8) X 0 dX12_layTrail_8 (by decide) ?_
  obtain ⟨h3, eh3, hf⟩ := ob hf
  refine r_callSV (pc := 9) X [.ref a1, .ref a2, .int 0] dX12_layTrail_9 ml_X12_242 so_X12_lay ⟨Nat.le_refl _, Nat.le_refl _⟩ (ev_X12_lay (d := d - 1) (by omega) _ _ _ _ _ eh3) hd1 rfl (Nat.le_of_ble_eq_true rfl) rfl ?_
  refine r_iconst (pc := 12) X 0 dX12_layTrail_12 (by decide) ?_
  refine r_istore_n (pc := 13) X [some (.ref p0), some (.int p1), some (.int 0)] dX12_layTrail_13 (by decide) rfl ?_
  obtain ⟨o12, eo12, hf⟩ := ob hf
  refine (lw_X12_layTrail_14 X hd _ _ lpN _ o12 eo12 ?_)
  obtain rfl := Option.some.inj hf
  exact hk

theorem dX12_areLevelsLike_0 : decode cX12_areLevelsLike 0 = .ok (.iconst 0, 1) := by decide +kernel
theorem dX12_areLevelsLike_1 : decode cX12_areLevelsLike 1 = .ok (.istore_n 3, 1) := by decide +kernel
theorem dX12_areLevelsLike_2 : decode cX12_areLevelsLike 2 = .ok (.iload_n 3, 1) := by decide +kernel
theorem dX12_areLevelsLike_3 : decode cX12_areLevelsLike 3 = .ok (.aload_n 0, 1) := by decide +kernel
theorem dX12_areLevelsLike_4 : decode cX12_areLevelsLike 4 = .ok (.getfield 107, 3) := by decide +kernel
theorem dX12_areLevelsLike_7 : decode cX12_areLevelsLike 7 = .ok (.if_icmp .ge 36, 3) := by decide +kernel
theorem dX12_areLevelsLike_10 : decode cX12_areLevelsLike 10 = .ok (.aload_n 0, 1) := by decide +kernel
theorem dX12_areLevelsLike_11 : decode cX12_areLevelsLike 11 = .ok (.getfield 57, 3) := by decide +kernel
theorem dX12_areLevelsLike_14 : decode cX12_areLevelsLike 14 = .ok (.bipush 16, 2) := by decide +kernel
theorem dX12_areLevelsLike_16 : decode cX12_areLevelsLike 16 = .ok (.iload_n 1, 1) := by decide +kernel
theorem dX12_areLevelsLike_17 : decode cX12_areLevelsLike 17 = .ok (.imul, 1) := by decide +kernel
theorem dX12_areLevelsLike_18 : decode cX12_areLevelsLike 18 = .ok (.iload_n 3, 1) := by decide +kernel
theorem dX12_areLevelsLike_19 : decode cX12_areLevelsLike 19 = .ok (.iadd, 1) := by decide +kernel
theorem dX12_areLevelsLike_20 : decode cX12_areLevelsLike 20 = .ok (.iaload, 1) := by decide +kernel
theorem dX12_areLevelsLike_21 : decode cX12_areLevelsLike 21 = .ok (.aload_n 0, 1) := by decide +kernel
theorem dX12_areLevelsLike_22 : decode cX12_areLevelsLike 22 = .ok (.getfield 57, 3) := by decide +kernel
theorem dX12_areLevelsLike_25 : decode cX12_areLevelsLike 25 = .ok (.bipush 16, 2) := by decide +kernel
theorem dX12_areLevelsLike_27 : decode cX12_areLevelsLike 27 = .ok (.iload_n 2, 1) := by decide +kernel
theorem dX12_areLevelsLike_28 : decode cX12_areLevelsLike 28 = .ok (.imul, 1) := by decide +kernel
theorem dX12_areLevelsLike_29 : decode cX12_areLevelsLike 29 = .ok (.iload_n 3, 1) := by decide +kernel
theorem dX12_areLevelsLike_30 : decode cX12_areLevelsLike 30 = .ok (.iadd, 1) := by decide +kernel
theorem dX12_areLevelsLike_31 : decode cX12_areLevelsLike 31 = .ok (.iaload, 1) := by decide +kernel
theorem dX12_areLevelsLike_32 : decode cX12_areLevelsLike 32 = .ok (.if_icmp .eq 5, 3) := by decide +kernel
theorem dX12_areLevelsLike_35 : decode cX12_areLevelsLike 35 = .ok (.iconst 0, 1) := by decide +kernel
theorem dX12_areLevelsLike_36 : decode cX12_areLevelsLike 36 = .ok (.ireturn, 1) := by decide +kernel
theorem dX12_areLevelsLike_37 : decode cX12_areLevelsLike 37 = .ok (.iinc 3 1, 3) := by decide +kernel
theorem dX12_areLevelsLike_40 : decode cX12_areLevelsLike 40 = .ok (.goto (-38), 3) := by decide +kernel
theorem dX12_areLevelsLike_43 : decode cX12_areLevelsLike 43 = .ok (.iconst 1, 1) := by decide +kernel
theorem dX12_areLevelsLike_44 : decode cX12_areLevelsLike 44 = .ok (.ireturn, 1) := by decide +kernel
def lb_X12_areLevelsLike_2 (hh : aH) (v0 : Nat) (v1 : Int32) (v2 : Int32) (s : Int32) : Option ((Int32) ⊕ ((Int32))) :=
  (gI hh v0 11 1).bind fun x1 =>
  if s < x1 then
    (gR hh v0 11 31).bind fun a2 =>
    (aI hh a2 14 ((16 * v1) + s)).bind fun x3 =>
    (gR hh v0 11 31).bind fun a4 =>
    (aI hh a4 14 ((16 * v2) + s)).bind fun x5 =>
    if x3 = x5 then
      (some (s + 1)).bind fun x6 =>
      some (.inl x6)
    else
      some (.inr 0)
  else
    some (.inr 1)
def hd_X12_areLevelsLike_2 (Γ : aC) (hh : aH) (v0 : Nat) (v1 : Int32) (v2 : Int32) (s : Int32) : Prop := Jd Γ (0, 0) 2 [some (.ref v0), some (.int v1), some (.int v2), some (.int s)] [] hh
def ex_X12_areLevelsLike_2 (Γ : aC) (hh : aH) (v0 : Nat) (v1 : Int32) (v2 : Int32) (r : (Int32)) : Prop := (fun r => RpI hh Γ r) r
set_option maxRecDepth 20000 in
set_option maxHeartbeats 4000000 in
theorem lw_X12_areLevelsLike_2 {Γ : aC} {d : Nat} (X : Cx Γ RX12 cX12_areLevelsLike 4 (some .boolean) (d, 0, 0)) (hd : 0 ≤ d) (hh : aH) (v0 : Nat) (v1 : Int32) (v2 : Int32) : ∀ n s o, lp (lb_X12_areLevelsLike_2 hh v0 v1 v2) n s = some o → ex_X12_areLevelsLike_2 Γ hh v0 v1 v2 o → hd_X12_areLevelsLike_2 Γ hh v0 v1 v2 s := by
  have hd1 : 0 ≤ d := by omega
  refine J_lp _ _ _ ?_
  intro s o hf hk
  unfold lb_X12_areLevelsLike_2 at hf
  refine r_iload_n (pc := 2) X dX12_areLevelsLike_2 rfl ?_
  refine r_aload_n (pc := 3) X dX12_areLevelsLike_3 rfl ?_
  obtain ⟨x1, ex1, hf⟩ := ob hf
  refine r_getI (pc := 4) X dX12_areLevelsLike_4 fl_X12_107 rfl ex1 ?_
  refine r_icmp_ge (pc := 7) X 43 dX12_areLevelsLike_7 (by decide) (fun c8 => ?_) (fun c8 => ?_)
  · rw [if_neg c8] at hf
    refine r_iconst (pc := 43) X 1 dX12_areLevelsLike_43 (by decide) ?_
    obtain rfl := Option.some.inj hf
    exact r_zret (pc := 44) X dX12_areLevelsLike_44 (Or.inr rfl) hk
  · rw [if_pos c8] at hf
    refine r_aload_n (pc := 10) X dX12_areLevelsLike_10 rfl ?_
    obtain ⟨a2, ea2, hf⟩ := ob hf
    refine r_getR (pc := 11) X dX12_areLevelsLike_11 fl_X12_57 rfl ea2 ?_
    refine r_bipush (pc := 14) X 16 dX12_areLevelsLike_14 (by decide) ?_
    refine r_iload_n (pc := 16) X dX12_areLevelsLike_16 rfl ?_
    refine r_imul (pc := 17) X dX12_areLevelsLike_17 ?_
    refine r_iload_n (pc := 18) X dX12_areLevelsLike_18 rfl ?_
    refine r_iadd (pc := 19) X dX12_areLevelsLike_19 ?_
    obtain ⟨x3, ex3, hf⟩ := ob hf
    refine r_iald (pc := 20) X dX12_areLevelsLike_20 ex3 ?_
    refine r_aload_n (pc := 21) X dX12_areLevelsLike_21 rfl ?_
    obtain ⟨a4, ea4, hf⟩ := ob hf
    refine r_getR (pc := 22) X dX12_areLevelsLike_22 fl_X12_57 rfl ea4 ?_
    refine r_bipush (pc := 25) X 16 dX12_areLevelsLike_25 (by decide) ?_
    refine r_iload_n (pc := 27) X dX12_areLevelsLike_27 rfl ?_
    refine r_imul (pc := 28) X dX12_areLevelsLike_28 ?_
    refine r_iload_n (pc := 29) X dX12_areLevelsLike_29 rfl ?_
    refine r_iadd (pc := 30) X dX12_areLevelsLike_30 ?_
    obtain ⟨x5, ex5, hf⟩ := ob hf
    refine r_iald (pc := 31) X dX12_areLevelsLike_31 ex5 ?_
    refine r_icmp_eq (pc := 32) X 37 dX12_areLevelsLike_32 (by decide) (fun c7 => ?_) (fun c7 => ?_)
    · rw [if_pos c7] at hf
      obtain ⟨x6, ex6, hf⟩ := ob hf
      refine r_iinc2 (pc := 37) X 1 [some (.ref v0), some (.int v1), some (.int v2), some (.int x6)] dX12_areLevelsLike_37 (by decide) rfl (by decide) ex6 rfl ?_
      refine r_goto (pc := 40) X 2 dX12_areLevelsLike_40 (by decide) ?_
      obtain rfl := Option.some.inj hf
      exact hk
    · rw [if_neg c7] at hf
      refine r_iconst (pc := 35) X 0 dX12_areLevelsLike_35 (by decide) ?_
      obtain rfl := Option.some.inj hf
      exact r_zret (pc := 36) X dX12_areLevelsLike_36 (Or.inl rfl) hk
def fn_X12_areLevelsLike (h : aH) (p0 : Nat) (p1 : Int32) (p2 : Int32) : Option (Int32) :=
  (lp (lb_X12_areLevelsLike_2 h p0 p1 p2) lpN 0).bind fun o9 =>
  some o9
set_option maxRecDepth 20000 in
set_option maxHeartbeats 4000000 in
theorem ev_X12_areLevelsLike {l : Launch} {g : aG} {d : Nat} (hd : 0 ≤ d) (h : aH) (p0 : Nat) (p1 : Int32) (p2 : Int32) (o : Int32) (hf : fn_X12_areLevelsLike h p0 p1 p2 = some o) : EvM l g d yX12_areLevelsLike cX12_areLevelsLike 4 (some .boolean) [.ref p0, .int p1, .int p2] h (some (.int o), h) := by
  refine EvM.of mk_X12_areLevelsLike (Nat.le_of_ble_eq_true rfl) ?_
  intro Γ hl hg hq X
  have hd1 : 0 ≤ d := by omega
  have hk : RpI h Γ o := hq
  unfold fn_X12_areLevelsLike at hf
  show Jd Γ (0, 0) 0 [some (.ref p0), some (.int p1), some (.int p2), none] [] h
  refine r_iconst (pc := 0) X 0 dX12_areLevelsLike_0 (by decide) ?_
  refine r_istore_n (pc := 1) X [some (.ref p0), some (.int p1), some (.int p2), some (.int 0)] dX12_areLevelsLike_1 (by decide) rfl ?_
  obtain ⟨o9, eo9, hf⟩ := ob hf
  refine (lw_X12_areLevelsLike_2 X hd _ _ _ _ lpN _ o9 eo9 ?_)
  obtain rfl := Option.some.inj hf
  exact hk

theorem dX12_sumAt_0 : decode cX12_sumAt 0 = .ok (.iconst 0, 1) := by decide +kernel
theorem dX12_sumAt_1 : decode cX12_sumAt 1 = .ok (.istore_n 2, 1) := by decide +kernel
theorem dX12_sumAt_2 : decode cX12_sumAt 2 = .ok (.iconst 0, 1) := by decide +kernel
theorem dX12_sumAt_3 : decode cX12_sumAt 3 = .ok (.istore_n 3, 1) := by decide +kernel
theorem dX12_sumAt_4 : decode cX12_sumAt 4 = .ok (.iload_n 3, 1) := by decide +kernel
theorem dX12_sumAt_5 : decode cX12_sumAt 5 = .ok (.aload_n 0, 1) := by decide +kernel
theorem dX12_sumAt_6 : decode cX12_sumAt 6 = .ok (.getfield 107, 3) := by decide +kernel
theorem dX12_sumAt_9 : decode cX12_sumAt 9 = .ok (.if_icmp .ge 23, 3) := by decide +kernel
theorem dX12_sumAt_12 : decode cX12_sumAt 12 = .ok (.iload_n 2, 1) := by decide +kernel
theorem dX12_sumAt_13 : decode cX12_sumAt 13 = .ok (.aload_n 0, 1) := by decide +kernel
theorem dX12_sumAt_14 : decode cX12_sumAt 14 = .ok (.getfield 57, 3) := by decide +kernel
theorem dX12_sumAt_17 : decode cX12_sumAt 17 = .ok (.bipush 16, 2) := by decide +kernel
theorem dX12_sumAt_19 : decode cX12_sumAt 19 = .ok (.iload_n 1, 1) := by decide +kernel
theorem dX12_sumAt_20 : decode cX12_sumAt 20 = .ok (.imul, 1) := by decide +kernel
theorem dX12_sumAt_21 : decode cX12_sumAt 21 = .ok (.iload_n 3, 1) := by decide +kernel
theorem dX12_sumAt_22 : decode cX12_sumAt 22 = .ok (.iadd, 1) := by decide +kernel
theorem dX12_sumAt_23 : decode cX12_sumAt 23 = .ok (.iaload, 1) := by decide +kernel
theorem dX12_sumAt_24 : decode cX12_sumAt 24 = .ok (.iadd, 1) := by decide +kernel
theorem dX12_sumAt_25 : decode cX12_sumAt 25 = .ok (.istore_n 2, 1) := by decide +kernel
theorem dX12_sumAt_26 : decode cX12_sumAt 26 = .ok (.iinc 3 1, 3) := by decide +kernel
theorem dX12_sumAt_29 : decode cX12_sumAt 29 = .ok (.goto (-25), 3) := by decide +kernel
theorem dX12_sumAt_32 : decode cX12_sumAt 32 = .ok (.iload_n 2, 1) := by decide +kernel
theorem dX12_sumAt_33 : decode cX12_sumAt 33 = .ok (.ireturn, 1) := by decide +kernel
def lb_X12_sumAt_4 (hh : aH) (v0 : Nat) (v1 : Int32) (s : Int32 × Int32) : Option ((Int32 × Int32) ⊕ ((Int32))) :=
  (gI hh v0 11 1).bind fun x1 =>
  if s.2 < x1 then
    (gR hh v0 11 31).bind fun a2 =>
    (aI hh a2 14 ((16 * v1) + s.2)).bind fun x3 =>
    (some (s.1 + x3)).bind fun x4 =>
    (some (s.2 + 1)).bind fun x5 =>
    some (.inl (x4, x5))
  else
    some (.inr s.1)
def hd_X12_sumAt_4 (Γ : aC) (hh : aH) (v0 : Nat) (v1 : Int32) (s : Int32 × Int32) : Prop := Jd Γ (0, 0) 4 [some (.ref v0), some (.int v1), some (.int s.1), some (.int s.2)] [] hh
def ex_X12_sumAt_4 (Γ : aC) (hh : aH) (v0 : Nat) (v1 : Int32) (r : (Int32)) : Prop := (fun r => RpI hh Γ r) r
set_option maxRecDepth 20000 in
set_option maxHeartbeats 4000000 in
theorem lw_X12_sumAt_4 {Γ : aC} {d : Nat} (X : Cx Γ RX12 cX12_sumAt 4 (some .int) (d, 0, 0)) (hd : 0 ≤ d) (hh : aH) (v0 : Nat) (v1 : Int32) : ∀ n s o, lp (lb_X12_sumAt_4 hh v0 v1) n s = some o → ex_X12_sumAt_4 Γ hh v0 v1 o → hd_X12_sumAt_4 Γ hh v0 v1 s := by
  have hd1 : 0 ≤ d := by omega
  refine J_lp _ _ _ ?_
  intro s o hf hk
  unfold lb_X12_sumAt_4 at hf
  refine r_iload_n (pc := 4) X dX12_sumAt_4 rfl ?_
  refine r_aload_n (pc := 5) X dX12_sumAt_5 rfl ?_
  obtain ⟨x1, ex1, hf⟩ := ob hf
  refine r_getI (pc := 6) X dX12_sumAt_6 fl_X12_107 rfl ex1 ?_
  refine r_icmp_ge (pc := 9) X 32 dX12_sumAt_9 (by decide) (fun c6 => ?_) (fun c6 => ?_)
  · rw [if_neg c6] at hf
    refine r_iload_n (pc := 32) X dX12_sumAt_32 rfl ?_
    obtain rfl := Option.some.inj hf
    exact r_iret (pc := 33) X dX12_sumAt_33 hk
  · rw [if_pos c6] at hf
    refine r_iload_n (pc := 12) X dX12_sumAt_12 rfl ?_
    refine r_aload_n (pc := 13) X dX12_sumAt_13 rfl ?_
    obtain ⟨a2, ea2, hf⟩ := ob hf
    refine r_getR (pc := 14) X dX12_sumAt_14 fl_X12_57 rfl ea2 ?_
    refine r_bipush (pc := 17) X 16 dX12_sumAt_17 (by decide) ?_
    refine r_iload_n (pc := 19) X dX12_sumAt_19 rfl ?_
    refine r_imul (pc := 20) X dX12_sumAt_20 ?_
    refine r_iload_n (pc := 21) X dX12_sumAt_21 rfl ?_
    refine r_iadd (pc := 22) X dX12_sumAt_22 ?_
    obtain ⟨x3, ex3, hf⟩ := ob hf
    refine r_iald (pc := 23) X dX12_sumAt_23 ex3 ?_
    refine r_iadd (pc := 24) X dX12_sumAt_24 ?_
    obtain ⟨x4, ex4, hf⟩ := ob hf
    refine r_nmI ex4 ?_
    refine r_istore_n (pc := 25) X [some (.ref v0), some (.int v1), some (.int x4), some (.int s.2)] dX12_sumAt_25 (by decide) rfl ?_
    obtain ⟨x5, ex5, hf⟩ := ob hf
    refine r_iinc2 (pc := 26) X 1 [some (.ref v0), some (.int v1), some (.int x4), some (.int x5)] dX12_sumAt_26 (by decide) rfl (by decide) ex5 rfl ?_
    refine r_goto (pc := 29) X 4 dX12_sumAt_29 (by decide) ?_
    obtain rfl := Option.some.inj hf
    exact hk
def fn_X12_sumAt (h : aH) (p0 : Nat) (p1 : Int32) : Option (Int32) :=
  (lp (lb_X12_sumAt_4 h p0 p1) lpN (0, 0)).bind fun o7 =>
  some o7
set_option maxRecDepth 20000 in
set_option maxHeartbeats 4000000 in
theorem ev_X12_sumAt {l : Launch} {g : aG} {d : Nat} (hd : 0 ≤ d) (h : aH) (p0 : Nat) (p1 : Int32) (o : Int32) (hf : fn_X12_sumAt h p0 p1 = some o) : EvM l g d yX12_sumAt cX12_sumAt 4 (some .int) [.ref p0, .int p1] h (some (.int o), h) := by
  refine EvM.of mk_X12_sumAt (Nat.le_of_ble_eq_true rfl) ?_
  intro Γ hl hg hq X
  have hd1 : 0 ≤ d := by omega
  have hk : RpI h Γ o := hq
  unfold fn_X12_sumAt at hf
  show Jd Γ (0, 0) 0 [some (.ref p0), some (.int p1), none, none] [] h
  refine r_iconst (pc := 0) X 0 dX12_sumAt_0 (by decide) ?_
  refine r_istore_n (pc := 1) X [some (.ref p0), some (.int p1), some (.int 0), none] dX12_sumAt_1 (by decide) rfl ?_
  refine r_iconst (pc := 2) X 0 dX12_sumAt_2 (by decide) ?_
  refine r_istore_n (pc := 3) X [some (.ref p0), some (.int p1), some (.int 0), some (.int 0)] dX12_sumAt_3 (by decide) rfl ?_
  obtain ⟨o7, eo7, hf⟩ := ob hf
  refine (lw_X12_sumAt_4 X hd _ _ _ lpN _ o7 eo7 ?_)
  obtain rfl := Option.some.inj hf
  exact hk

theorem dX12_round_0 : decode cX12_round 0 = .ok (.aload_n 0, 1) := by decide +kernel
theorem dX12_round_1 : decode cX12_round 1 = .ok (.iconst 0, 1) := by decide +kernel
theorem dX12_round_2 : decode cX12_round 2 = .ok (.putfield 100, 3) := by decide +kernel
theorem dX12_round_5 : decode cX12_round 5 = .ok (.aload_n 0, 1) := by decide +kernel
theorem dX12_round_6 : decode cX12_round 6 = .ok (.bipush 99, 2) := by decide +kernel
theorem dX12_round_8 : decode cX12_round 8 = .ok (.invokevirtual 309, 3) := by decide +kernel
theorem dX12_round_11 : decode cX12_round 11 = .ok (.iconst 1, 1) := by decide +kernel
theorem dX12_round_12 : decode cX12_round 12 = .ok (.istore_n 1, 1) := by decide +kernel
theorem dX12_round_13 : decode cX12_round 13 = .ok (.iload_n 1, 1) := by decide +kernel
theorem dX12_round_14 : decode cX12_round 14 = .ok (.bipush 99, 2) := by decide +kernel
theorem dX12_round_16 : decode cX12_round 16 = .ok (.if_icmp .gt 164, 3) := by decide +kernel
theorem dX12_round_19 : decode cX12_round 19 = .ok (.iconst 0, 1) := by decide +kernel
theorem dX12_round_20 : decode cX12_round 20 = .ok (.istore_n 2, 1) := by decide +kernel
theorem dX12_round_21 : decode cX12_round 21 = .ok (.iload_n 2, 1) := by decide +kernel
theorem dX12_round_22 : decode cX12_round 22 = .ok (.iload_n 1, 1) := by decide +kernel
theorem dX12_round_23 : decode cX12_round 23 = .ok (.if_icmp .ge 151, 3) := by decide +kernel
theorem dX12_round_26 : decode cX12_round 26 = .ok (.aload_n 0, 1) := by decide +kernel
theorem dX12_round_27 : decode cX12_round 27 = .ok (.iload_n 2, 1) := by decide +kernel
theorem dX12_round_28 : decode cX12_round 28 = .ok (.iload_n 1, 1) := by decide +kernel
theorem dX12_round_29 : decode cX12_round 29 = .ok (.invokevirtual 312, 3) := by decide +kernel
theorem dX12_round_32 : decode cX12_round 32 = .ok (.ifCond .eq 136, 3) := by decide +kernel
theorem dX12_round_35 : decode cX12_round 35 = .ok (.aload_n 0, 1) := by decide +kernel
theorem dX12_round_36 : decode cX12_round 36 = .ok (.getfield 57, 3) := by decide +kernel
theorem dX12_round_39 : decode cX12_round 39 = .ok (.bipush 16, 2) := by decide +kernel
theorem dX12_round_41 : decode cX12_round 41 = .ok (.iload_n 2, 1) := by decide +kernel
theorem dX12_round_42 : decode cX12_round 42 = .ok (.imul, 1) := by decide +kernel
theorem dX12_round_43 : decode cX12_round 43 = .ok (.bipush 12, 2) := by decide +kernel
theorem dX12_round_45 : decode cX12_round 45 = .ok (.iadd, 1) := by decide +kernel
theorem dX12_round_46 : decode cX12_round 46 = .ok (.iaload, 1) := by decide +kernel
theorem dX12_round_47 : decode cX12_round 47 = .ok (.aload_n 0, 1) := by decide +kernel
theorem dX12_round_48 : decode cX12_round 48 = .ok (.getfield 57, 3) := by decide +kernel
theorem dX12_round_51 : decode cX12_round 51 = .ok (.bipush 16, 2) := by decide +kernel
theorem dX12_round_53 : decode cX12_round 53 = .ok (.iload_n 1, 1) := by decide +kernel
theorem dX12_round_54 : decode cX12_round 54 = .ok (.imul, 1) := by decide +kernel
theorem dX12_round_55 : decode cX12_round 55 = .ok (.bipush 12, 2) := by decide +kernel
theorem dX12_round_57 : decode cX12_round 57 = .ok (.iadd, 1) := by decide +kernel
theorem dX12_round_58 : decode cX12_round 58 = .ok (.iaload, 1) := by decide +kernel
theorem dX12_round_59 : decode cX12_round 59 = .ok (.if_icmp .ne 109, 3) := by decide +kernel
theorem dX12_round_62 : decode cX12_round 62 = .ok (.iload_n 1, 1) := by decide +kernel
theorem dX12_round_63 : decode cX12_round 63 = .ok (.iload_n 2, 1) := by decide +kernel
theorem dX12_round_64 : decode cX12_round 64 = .ok (.isub, 1) := by decide +kernel
theorem dX12_round_65 : decode cX12_round 65 = .ok (.iconst 4, 1) := by decide +kernel
theorem dX12_round_66 : decode cX12_round 66 = .ok (.irem, 1) := by decide +kernel
theorem dX12_round_67 : decode cX12_round 67 = .ok (.ifCond .eq 6, 3) := by decide +kernel
theorem dX12_round_70 : decode cX12_round 70 = .ok (.goto 98, 3) := by decide +kernel
theorem dX12_round_73 : decode cX12_round 73 = .ok (.iconst 0, 1) := by decide +kernel
theorem dX12_round_74 : decode cX12_round 74 = .ok (.istore_n 3, 1) := by decide +kernel
theorem dX12_round_75 : decode cX12_round 75 = .ok (.iload_n 2, 1) := by decide +kernel
theorem dX12_round_76 : decode cX12_round 76 = .ok (.istore 4, 2) := by decide +kernel
theorem dX12_round_78 : decode cX12_round 78 = .ok (.iload 4, 2) := by decide +kernel
theorem dX12_round_80 : decode cX12_round 80 = .ok (.iload_n 1, 1) := by decide +kernel
theorem dX12_round_81 : decode cX12_round 81 = .ok (.if_icmp .ge 68, 3) := by decide +kernel
theorem dX12_round_84 : decode cX12_round 84 = .ok (.iconst 1, 1) := by decide +kernel
theorem dX12_round_85 : decode cX12_round 85 = .ok (.istore 5, 2) := by decide +kernel
theorem dX12_round_87 : decode cX12_round 87 = .ok (.iload_n 2, 1) := by decide +kernel
theorem dX12_round_88 : decode cX12_round 88 = .ok (.istore 6, 2) := by decide +kernel
theorem dX12_round_90 : decode cX12_round 90 = .ok (.iload 6, 2) := by decide +kernel
theorem dX12_round_92 : decode cX12_round 92 = .ok (.iload 4, 2) := by decide +kernel
theorem dX12_round_94 : decode cX12_round 94 = .ok (.if_icmp .ge 36, 3) := by decide +kernel
theorem dX12_round_97 : decode cX12_round 97 = .ok (.iload 5, 2) := by decide +kernel
theorem dX12_round_99 : decode cX12_round 99 = .ok (.ifCond .eq 22, 3) := by decide +kernel
theorem dX12_round_102 : decode cX12_round 102 = .ok (.aload_n 0, 1) := by decide +kernel
theorem dX12_round_103 : decode cX12_round 103 = .ok (.iload 6, 2) := by decide +kernel
theorem dX12_round_105 : decode cX12_round 105 = .ok (.invokevirtual 315, 3) := by decide +kernel
theorem dX12_round_108 : decode cX12_round 108 = .ok (.aload_n 0, 1) := by decide +kernel
theorem dX12_round_109 : decode cX12_round 109 = .ok (.iload 4, 2) := by decide +kernel
theorem dX12_round_111 : decode cX12_round 111 = .ok (.invokevirtual 315, 3) := by decide +kernel
theorem dX12_round_114 : decode cX12_round 114 = .ok (.if_icmp .eq 7, 3) := by decide +kernel
theorem dX12_round_117 : decode cX12_round 117 = .ok (.iconst 1, 1) := by decide +kernel
theorem dX12_round_118 : decode cX12_round 118 = .ok (.goto 4, 3) := by decide +kernel
theorem dX12_round_121 : decode cX12_round 121 = .ok (.iconst 0, 1) := by decide +kernel
theorem dX12_round_122 : decode cX12_round 122 = .ok (.istore 5, 2) := by decide +kernel
theorem dX12_round_124 : decode cX12_round 124 = .ok (.iinc 6 1, 3) := by decide +kernel
theorem dX12_round_127 : decode cX12_round 127 = .ok (.goto (-37), 3) := by decide +kernel
theorem dX12_round_130 : decode cX12_round 130 = .ok (.iload_n 3, 1) := by decide +kernel
theorem dX12_round_131 : decode cX12_round 131 = .ok (.iload 5, 2) := by decide +kernel
theorem dX12_round_133 : decode cX12_round 133 = .ok (.ifCond .eq 7, 3) := by decide +kernel
theorem dX12_round_136 : decode cX12_round 136 = .ok (.iconst 1, 1) := by decide +kernel
theorem dX12_round_137 : decode cX12_round 137 = .ok (.goto 4, 3) := by decide +kernel
theorem dX12_round_140 : decode cX12_round 140 = .ok (.iconst 0, 1) := by decide +kernel
theorem dX12_round_141 : decode cX12_round 141 = .ok (.iadd, 1) := by decide +kernel
theorem dX12_round_142 : decode cX12_round 142 = .ok (.istore_n 3, 1) := by decide +kernel
theorem dX12_round_143 : decode cX12_round 143 = .ok (.iinc 4 1, 3) := by decide +kernel
theorem dX12_round_146 : decode cX12_round 146 = .ok (.goto (-68), 3) := by decide +kernel
theorem dX12_round_149 : decode cX12_round 149 = .ok (.aload_n 0, 1) := by decide +kernel
theorem dX12_round_150 : decode cX12_round 150 = .ok (.iconst 0, 1) := by decide +kernel
theorem dX12_round_151 : decode cX12_round 151 = .ok (.putfield 104, 3) := by decide +kernel
theorem dX12_round_154 : decode cX12_round 154 = .ok (.aload_n 0, 1) := by decide +kernel
theorem dX12_round_155 : decode cX12_round 155 = .ok (.iload_n 2, 1) := by decide +kernel
theorem dX12_round_156 : decode cX12_round 156 = .ok (.i2l, 1) := by decide +kernel
theorem dX12_round_157 : decode cX12_round 157 = .ok (.invokevirtual 274, 3) := by decide +kernel
theorem dX12_round_160 : decode cX12_round 160 = .ok (.aload_n 0, 1) := by decide +kernel
theorem dX12_round_161 : decode cX12_round 161 = .ok (.iload_n 3, 1) := by decide +kernel
theorem dX12_round_162 : decode cX12_round 162 = .ok (.i2l, 1) := by decide +kernel
theorem dX12_round_163 : decode cX12_round 163 = .ok (.invokevirtual 274, 3) := by decide +kernel
theorem dX12_round_166 : decode cX12_round 166 = .ok (.iload_n 1, 1) := by decide +kernel
theorem dX12_round_167 : decode cX12_round 167 = .ok (.ireturn, 1) := by decide +kernel
theorem dX12_round_168 : decode cX12_round 168 = .ok (.iinc 2 1, 3) := by decide +kernel
theorem dX12_round_171 : decode cX12_round 171 = .ok (.goto (-150), 3) := by decide +kernel
theorem dX12_round_174 : decode cX12_round 174 = .ok (.iinc 1 1, 3) := by decide +kernel
theorem dX12_round_177 : decode cX12_round 177 = .ok (.goto (-164), 3) := by decide +kernel
theorem dX12_round_180 : decode cX12_round 180 = .ok (.bipush (-2), 2) := by decide +kernel
theorem dX12_round_182 : decode cX12_round 182 = .ok (.ireturn, 1) := by decide +kernel
def lb_X12_round_21 (hh : aH) (v0 : Nat) (v1 : Int32) (s : Int32) : Option ((Int32) ⊕ ((Int32) ⊕ (Unit))) :=
  if s < v1 then
    (ck hh v0 11).bind fun u4 =>
    (fn_X12_areLevelsLike hh v0 s v1).bind fun x5 =>
    if x5 = 0 then
      (some (s + 1)).bind fun x6 =>
      some (.inl x6)
    else
      (gR hh v0 11 31).bind fun a7 =>
      (aI hh a7 14 ((16 * s) + 12)).bind fun x8 =>
      (gR hh v0 11 31).bind fun a9 =>
      (aI hh a9 14 ((16 * v1) + 12)).bind fun x10 =>
      if x8 = x10 then
        (irm (v1 - s) 4).bind fun x12 =>
        if x12 = 0 then
          some (.inr (.inl s))
        else
          (some (s + 1)).bind fun x13 =>
          some (.inl x13)
      else
        (some (s + 1)).bind fun x11 =>
        some (.inl x11)
  else
    some (.inr (.inr ()))
def hd_X12_round_21 (Γ : aC) (hh : aH) (v0 : Nat) (v1 : Int32) (s : Int32) : Prop := ∀ (j3 : Option Value) (j4 : Option Value) (j5 : Option Value) (j6 : Option Value), Jd Γ (0, 0) 21 [some (.ref v0), some (.int v1), some (.int s), j3, j4, j5, j6] [] hh
def ex_X12_round_21 (Γ : aC) (hh : aH) (v0 : Nat) (v1 : Int32) (r : (Int32) ⊕ (Unit)) : Prop := (Sum.elim (fun r => ∀ (j3 : Option Value) (j4 : Option Value) (j5 : Option Value) (j6 : Option Value), Jd Γ (0, 0) 73 [some (.ref v0), some (.int v1), some (.int r), j3, j4, j5, j6] [] hh) (fun r => ∀ (j2 : Option Value) (j3 : Option Value) (j4 : Option Value) (j5 : Option Value) (j6 : Option Value), Jd Γ (0, 0) 174 [some (.ref v0), some (.int v1), j2, j3, j4, j5, j6] [] hh)) r
set_option maxRecDepth 20000 in
set_option maxHeartbeats 4000000 in
theorem lw_X12_round_21 {Γ : aC} {d : Nat} (X : Cx Γ RX12 cX12_round 7 (some .int) (d, 0, 0)) (hd : 247 ≤ d) (hh : aH) (v0 : Nat) (v1 : Int32) : ∀ n s o, lp (lb_X12_round_21 hh v0 v1) n s = some o → ex_X12_round_21 Γ hh v0 v1 o → hd_X12_round_21 Γ hh v0 v1 s := by
  have hd1 : 1 ≤ d := by omega
  refine J_lp _ _ _ ?_
  intro s o hf hk j3 j4 j5 j6
  unfold lb_X12_round_21 at hf
  refine r_iload_n (pc := 21) X dX12_round_21 rfl ?_
  refine r_iload_n (pc := 22) X dX12_round_22 rfl ?_
  refine r_icmp_ge (pc := 23) X 174 dX12_round_23 (by decide) (fun c17 => ?_) (fun c17 => ?_)
  · rw [if_neg c17] at hf
    obtain rfl := Option.some.inj hf
    exact hk _ _ _ _ _
  · rw [if_pos c17] at hf
    refine r_aload_n (pc := 26) X dX12_round_26 rfl ?_
    refine r_iload_n (pc := 27) X dX12_round_27 rfl ?_
    refine r_iload_n (pc := 28) X dX12_round_28 rfl ?_
    obtain ⟨u4, eu4, hf⟩ := ob hf
    obtain ⟨x5, ex5, hf⟩ := ob hf
    refine r_callVI (pc := 29) X [.int s, .int v1] dX12_round_29 ml_X12_312 vo_X12_areLevelsLike ⟨Nat.le_refl _, Nat.le_refl _⟩ eu4 (ev_X12_areLevelsLike (d := d - 1) (by omega) _ _ _ _ _ ex5) hd1 rfl (Nat.le_of_ble_eq_true rfl) rfl ?_
    refine r_if_eq (pc := 32) X 168 dX12_round_32 (by decide) (fun c16 => ?_) (fun c16 => ?_)
    · rw [if_pos c16] at hf
      obtain ⟨x6, ex6, hf⟩ := ob hf
      refine r_iinc2 (pc := 168) X 1 [some (.ref v0), some (.int v1), some (.int x6), j3, j4, j5, j6] dX12_round_168 (by decide) rfl (by decide) ex6 rfl ?_
      refine r_goto (pc := 171) X 21 dX12_round_171 (by decide) ?_
      obtain rfl := Option.some.inj hf
      exact hk _ _ _ _
    · rw [if_neg c16] at hf
      refine r_aload_n (pc := 35) X dX12_round_35 rfl ?_
      obtain ⟨a7, ea7, hf⟩ := ob hf
      refine r_getR (pc := 36) X dX12_round_36 fl_X12_57 rfl ea7 ?_
      refine r_bipush (pc := 39) X 16 dX12_round_39 (by decide) ?_
      refine r_iload_n (pc := 41) X dX12_round_41 rfl ?_
      refine r_imul (pc := 42) X dX12_round_42 ?_
      refine r_bipush (pc := 43) X 12 dX12_round_43 (by decide) ?_
      refine r_iadd (pc := 45) X dX12_round_45 ?_
      obtain ⟨x8, ex8, hf⟩ := ob hf
      refine r_iald (pc := 46) X dX12_round_46 ex8 ?_
      refine r_aload_n (pc := 47) X dX12_round_47 rfl ?_
      obtain ⟨a9, ea9, hf⟩ := ob hf
      refine r_getR (pc := 48) X dX12_round_48 fl_X12_57 rfl ea9 ?_
      refine r_bipush (pc := 51) X 16 dX12_round_51 (by decide) ?_
      refine r_iload_n (pc := 53) X dX12_round_53 rfl ?_
      refine r_imul (pc := 54) X dX12_round_54 ?_
      refine r_bipush (pc := 55) X 12 dX12_round_55 (by decide) ?_
      refine r_iadd (pc := 57) X dX12_round_57 ?_
      obtain ⟨x10, ex10, hf⟩ := ob hf
      refine r_iald (pc := 58) X dX12_round_58 ex10 ?_
      refine r_icmp_ne (pc := 59) X 168 dX12_round_59 (by decide) (fun c15 => ?_) (fun c15 => ?_)
      · rw [if_neg c15] at hf
        obtain ⟨x11, ex11, hf⟩ := ob hf
        refine r_iinc2 (pc := 168) X 1 [some (.ref v0), some (.int v1), some (.int x11), j3, j4, j5, j6] dX12_round_168 (by decide) rfl (by decide) ex11 rfl ?_
        refine r_goto (pc := 171) X 21 dX12_round_171 (by decide) ?_
        obtain rfl := Option.some.inj hf
        exact hk _ _ _ _
      · rw [if_pos c15] at hf
        refine r_iload_n (pc := 62) X dX12_round_62 rfl ?_
        refine r_iload_n (pc := 63) X dX12_round_63 rfl ?_
        refine r_isub (pc := 64) X dX12_round_64 ?_
        refine r_iconst (pc := 65) X 4 dX12_round_65 (by decide) ?_
        obtain ⟨x12, ex12, hf⟩ := ob hf
        refine r_irem (pc := 66) X dX12_round_66 ex12 ?_
        refine r_if_eq (pc := 67) X 73 dX12_round_67 (by decide) (fun c14 => ?_) (fun c14 => ?_)
        · rw [if_pos c14] at hf
          obtain rfl := Option.some.inj hf
          exact hk _ _ _ _
        · rw [if_neg c14] at hf
          refine r_goto (pc := 70) X 168 dX12_round_70 (by decide) ?_
          obtain ⟨x13, ex13, hf⟩ := ob hf
          refine r_iinc2 (pc := 168) X 1 [some (.ref v0), some (.int v1), some (.int x13), j3, j4, j5, j6] dX12_round_168 (by decide) rfl (by decide) ex13 rfl ?_
          refine r_goto (pc := 171) X 21 dX12_round_171 (by decide) ?_
          obtain rfl := Option.some.inj hf
          exact hk _ _ _ _
def lb_X12_round_13 (hh : aH) (v0 : Nat) (s : Int32) : Option ((Int32) ⊕ ((Int32 × Int32) ⊕ (Int32 × aH))) :=
  if s ≤ 99 then
    (lp (lb_X12_round_21 hh v0 s) lpN 0).bind fun o18 =>
    Sum.elim (fun o19 =>
      some (.inr (.inl (s, o19)))
    ) (fun o20 =>
      (some (s + 1)).bind fun x30 =>
      some (.inl x30)
    ) o18
  else
    some (.inr (.inr ((-2), hh)))
def hd_X12_round_13 (Γ : aC) (hh : aH) (v0 : Nat) (s : Int32) : Prop := ∀ (j2 : Option Value) (j3 : Option Value) (j4 : Option Value) (j5 : Option Value) (j6 : Option Value), Jd Γ (0, 0) 13 [some (.ref v0), some (.int s), j2, j3, j4, j5, j6] [] hh
def ex_X12_round_13 (Γ : aC) (hh : aH) (v0 : Nat) (r : (Int32 × Int32) ⊕ (Int32 × aH)) : Prop := (Sum.elim (fun r => ∀ (j3 : Option Value) (j4 : Option Value) (j5 : Option Value) (j6 : Option Value), Jd Γ (0, 0) 73 [some (.ref v0), some (.int r.1), some (.int r.2), j3, j4, j5, j6] [] hh) (fun r => RqI Γ r)) r
set_option maxRecDepth 20000 in
set_option maxHeartbeats 4000000 in
theorem lw_X12_round_13 {Γ : aC} {d : Nat} (X : Cx Γ RX12 cX12_round 7 (some .int) (d, 0, 0)) (hd : 247 ≤ d) (hh : aH) (v0 : Nat) : ∀ n s o, lp (lb_X12_round_13 hh v0) n s = some o → ex_X12_round_13 Γ hh v0 o → hd_X12_round_13 Γ hh v0 s := by
  have hd1 : 1 ≤ d := by omega
  refine J_lp _ _ _ ?_
  intro s o hf hk j2 j3 j4 j5 j6
  unfold lb_X12_round_13 at hf
  refine r_iload_n (pc := 13) X dX12_round_13 rfl ?_
  refine r_bipush (pc := 14) X 99 dX12_round_14 (by decide) ?_
  refine r_icmp_gt (pc := 16) X 180 dX12_round_16 (by decide) (fun c31 => ?_) (fun c31 => ?_)
  · rw [if_neg c31] at hf
    refine r_bipush (pc := 180) X (-2) dX12_round_180 (by decide) ?_
    obtain rfl := Option.some.inj hf
    exact r_iret (pc := 182) X dX12_round_182 hk
  · rw [if_pos c31] at hf
    refine r_iconst (pc := 19) X 0 dX12_round_19 (by decide) ?_
    refine r_istore_n (pc := 20) X [some (.ref v0), some (.int s), some (.int 0), j3, j4, j5, j6] dX12_round_20 (by decide) rfl ?_
    obtain ⟨o18, eo18, hf⟩ := ob hf
    refine (lw_X12_round_21 X hd _ _ _ lpN _ o18 eo18 ?_) _ _ _ _
    rcases o18 with o19 | o20
    · simp only [Sum.elim_inl] at hf
      intro j21 j22 j23 j24
      obtain rfl := Option.some.inj hf
      exact hk _ _ _ _
    · simp only [Sum.elim_inr] at hf
      intro j25 j26 j27 j28 j29
      obtain ⟨x30, ex30, hf⟩ := ob hf
      refine r_iinc2 (pc := 174) X 1 [some (.ref v0), some (.int x30), j25, j26, j27, j28, j29] dX12_round_174 (by decide) rfl (by decide) ex30 rfl ?_
      refine r_goto (pc := 177) X 13 dX12_round_177 (by decide) ?_
      obtain rfl := Option.some.inj hf
      exact hk _ _ _ _ _
def lb_X12_round_90 (hh : aH) (v0 : Nat) (v1 : Int32) (v2 : Int32) (v3 : Int32) (v4 : Int32) (s : Int32 × Int32) : Option ((Int32 × Int32) ⊕ ((Int32))) :=
  if s.2 < v4 then
    if s.1 = 0 then
      (some (s.2 + 1)).bind fun x39 =>
      some (.inl (0, x39))
    else
      (ck hh v0 11).bind fun u40 =>
      (fn_X12_sumAt hh v0 s.2).bind fun x41 =>
      (ck hh v0 11).bind fun u42 =>
      (fn_X12_sumAt hh v0 v4).bind fun x43 =>
      if x41 = x43 then
        (some (s.2 + 1)).bind fun x44 =>
        some (.inl (0, x44))
      else
        (some (s.2 + 1)).bind fun x45 =>
        some (.inl (1, x45))
  else
    some (.inr s.1)
def hd_X12_round_90 (Γ : aC) (hh : aH) (v0 : Nat) (v1 : Int32) (v2 : Int32) (v3 : Int32) (v4 : Int32) (s : Int32 × Int32) : Prop := Jd Γ (0, 0) 90 [some (.ref v0), some (.int v1), some (.int v2), some (.int v3), some (.int v4), some (.int s.1), some (.int s.2)] [] hh
def ex_X12_round_90 (Γ : aC) (hh : aH) (v0 : Nat) (v1 : Int32) (v2 : Int32) (v3 : Int32) (v4 : Int32) (r : (Int32)) : Prop := (fun r => ∀ (j6 : Option Value), Jd Γ (0, 0) 130 [some (.ref v0), some (.int v1), some (.int v2), some (.int v3), some (.int v4), some (.int r), j6] [] hh) r
set_option maxRecDepth 20000 in
set_option maxHeartbeats 4000000 in
theorem lw_X12_round_90 {Γ : aC} {d : Nat} (X : Cx Γ RX12 cX12_round 7 (some .int) (d, 0, 0)) (hd : 247 ≤ d) (hh : aH) (v0 : Nat) (v1 : Int32) (v2 : Int32) (v3 : Int32) (v4 : Int32) : ∀ n s o, lp (lb_X12_round_90 hh v0 v1 v2 v3 v4) n s = some o → ex_X12_round_90 Γ hh v0 v1 v2 v3 v4 o → hd_X12_round_90 Γ hh v0 v1 v2 v3 v4 s := by
  have hd1 : 1 ≤ d := by omega
  refine J_lp _ _ _ ?_
  intro s o hf hk
  unfold lb_X12_round_90 at hf
  refine r_iload (pc := 90) X dX12_round_90 rfl ?_
  refine r_iload (pc := 92) X dX12_round_92 rfl ?_
  refine r_icmp_ge (pc := 94) X 130 dX12_round_94 (by decide) (fun c48 => ?_) (fun c48 => ?_)
  · rw [if_neg c48] at hf
    obtain rfl := Option.some.inj hf
    exact hk _
  · rw [if_pos c48] at hf
    refine r_iload (pc := 97) X dX12_round_97 rfl ?_
    refine r_if_eq (pc := 99) X 121 dX12_round_99 (by decide) (fun c47 => ?_) (fun c47 => ?_)
    · rw [if_pos c47] at hf
      refine r_iconst (pc := 121) X 0 dX12_round_121 (by decide) ?_
      refine r_istore (pc := 122) X [some (.ref v0), some (.int v1), some (.int v2), some (.int v3), some (.int v4), some (.int 0), some (.int s.2)] dX12_round_122 (by decide) rfl ?_
      obtain ⟨x39, ex39, hf⟩ := ob hf
      refine r_iinc2 (pc := 124) X 1 [some (.ref v0), some (.int v1), some (.int v2), some (.int v3), some (.int v4), some (.int 0), some (.int x39)] dX12_round_124 (by decide) rfl (by decide) ex39 rfl ?_
      refine r_goto (pc := 127) X 90 dX12_round_127 (by decide) ?_
      obtain rfl := Option.some.inj hf
      exact hk
    · rw [if_neg c47] at hf
      refine r_aload_n (pc := 102) X dX12_round_102 rfl ?_
      refine r_iload (pc := 103) X dX12_round_103 rfl ?_
      obtain ⟨u40, eu40, hf⟩ := ob hf
      obtain ⟨x41, ex41, hf⟩ := ob hf
      refine r_callVI (pc := 105) X [.int s.2] dX12_round_105 ml_X12_315 vo_X12_sumAt ⟨Nat.le_refl _, Nat.le_refl _⟩ eu40 (ev_X12_sumAt (d := d - 1) (by omega) _ _ _ _ ex41) hd1 rfl (Nat.le_of_ble_eq_true rfl) rfl ?_
      refine r_aload_n (pc := 108) X dX12_round_108 rfl ?_
      refine r_iload (pc := 109) X dX12_round_109 rfl ?_
      obtain ⟨u42, eu42, hf⟩ := ob hf
      obtain ⟨x43, ex43, hf⟩ := ob hf
      refine r_callVI (pc := 111) X [.int v4] dX12_round_111 ml_X12_315 vo_X12_sumAt ⟨Nat.le_refl _, Nat.le_refl _⟩ eu42 (ev_X12_sumAt (d := d - 1) (by omega) _ _ _ _ ex43) hd1 rfl (Nat.le_of_ble_eq_true rfl) rfl ?_
      refine r_icmp_eq (pc := 114) X 121 dX12_round_114 (by decide) (fun c46 => ?_) (fun c46 => ?_)
      · rw [if_pos c46] at hf
        refine r_iconst (pc := 121) X 0 dX12_round_121 (by decide) ?_
        refine r_istore (pc := 122) X [some (.ref v0), some (.int v1), some (.int v2), some (.int v3), some (.int v4), some (.int 0), some (.int s.2)] dX12_round_122 (by decide) rfl ?_
        obtain ⟨x44, ex44, hf⟩ := ob hf
        refine r_iinc2 (pc := 124) X 1 [some (.ref v0), some (.int v1), some (.int v2), some (.int v3), some (.int v4), some (.int 0), some (.int x44)] dX12_round_124 (by decide) rfl (by decide) ex44 rfl ?_
        refine r_goto (pc := 127) X 90 dX12_round_127 (by decide) ?_
        obtain rfl := Option.some.inj hf
        exact hk
      · rw [if_neg c46] at hf
        refine r_iconst (pc := 117) X 1 dX12_round_117 (by decide) ?_
        refine r_goto (pc := 118) X 122 dX12_round_118 (by decide) ?_
        refine r_istore (pc := 122) X [some (.ref v0), some (.int v1), some (.int v2), some (.int v3), some (.int v4), some (.int 1), some (.int s.2)] dX12_round_122 (by decide) rfl ?_
        obtain ⟨x45, ex45, hf⟩ := ob hf
        refine r_iinc2 (pc := 124) X 1 [some (.ref v0), some (.int v1), some (.int v2), some (.int v3), some (.int v4), some (.int 1), some (.int x45)] dX12_round_124 (by decide) rfl (by decide) ex45 rfl ?_
        refine r_goto (pc := 127) X 90 dX12_round_127 (by decide) ?_
        obtain rfl := Option.some.inj hf
        exact hk
def lb_X12_round_78 (hh : aH) (v0 : Nat) (v1 : Int32) (v2 : Int32) (s : Int32 × Int32) : Option ((Int32 × Int32) ⊕ ((Int32))) :=
  if s.2 < v1 then
    (lp (lb_X12_round_90 hh v0 v1 v2 s.1 s.2) lpN (1, v2)).bind fun o49 =>
    if o49 = 0 then
      (some (s.1 + 0)).bind fun x51 =>
      (some (s.2 + 1)).bind fun x52 =>
      some (.inl (x51, x52))
    else
      (some (s.1 + 1)).bind fun x53 =>
      (some (s.2 + 1)).bind fun x54 =>
      some (.inl (x53, x54))
  else
    some (.inr s.1)
def hd_X12_round_78 (Γ : aC) (hh : aH) (v0 : Nat) (v1 : Int32) (v2 : Int32) (s : Int32 × Int32) : Prop := ∀ (j5 : Option Value) (j6 : Option Value), Jd Γ (0, 0) 78 [some (.ref v0), some (.int v1), some (.int v2), some (.int s.1), some (.int s.2), j5, j6] [] hh
def ex_X12_round_78 (Γ : aC) (hh : aH) (v0 : Nat) (v1 : Int32) (v2 : Int32) (r : (Int32)) : Prop := (fun r => ∀ (j4 : Option Value) (j5 : Option Value) (j6 : Option Value), Jd Γ (0, 0) 149 [some (.ref v0), some (.int v1), some (.int v2), some (.int r), j4, j5, j6] [] hh) r
set_option maxRecDepth 20000 in
set_option maxHeartbeats 4000000 in
theorem lw_X12_round_78 {Γ : aC} {d : Nat} (X : Cx Γ RX12 cX12_round 7 (some .int) (d, 0, 0)) (hd : 247 ≤ d) (hh : aH) (v0 : Nat) (v1 : Int32) (v2 : Int32) : ∀ n s o, lp (lb_X12_round_78 hh v0 v1 v2) n s = some o → ex_X12_round_78 Γ hh v0 v1 v2 o → hd_X12_round_78 Γ hh v0 v1 v2 s := by
  have hd1 : 1 ≤ d := by omega
  refine J_lp _ _ _ ?_
  intro s o hf hk j5 j6
  unfold lb_X12_round_78 at hf
  refine r_iload (pc := 78) X dX12_round_78 rfl ?_
  refine r_iload_n (pc := 80) X dX12_round_80 rfl ?_
  refine r_icmp_ge (pc := 81) X 149 dX12_round_81 (by decide) (fun c56 => ?_) (fun c56 => ?_)
  · rw [if_neg c56] at hf
    obtain rfl := Option.some.inj hf
    exact hk _ _ _
  · rw [if_pos c56] at hf
    refine r_iconst (pc := 84) X 1 dX12_round_84 (by decide) ?_
    refine r_istore (pc := 85) X [some (.ref v0), some (.int v1), some (.int v2), some (.int s.1), some (.int s.2), some (.int 1), j6] dX12_round_85 (by decide) rfl ?_
    refine r_iload_n (pc := 87) X dX12_round_87 rfl ?_
    refine r_istore (pc := 88) X [some (.ref v0), some (.int v1), some (.int v2), some (.int s.1), some (.int s.2), some (.int 1), some (.int v2)] dX12_round_88 (by decide) rfl ?_
    obtain ⟨o49, eo49, hf⟩ := ob hf
    refine (lw_X12_round_90 X hd _ _ _ _ _ _ lpN _ o49 eo49 ?_)
    intro j50
    refine r_iload_n (pc := 130) X dX12_round_130 rfl ?_
    refine r_iload (pc := 131) X dX12_round_131 rfl ?_
    refine r_if_eq (pc := 133) X 140 dX12_round_133 (by decide) (fun c55 => ?_) (fun c55 => ?_)
    · rw [if_pos c55] at hf
      refine r_iconst (pc := 140) X 0 dX12_round_140 (by decide) ?_
      refine r_iadd (pc := 141) X dX12_round_141 ?_
      obtain ⟨x51, ex51, hf⟩ := ob hf
      refine r_nmI ex51 ?_
      refine r_istore_n (pc := 142) X [some (.ref v0), some (.int v1), some (.int v2), some (.int x51), some (.int s.2), some (.int o49), j50] dX12_round_142 (by decide) rfl ?_
      obtain ⟨x52, ex52, hf⟩ := ob hf
      refine r_iinc2 (pc := 143) X 1 [some (.ref v0), some (.int v1), some (.int v2), some (.int x51), some (.int x52), some (.int o49), j50] dX12_round_143 (by decide) rfl (by decide) ex52 rfl ?_
      refine r_goto (pc := 146) X 78 dX12_round_146 (by decide) ?_
      obtain rfl := Option.some.inj hf
      exact hk _ _
    · rw [if_neg c55] at hf
      refine r_iconst (pc := 136) X 1 dX12_round_136 (by decide) ?_
      refine r_goto (pc := 137) X 141 dX12_round_137 (by decide) ?_
      refine r_iadd (pc := 141) X dX12_round_141 ?_
      obtain ⟨x53, ex53, hf⟩ := ob hf
      refine r_nmI ex53 ?_
      refine r_istore_n (pc := 142) X [some (.ref v0), some (.int v1), some (.int v2), some (.int x53), some (.int s.2), some (.int o49), j50] dX12_round_142 (by decide) rfl ?_
      obtain ⟨x54, ex54, hf⟩ := ob hf
      refine r_iinc2 (pc := 143) X 1 [some (.ref v0), some (.int v1), some (.int v2), some (.int x53), some (.int x54), some (.int o49), j50] dX12_round_143 (by decide) rfl (by decide) ex54 rfl ?_
      refine r_goto (pc := 146) X 78 dX12_round_146 (by decide) ?_
      obtain rfl := Option.some.inj hf
      exact hk _ _
def fn_X12_round (h : aH) (p0 : Nat) : Option (Int32 × aH) :=
  (pI h p0 11 11 0).bind fun h1 =>
  (ck h1 p0 11).bind fun u2 =>
  (fn_X12_layTrail h1 p0 99).bind fun h3 =>
  (lp (lb_X12_round_13 h3 p0) lpN 1).bind fun o32 =>
  Sum.elim (fun o33 =>
    (lp (lb_X12_round_78 h3 p0 o33.1 o33.2) lpN (0, o33.2)).bind fun o57 =>
    (pI h3 p0 11 10 0).bind fun h61 =>
    (ck h61 p0 11).bind fun u62 =>
    (fn_X12_tell h61 p0 (Int32.toInt64 o33.2)).bind fun h63 =>
    (ck h63 p0 11).bind fun u64 =>
    (fn_X12_tell h63 p0 (Int32.toInt64 o57)).bind fun h65 =>
    some (o33.1, h65)
  ) (fun o34 =>
    some o34
  ) o32
set_option maxRecDepth 20000 in
set_option maxHeartbeats 4000000 in
theorem ev_X12_round {l : Launch} {g : aG} {d : Nat} (hd : 247 ≤ d) (h : aH) (p0 : Nat) (o : Int32 × aH) (hf : fn_X12_round h p0 = some o) : EvM l g d yX12_round cX12_round 7 (some .int) [.ref p0] h (some (.int o.1), o.2) := by
  refine EvM.of mk_X12_round (Nat.le_of_ble_eq_true rfl) ?_
  intro Γ hl hg hq X
  have hd1 : 1 ≤ d := by omega
  have hk : RqI Γ o := hq
  unfold fn_X12_round at hf
  show Jd Γ (0, 0) 0 [some (.ref p0), none, none, none, none, none, none] [] h
  refine r_aload_n (pc := 0) X dX12_round_0 rfl ?_
  refine r_iconst (pc := 1) X 0 dX12_round_1 (by decide) ?_
  obtain ⟨h1, eh1, hf⟩ := ob hf
  refine r_putI (pc := 2) X dX12_round_2 fp_X12_100 rfl eh1 ?_
  refine r_aload_n (pc := 5) X dX12_round_5 rfl ?_
  refine r_bipush (pc := 6) X 99 dX12_round_6 (by decide) ?_
  obtain ⟨u2, eu2, hf⟩ := ob hf
  obtain ⟨h3, eh3, hf⟩ := ob hf
  refine r_callVV (pc := 8) X [.int 99] dX12_round_8 ml_X12_309 vo_X12_layTrail ⟨Nat.le_refl _, Nat.le_refl _⟩ eu2 (ev_X12_layTrail (d := d - 1) (by omega) _ _ _ _ eh3) hd1 rfl (Nat.le_of_ble_eq_true rfl) rfl ?_
  refine r_iconst (pc := 11) X 1 dX12_round_11 (by decide) ?_
  refine r_istore_n (pc := 12) X [some (.ref p0), some (.int 1), none, none, none, none, none] dX12_round_12 (by decide) rfl ?_
  obtain ⟨o32, eo32, hf⟩ := ob hf
  refine (lw_X12_round_13 X hd _ _ lpN _ o32 eo32 ?_) _ _ _ _ _
  rcases o32 with o33 | o34
  · simp only [Sum.elim_inl] at hf
    intro j35 j36 j37 j38
    refine r_iconst (pc := 73) X 0 dX12_round_73 (by decide) ?_
    refine r_istore_n (pc := 74) X [some (.ref p0), some (.int o33.1), some (.int o33.2), some (.int 0), j36, j37, j38] dX12_round_74 (by decide) rfl ?_
    refine r_iload_n (pc := 75) X dX12_round_75 rfl ?_
    refine r_istore (pc := 76) X [some (.ref p0), some (.int o33.1), some (.int o33.2), some (.int 0), some (.int o33.2), j37, j38] dX12_round_76 (by decide) rfl ?_
    obtain ⟨o57, eo57, hf⟩ := ob hf
    refine (lw_X12_round_78 X hd _ _ _ _ lpN _ o57 eo57 ?_) _ _
    intro j58 j59 j60
    refine r_aload_n (pc := 149) X dX12_round_149 rfl ?_
    refine r_iconst (pc := 150) X 0 dX12_round_150 (by decide) ?_
    obtain ⟨h61, eh61, hf⟩ := ob hf
    refine r_putI (pc := 151) X dX12_round_151 fp_X12_104 rfl eh61 ?_
    refine r_aload_n (pc := 154) X dX12_round_154 rfl ?_
    refine r_iload_n (pc := 155) X dX12_round_155 rfl ?_
    refine r_i2l (pc := 156) X dX12_round_156 ?_
    obtain ⟨u62, eu62, hf⟩ := ob hf
    obtain ⟨h63, eh63, hf⟩ := ob hf
    refine r_callVV (pc := 157) X [.long (Int32.toInt64 o33.2)] dX12_round_157 ml_X12_274 vo_X12_tell ⟨Nat.le_refl _, Nat.le_refl _⟩ eu62 (ev_X12_tell (d := d - 1) (by omega) _ _ _ _ eh63) hd1 rfl (Nat.le_of_ble_eq_true rfl) rfl ?_
    refine r_aload_n (pc := 160) X dX12_round_160 rfl ?_
    refine r_iload_n (pc := 161) X dX12_round_161 rfl ?_
    refine r_i2l (pc := 162) X dX12_round_162 ?_
    obtain ⟨u64, eu64, hf⟩ := ob hf
    obtain ⟨h65, eh65, hf⟩ := ob hf
    refine r_callVV (pc := 163) X [.long (Int32.toInt64 o57)] dX12_round_163 ml_X12_274 vo_X12_tell ⟨Nat.le_refl _, Nat.le_refl _⟩ eu64 (ev_X12_tell (d := d - 1) (by omega) _ _ _ _ eh65) hd1 rfl (Nat.le_of_ble_eq_true rfl) rfl ?_
    refine r_iload_n (pc := 166) X dX12_round_166 rfl ?_
    obtain rfl := Option.some.inj hf
    exact r_iret (pc := 167) X dX12_round_167 hk
  · simp only [Sum.elim_inr] at hf
    obtain rfl := Option.some.inj hf
    exact hk

theorem dX12_still_0 : decode cX12_still 0 = .ok (.aload_n 0, 1) := by decide +kernel
theorem dX12_still_1 : decode cX12_still 1 = .ok (.iconst 0, 1) := by decide +kernel
theorem dX12_still_2 : decode cX12_still 2 = .ok (.putfield 100, 3) := by decide +kernel
theorem dX12_still_5 : decode cX12_still 5 = .ok (.aload_n 0, 1) := by decide +kernel
theorem dX12_still_6 : decode cX12_still 6 = .ok (.bipush 100, 2) := by decide +kernel
theorem dX12_still_8 : decode cX12_still 8 = .ok (.invokevirtual 309, 3) := by decide +kernel
theorem dX12_still_11 : decode cX12_still 11 = .ok (.iconst 0, 1) := by decide +kernel
theorem dX12_still_12 : decode cX12_still 12 = .ok (.istore_n 1, 1) := by decide +kernel
theorem dX12_still_13 : decode cX12_still 13 = .ok (.iload_n 1, 1) := by decide +kernel
theorem dX12_still_14 : decode cX12_still 14 = .ok (.bipush 96, 2) := by decide +kernel
theorem dX12_still_16 : decode cX12_still 16 = .ok (.if_icmp .gt 69, 3) := by decide +kernel
theorem dX12_still_19 : decode cX12_still 19 = .ok (.iconst 1, 1) := by decide +kernel
theorem dX12_still_20 : decode cX12_still 20 = .ok (.istore_n 2, 1) := by decide +kernel
theorem dX12_still_21 : decode cX12_still 21 = .ok (.iconst 1, 1) := by decide +kernel
theorem dX12_still_22 : decode cX12_still 22 = .ok (.istore_n 3, 1) := by decide +kernel
theorem dX12_still_23 : decode cX12_still 23 = .ok (.iload_n 3, 1) := by decide +kernel
theorem dX12_still_24 : decode cX12_still 24 = .ok (.iconst 4, 1) := by decide +kernel
theorem dX12_still_25 : decode cX12_still 25 = .ok (.if_icmp .gt 30, 3) := by decide +kernel
theorem dX12_still_28 : decode cX12_still 28 = .ok (.iload_n 2, 1) := by decide +kernel
theorem dX12_still_29 : decode cX12_still 29 = .ok (.ifCond .eq 18, 3) := by decide +kernel
theorem dX12_still_32 : decode cX12_still 32 = .ok (.aload_n 0, 1) := by decide +kernel
theorem dX12_still_33 : decode cX12_still 33 = .ok (.iload_n 1, 1) := by decide +kernel
theorem dX12_still_34 : decode cX12_still 34 = .ok (.iload_n 1, 1) := by decide +kernel
theorem dX12_still_35 : decode cX12_still 35 = .ok (.iload_n 3, 1) := by decide +kernel
theorem dX12_still_36 : decode cX12_still 36 = .ok (.iadd, 1) := by decide +kernel
theorem dX12_still_37 : decode cX12_still 37 = .ok (.invokevirtual 312, 3) := by decide +kernel
theorem dX12_still_40 : decode cX12_still 40 = .ok (.ifCond .eq 7, 3) := by decide +kernel
theorem dX12_still_43 : decode cX12_still 43 = .ok (.iconst 1, 1) := by decide +kernel
theorem dX12_still_44 : decode cX12_still 44 = .ok (.goto 4, 3) := by decide +kernel
theorem dX12_still_47 : decode cX12_still 47 = .ok (.iconst 0, 1) := by decide +kernel
theorem dX12_still_48 : decode cX12_still 48 = .ok (.istore_n 2, 1) := by decide +kernel
theorem dX12_still_49 : decode cX12_still 49 = .ok (.iinc 3 1, 3) := by decide +kernel
theorem dX12_still_52 : decode cX12_still 52 = .ok (.goto (-29), 3) := by decide +kernel
theorem dX12_still_55 : decode cX12_still 55 = .ok (.iload_n 2, 1) := by decide +kernel
theorem dX12_still_56 : decode cX12_still 56 = .ok (.ifCond .ne 6, 3) := by decide +kernel
theorem dX12_still_59 : decode cX12_still 59 = .ok (.goto 20, 3) := by decide +kernel
theorem dX12_still_62 : decode cX12_still 62 = .ok (.aload_n 0, 1) := by decide +kernel
theorem dX12_still_63 : decode cX12_still 63 = .ok (.iconst 0, 1) := by decide +kernel
theorem dX12_still_64 : decode cX12_still 64 = .ok (.putfield 104, 3) := by decide +kernel
theorem dX12_still_67 : decode cX12_still 67 = .ok (.aload_n 0, 1) := by decide +kernel
theorem dX12_still_68 : decode cX12_still 68 = .ok (.aload_n 0, 1) := by decide +kernel
theorem dX12_still_69 : decode cX12_still 69 = .ok (.iload_n 1, 1) := by decide +kernel
theorem dX12_still_70 : decode cX12_still 70 = .ok (.invokevirtual 315, 3) := by decide +kernel
theorem dX12_still_73 : decode cX12_still 73 = .ok (.i2l, 1) := by decide +kernel
theorem dX12_still_74 : decode cX12_still 74 = .ok (.invokevirtual 274, 3) := by decide +kernel
theorem dX12_still_77 : decode cX12_still 77 = .ok (.iload_n 1, 1) := by decide +kernel
theorem dX12_still_78 : decode cX12_still 78 = .ok (.ireturn, 1) := by decide +kernel
theorem dX12_still_79 : decode cX12_still 79 = .ok (.iinc 1 1, 3) := by decide +kernel
theorem dX12_still_82 : decode cX12_still 82 = .ok (.goto (-69), 3) := by decide +kernel
theorem dX12_still_85 : decode cX12_still 85 = .ok (.bipush (-2), 2) := by decide +kernel
theorem dX12_still_87 : decode cX12_still 87 = .ok (.ireturn, 1) := by decide +kernel
def lb_X12_still_23 (hh : aH) (v0 : Nat) (v1 : Int32) (s : Int32 × Int32) : Option ((Int32 × Int32) ⊕ ((Int32))) :=
  if s.2 ≤ 4 then
    if s.1 = 0 then
      (some (s.2 + 1)).bind fun x4 =>
      some (.inl (0, x4))
    else
      (ck hh v0 11).bind fun u5 =>
      (fn_X12_areLevelsLike hh v0 v1 (v1 + s.2)).bind fun x6 =>
      if x6 = 0 then
        (some (s.2 + 1)).bind fun x7 =>
        some (.inl (0, x7))
      else
        (some (s.2 + 1)).bind fun x8 =>
        some (.inl (1, x8))
  else
    some (.inr s.1)
def hd_X12_still_23 (Γ : aC) (hh : aH) (v0 : Nat) (v1 : Int32) (s : Int32 × Int32) : Prop := Jd Γ (0, 0) 23 [some (.ref v0), some (.int v1), some (.int s.1), some (.int s.2)] [] hh
def ex_X12_still_23 (Γ : aC) (hh : aH) (v0 : Nat) (v1 : Int32) (r : (Int32)) : Prop := (fun r => ∀ (j3 : Option Value), Jd Γ (0, 0) 55 [some (.ref v0), some (.int v1), some (.int r), j3] [] hh) r
set_option maxRecDepth 20000 in
set_option maxHeartbeats 4000000 in
theorem lw_X12_still_23 {Γ : aC} {d : Nat} (X : Cx Γ RX12 cX12_still 4 (some .int) (d, 0, 0)) (hd : 247 ≤ d) (hh : aH) (v0 : Nat) (v1 : Int32) : ∀ n s o, lp (lb_X12_still_23 hh v0 v1) n s = some o → ex_X12_still_23 Γ hh v0 v1 o → hd_X12_still_23 Γ hh v0 v1 s := by
  have hd1 : 1 ≤ d := by omega
  refine J_lp _ _ _ ?_
  intro s o hf hk
  unfold lb_X12_still_23 at hf
  refine r_iload_n (pc := 23) X dX12_still_23 rfl ?_
  refine r_iconst (pc := 24) X 4 dX12_still_24 (by decide) ?_
  refine r_icmp_gt (pc := 25) X 55 dX12_still_25 (by decide) (fun c11 => ?_) (fun c11 => ?_)
  · rw [if_neg c11] at hf
    obtain rfl := Option.some.inj hf
    exact hk _
  · rw [if_pos c11] at hf
    refine r_iload_n (pc := 28) X dX12_still_28 rfl ?_
    refine r_if_eq (pc := 29) X 47 dX12_still_29 (by decide) (fun c10 => ?_) (fun c10 => ?_)
    · rw [if_pos c10] at hf
      refine r_iconst (pc := 47) X 0 dX12_still_47 (by decide) ?_
      refine r_istore_n (pc := 48) X [some (.ref v0), some (.int v1), some (.int 0), some (.int s.2)] dX12_still_48 (by decide) rfl ?_
      obtain ⟨x4, ex4, hf⟩ := ob hf
      refine r_iinc2 (pc := 49) X 1 [some (.ref v0), some (.int v1), some (.int 0), some (.int x4)] dX12_still_49 (by decide) rfl (by decide) ex4 rfl ?_
      refine r_goto (pc := 52) X 23 dX12_still_52 (by decide) ?_
      obtain rfl := Option.some.inj hf
      exact hk
    · rw [if_neg c10] at hf
      refine r_aload_n (pc := 32) X dX12_still_32 rfl ?_
      refine r_iload_n (pc := 33) X dX12_still_33 rfl ?_
      refine r_iload_n (pc := 34) X dX12_still_34 rfl ?_
      refine r_iload_n (pc := 35) X dX12_still_35 rfl ?_
      refine r_iadd (pc := 36) X dX12_still_36 ?_
      obtain ⟨u5, eu5, hf⟩ := ob hf
      obtain ⟨x6, ex6, hf⟩ := ob hf
      refine r_callVI (pc := 37) X [.int v1, .int (v1 + s.2)] dX12_still_37 ml_X12_312 vo_X12_areLevelsLike ⟨Nat.le_refl _, Nat.le_refl _⟩ eu5 (ev_X12_areLevelsLike (d := d - 1) (by omega) _ _ _ _ _ ex6) hd1 rfl (Nat.le_of_ble_eq_true rfl) rfl ?_
      refine r_if_eq (pc := 40) X 47 dX12_still_40 (by decide) (fun c9 => ?_) (fun c9 => ?_)
      · rw [if_pos c9] at hf
        refine r_iconst (pc := 47) X 0 dX12_still_47 (by decide) ?_
        refine r_istore_n (pc := 48) X [some (.ref v0), some (.int v1), some (.int 0), some (.int s.2)] dX12_still_48 (by decide) rfl ?_
        obtain ⟨x7, ex7, hf⟩ := ob hf
        refine r_iinc2 (pc := 49) X 1 [some (.ref v0), some (.int v1), some (.int 0), some (.int x7)] dX12_still_49 (by decide) rfl (by decide) ex7 rfl ?_
        refine r_goto (pc := 52) X 23 dX12_still_52 (by decide) ?_
        obtain rfl := Option.some.inj hf
        exact hk
      · rw [if_neg c9] at hf
        refine r_iconst (pc := 43) X 1 dX12_still_43 (by decide) ?_
        refine r_goto (pc := 44) X 48 dX12_still_44 (by decide) ?_
        refine r_istore_n (pc := 48) X [some (.ref v0), some (.int v1), some (.int 1), some (.int s.2)] dX12_still_48 (by decide) rfl ?_
        obtain ⟨x8, ex8, hf⟩ := ob hf
        refine r_iinc2 (pc := 49) X 1 [some (.ref v0), some (.int v1), some (.int 1), some (.int x8)] dX12_still_49 (by decide) rfl (by decide) ex8 rfl ?_
        refine r_goto (pc := 52) X 23 dX12_still_52 (by decide) ?_
        obtain rfl := Option.some.inj hf
        exact hk
def lb_X12_still_13 (hh : aH) (v0 : Nat) (s : Int32) : Option ((Int32) ⊕ ((Int32) ⊕ (Int32 × aH))) :=
  if s ≤ 96 then
    (lp (lb_X12_still_23 hh v0 s) lpN (1, 1)).bind fun o12 =>
    if o12 = 0 then
      (some (s + 1)).bind fun x14 =>
      some (.inl x14)
    else
      some (.inr (.inl s))
  else
    some (.inr (.inr ((-2), hh)))
def hd_X12_still_13 (Γ : aC) (hh : aH) (v0 : Nat) (s : Int32) : Prop := ∀ (j2 : Option Value) (j3 : Option Value), Jd Γ (0, 0) 13 [some (.ref v0), some (.int s), j2, j3] [] hh
def ex_X12_still_13 (Γ : aC) (hh : aH) (v0 : Nat) (r : (Int32) ⊕ (Int32 × aH)) : Prop := (Sum.elim (fun r => ∀ (j2 : Option Value) (j3 : Option Value), Jd Γ (0, 0) 62 [some (.ref v0), some (.int r), j2, j3] [] hh) (fun r => RqI Γ r)) r
set_option maxRecDepth 20000 in
set_option maxHeartbeats 4000000 in
theorem lw_X12_still_13 {Γ : aC} {d : Nat} (X : Cx Γ RX12 cX12_still 4 (some .int) (d, 0, 0)) (hd : 247 ≤ d) (hh : aH) (v0 : Nat) : ∀ n s o, lp (lb_X12_still_13 hh v0) n s = some o → ex_X12_still_13 Γ hh v0 o → hd_X12_still_13 Γ hh v0 s := by
  have hd1 : 1 ≤ d := by omega
  refine J_lp _ _ _ ?_
  intro s o hf hk j2 j3
  unfold lb_X12_still_13 at hf
  refine r_iload_n (pc := 13) X dX12_still_13 rfl ?_
  refine r_bipush (pc := 14) X 96 dX12_still_14 (by decide) ?_
  refine r_icmp_gt (pc := 16) X 85 dX12_still_16 (by decide) (fun c16 => ?_) (fun c16 => ?_)
  · rw [if_neg c16] at hf
    refine r_bipush (pc := 85) X (-2) dX12_still_85 (by decide) ?_
    obtain rfl := Option.some.inj hf
    exact r_iret (pc := 87) X dX12_still_87 hk
  · rw [if_pos c16] at hf
    refine r_iconst (pc := 19) X 1 dX12_still_19 (by decide) ?_
    refine r_istore_n (pc := 20) X [some (.ref v0), some (.int s), some (.int 1), j3] dX12_still_20 (by decide) rfl ?_
    refine r_iconst (pc := 21) X 1 dX12_still_21 (by decide) ?_
    refine r_istore_n (pc := 22) X [some (.ref v0), some (.int s), some (.int 1), some (.int 1)] dX12_still_22 (by decide) rfl ?_
    obtain ⟨o12, eo12, hf⟩ := ob hf
    refine (lw_X12_still_23 X hd _ _ _ lpN _ o12 eo12 ?_)
    intro j13
    refine r_iload_n (pc := 55) X dX12_still_55 rfl ?_
    refine r_if_ne (pc := 56) X 62 dX12_still_56 (by decide) (fun c15 => ?_) (fun c15 => ?_)
    · rw [if_neg c15] at hf
      obtain rfl := Option.some.inj hf
      exact hk _ _
    · rw [if_pos c15] at hf
      refine r_goto (pc := 59) X 79 dX12_still_59 (by decide) ?_
      obtain ⟨x14, ex14, hf⟩ := ob hf
      refine r_iinc2 (pc := 79) X 1 [some (.ref v0), some (.int x14), some (.int o12), j13] dX12_still_79 (by decide) rfl (by decide) ex14 rfl ?_
      refine r_goto (pc := 82) X 13 dX12_still_82 (by decide) ?_
      obtain rfl := Option.some.inj hf
      exact hk _ _
def fn_X12_still (h : aH) (p0 : Nat) : Option (Int32 × aH) :=
  (pI h p0 11 11 0).bind fun h1 =>
  (ck h1 p0 11).bind fun u2 =>
  (fn_X12_layTrail h1 p0 100).bind fun h3 =>
  (lp (lb_X12_still_13 h3 p0) lpN 0).bind fun o17 =>
  Sum.elim (fun o18 =>
    (pI h3 p0 11 10 0).bind fun h22 =>
    (ck h22 p0 11).bind fun u23 =>
    (fn_X12_sumAt h22 p0 o18).bind fun x24 =>
    (ck h22 p0 11).bind fun u25 =>
    (fn_X12_tell h22 p0 (Int32.toInt64 x24)).bind fun h26 =>
    some (o18, h26)
  ) (fun o19 =>
    some o19
  ) o17
set_option maxRecDepth 20000 in
set_option maxHeartbeats 4000000 in
theorem ev_X12_still {l : Launch} {g : aG} {d : Nat} (hd : 247 ≤ d) (h : aH) (p0 : Nat) (o : Int32 × aH) (hf : fn_X12_still h p0 = some o) : EvM l g d yX12_still cX12_still 4 (some .int) [.ref p0] h (some (.int o.1), o.2) := by
  refine EvM.of mk_X12_still (Nat.le_of_ble_eq_true rfl) ?_
  intro Γ hl hg hq X
  have hd1 : 1 ≤ d := by omega
  have hk : RqI Γ o := hq
  unfold fn_X12_still at hf
  show Jd Γ (0, 0) 0 [some (.ref p0), none, none, none] [] h
  refine r_aload_n (pc := 0) X dX12_still_0 rfl ?_
  refine r_iconst (pc := 1) X 0 dX12_still_1 (by decide) ?_
  obtain ⟨h1, eh1, hf⟩ := ob hf
  refine r_putI (pc := 2) X dX12_still_2 fp_X12_100 rfl eh1 ?_
  refine r_aload_n (pc := 5) X dX12_still_5 rfl ?_
  refine r_bipush (pc := 6) X 100 dX12_still_6 (by decide) ?_
  obtain ⟨u2, eu2, hf⟩ := ob hf
  obtain ⟨h3, eh3, hf⟩ := ob hf
  refine r_callVV (pc := 8) X [.int 100] dX12_still_8 ml_X12_309 vo_X12_layTrail ⟨Nat.le_refl _, Nat.le_refl _⟩ eu2 (ev_X12_layTrail (d := d - 1) (by omega) _ _ _ _ eh3) hd1 rfl (Nat.le_of_ble_eq_true rfl) rfl ?_
  refine r_iconst (pc := 11) X 0 dX12_still_11 (by decide) ?_
  refine r_istore_n (pc := 12) X [some (.ref p0), some (.int 0), none, none] dX12_still_12 (by decide) rfl ?_
  obtain ⟨o17, eo17, hf⟩ := ob hf
  refine (lw_X12_still_13 X hd _ _ lpN _ o17 eo17 ?_) _ _
  rcases o17 with o18 | o19
  · simp only [Sum.elim_inl] at hf
    intro j20 j21
    refine r_aload_n (pc := 62) X dX12_still_62 rfl ?_
    refine r_iconst (pc := 63) X 0 dX12_still_63 (by decide) ?_
    obtain ⟨h22, eh22, hf⟩ := ob hf
    refine r_putI (pc := 64) X dX12_still_64 fp_X12_104 rfl eh22 ?_
    refine r_aload_n (pc := 67) X dX12_still_67 rfl ?_
    refine r_aload_n (pc := 68) X dX12_still_68 rfl ?_
    refine r_iload_n (pc := 69) X dX12_still_69 rfl ?_
    obtain ⟨u23, eu23, hf⟩ := ob hf
    obtain ⟨x24, ex24, hf⟩ := ob hf
    refine r_callVI (pc := 70) X [.int o18] dX12_still_70 ml_X12_315 vo_X12_sumAt ⟨Nat.le_refl _, Nat.le_refl _⟩ eu23 (ev_X12_sumAt (d := d - 1) (by omega) _ _ _ _ ex24) hd1 rfl (Nat.le_of_ble_eq_true rfl) rfl ?_
    refine r_i2l (pc := 73) X dX12_still_73 ?_
    obtain ⟨u25, eu25, hf⟩ := ob hf
    obtain ⟨h26, eh26, hf⟩ := ob hf
    refine r_callVV (pc := 74) X [.long (Int32.toInt64 x24)] dX12_still_74 ml_X12_274 vo_X12_tell ⟨Nat.le_refl _, Nat.le_refl _⟩ eu25 (ev_X12_tell (d := d - 1) (by omega) _ _ _ _ eh26) hd1 rfl (Nat.le_of_ble_eq_true rfl) rfl ?_
    refine r_iload_n (pc := 77) X dX12_still_77 rfl ?_
    obtain rfl := Option.some.inj hf
    exact r_iret (pc := 78) X dX12_still_78 hk
  · simp only [Sum.elim_inr] at hf
    obtain rfl := Option.some.inj hf
    exact hk

theorem dX12_busiest_0 : decode cX12_busiest 0 = .ok (.aload_n 0, 1) := by decide +kernel
theorem dX12_busiest_1 : decode cX12_busiest 1 = .ok (.iconst 0, 1) := by decide +kernel
theorem dX12_busiest_2 : decode cX12_busiest 2 = .ok (.putfield 100, 3) := by decide +kernel
theorem dX12_busiest_5 : decode cX12_busiest 5 = .ok (.iload_n 1, 1) := by decide +kernel
theorem dX12_busiest_6 : decode cX12_busiest 6 = .ok (.iconst 1, 1) := by decide +kernel
theorem dX12_busiest_7 : decode cX12_busiest 7 = .ok (.bipush 99, 2) := by decide +kernel
theorem dX12_busiest_9 : decode cX12_busiest 9 = .ok (.invokestatic 110, 3) := by decide +kernel
theorem dX12_busiest_12 : decode cX12_busiest 12 = .ok (.ifCond .ne 5, 3) := by decide +kernel
theorem dX12_busiest_15 : decode cX12_busiest 15 = .ok (.iconst (-1), 1) := by decide +kernel
theorem dX12_busiest_16 : decode cX12_busiest 16 = .ok (.ireturn, 1) := by decide +kernel
theorem dX12_busiest_17 : decode cX12_busiest 17 = .ok (.aload_n 0, 1) := by decide +kernel
theorem dX12_busiest_18 : decode cX12_busiest 18 = .ok (.getfield 118, 3) := by decide +kernel
theorem dX12_busiest_21 : decode cX12_busiest 21 = .ok (.ifCond .ne 6, 3) := by decide +kernel
theorem dX12_busiest_24 : decode cX12_busiest 24 = .ok (.bipush (-2), 2) := by decide +kernel
theorem dX12_busiest_26 : decode cX12_busiest 26 = .ok (.ireturn, 1) := by decide +kernel
theorem dX12_busiest_27 : decode cX12_busiest 27 = .ok (.aload_n 0, 1) := by decide +kernel
theorem dX12_busiest_28 : decode cX12_busiest 28 = .ok (.iload_n 1, 1) := by decide +kernel
theorem dX12_busiest_29 : decode cX12_busiest 29 = .ok (.invokevirtual 303, 3) := by decide +kernel
theorem dX12_busiest_32 : decode cX12_busiest 32 = .ok (.iconst 0, 1) := by decide +kernel
theorem dX12_busiest_33 : decode cX12_busiest 33 = .ok (.istore_n 2, 1) := by decide +kernel
theorem dX12_busiest_34 : decode cX12_busiest 34 = .ok (.iconst 1, 1) := by decide +kernel
theorem dX12_busiest_35 : decode cX12_busiest 35 = .ok (.istore_n 3, 1) := by decide +kernel
theorem dX12_busiest_36 : decode cX12_busiest 36 = .ok (.iload_n 3, 1) := by decide +kernel
theorem dX12_busiest_37 : decode cX12_busiest 37 = .ok (.aload_n 0, 1) := by decide +kernel
theorem dX12_busiest_38 : decode cX12_busiest 38 = .ok (.getfield 118, 3) := by decide +kernel
theorem dX12_busiest_41 : decode cX12_busiest 41 = .ok (.if_icmp .ge 30, 3) := by decide +kernel
theorem dX12_busiest_44 : decode cX12_busiest 44 = .ok (.aload_n 0, 1) := by decide +kernel
theorem dX12_busiest_45 : decode cX12_busiest 45 = .ok (.getfield 51, 3) := by decide +kernel
theorem dX12_busiest_48 : decode cX12_busiest 48 = .ok (.iload_n 3, 1) := by decide +kernel
theorem dX12_busiest_49 : decode cX12_busiest 49 = .ok (.iaload, 1) := by decide +kernel
theorem dX12_busiest_50 : decode cX12_busiest 50 = .ok (.aload_n 0, 1) := by decide +kernel
theorem dX12_busiest_51 : decode cX12_busiest 51 = .ok (.getfield 51, 3) := by decide +kernel
theorem dX12_busiest_54 : decode cX12_busiest 54 = .ok (.iload_n 2, 1) := by decide +kernel
theorem dX12_busiest_55 : decode cX12_busiest 55 = .ok (.iaload, 1) := by decide +kernel
theorem dX12_busiest_56 : decode cX12_busiest 56 = .ok (.if_icmp .le 7, 3) := by decide +kernel
theorem dX12_busiest_59 : decode cX12_busiest 59 = .ok (.iload_n 3, 1) := by decide +kernel
theorem dX12_busiest_60 : decode cX12_busiest 60 = .ok (.goto 4, 3) := by decide +kernel
theorem dX12_busiest_63 : decode cX12_busiest 63 = .ok (.iload_n 2, 1) := by decide +kernel
theorem dX12_busiest_64 : decode cX12_busiest 64 = .ok (.istore_n 2, 1) := by decide +kernel
theorem dX12_busiest_65 : decode cX12_busiest 65 = .ok (.iinc 3 1, 3) := by decide +kernel
theorem dX12_busiest_68 : decode cX12_busiest 68 = .ok (.goto (-32), 3) := by decide +kernel
theorem dX12_busiest_71 : decode cX12_busiest 71 = .ok (.aload_n 0, 1) := by decide +kernel
theorem dX12_busiest_72 : decode cX12_busiest 72 = .ok (.iconst 0, 1) := by decide +kernel
theorem dX12_busiest_73 : decode cX12_busiest 73 = .ok (.putfield 104, 3) := by decide +kernel
theorem dX12_busiest_76 : decode cX12_busiest 76 = .ok (.aload_n 0, 1) := by decide +kernel
theorem dX12_busiest_77 : decode cX12_busiest 77 = .ok (.aload_n 0, 1) := by decide +kernel
theorem dX12_busiest_78 : decode cX12_busiest 78 = .ok (.getfield 51, 3) := by decide +kernel
theorem dX12_busiest_81 : decode cX12_busiest 81 = .ok (.iload_n 2, 1) := by decide +kernel
theorem dX12_busiest_82 : decode cX12_busiest 82 = .ok (.iaload, 1) := by decide +kernel
theorem dX12_busiest_83 : decode cX12_busiest 83 = .ok (.i2l, 1) := by decide +kernel
theorem dX12_busiest_84 : decode cX12_busiest 84 = .ok (.invokevirtual 274, 3) := by decide +kernel
theorem dX12_busiest_87 : decode cX12_busiest 87 = .ok (.aload_n 0, 1) := by decide +kernel
theorem dX12_busiest_88 : decode cX12_busiest 88 = .ok (.aload_n 0, 1) := by decide +kernel
theorem dX12_busiest_89 : decode cX12_busiest 89 = .ok (.getfield 246, 3) := by decide +kernel
theorem dX12_busiest_92 : decode cX12_busiest 92 = .ok (.i2l, 1) := by decide +kernel
theorem dX12_busiest_93 : decode cX12_busiest 93 = .ok (.invokevirtual 274, 3) := by decide +kernel
theorem dX12_busiest_96 : decode cX12_busiest 96 = .ok (.iload_n 2, 1) := by decide +kernel
theorem dX12_busiest_97 : decode cX12_busiest 97 = .ok (.ireturn, 1) := by decide +kernel
def lb_X12_busiest_36 (hh : aH) (v0 : Nat) (s : Int32 × Int32) : Option ((Int32 × Int32) ⊕ ((Int32))) :=
  (gI hh v0 11 2).bind fun x6 =>
  if s.2 < x6 then
    (gR hh v0 11 29).bind fun a7 =>
    (aI hh a7 14 s.2).bind fun x8 =>
    (gR hh v0 11 29).bind fun a9 =>
    (aI hh a9 14 s.1).bind fun x10 =>
    if x8 ≤ x10 then
      (some (s.2 + 1)).bind fun x11 =>
      some (.inl (s.1, x11))
    else
      (some (s.2 + 1)).bind fun x12 =>
      some (.inl (s.2, x12))
  else
    some (.inr s.1)
def hd_X12_busiest_36 (Γ : aC) (hh : aH) (v0 : Nat) (s : Int32 × Int32) : Prop := ∀ (j1 : Option Value), Jd Γ (0, 0) 36 [some (.ref v0), j1, some (.int s.1), some (.int s.2)] [] hh
def ex_X12_busiest_36 (Γ : aC) (hh : aH) (v0 : Nat) (r : (Int32)) : Prop := (fun r => ∀ (j1 : Option Value) (j3 : Option Value), Jd Γ (0, 0) 71 [some (.ref v0), j1, some (.int r), j3] [] hh) r
set_option maxRecDepth 20000 in
set_option maxHeartbeats 4000000 in
theorem lw_X12_busiest_36 {Γ : aC} {d : Nat} (X : Cx Γ RX12 cX12_busiest 4 (some .int) (d, 0, 0)) (hd : 248 ≤ d) (hh : aH) (v0 : Nat) : ∀ n s o, lp (lb_X12_busiest_36 hh v0) n s = some o → ex_X12_busiest_36 Γ hh v0 o → hd_X12_busiest_36 Γ hh v0 s := by
  have hd1 : 1 ≤ d := by omega
  refine J_lp _ _ _ ?_
  intro s o hf hk j1
  unfold lb_X12_busiest_36 at hf
  refine r_iload_n (pc := 36) X dX12_busiest_36 rfl ?_
  refine r_aload_n (pc := 37) X dX12_busiest_37 rfl ?_
  obtain ⟨x6, ex6, hf⟩ := ob hf
  refine r_getI (pc := 38) X dX12_busiest_38 fl_X12_118 rfl ex6 ?_
  refine r_icmp_ge (pc := 41) X 71 dX12_busiest_41 (by decide) (fun c14 => ?_) (fun c14 => ?_)
  · rw [if_neg c14] at hf
    obtain rfl := Option.some.inj hf
    exact hk _ _
  · rw [if_pos c14] at hf
    refine r_aload_n (pc := 44) X dX12_busiest_44 rfl ?_
    obtain ⟨a7, ea7, hf⟩ := ob hf
    refine r_getR (pc := 45) X dX12_busiest_45 fl_X12_51 rfl ea7 ?_
    refine r_iload_n (pc := 48) X dX12_busiest_48 rfl ?_
    obtain ⟨x8, ex8, hf⟩ := ob hf
    refine r_iald (pc := 49) X dX12_busiest_49 ex8 ?_
    refine r_aload_n (pc := 50) X dX12_busiest_50 rfl ?_
    obtain ⟨a9, ea9, hf⟩ := ob hf
    refine r_getR (pc := 51) X dX12_busiest_51 fl_X12_51 rfl ea9 ?_
    refine r_iload_n (pc := 54) X dX12_busiest_54 rfl ?_
    obtain ⟨x10, ex10, hf⟩ := ob hf
    refine r_iald (pc := 55) X dX12_busiest_55 ex10 ?_
    refine r_icmp_le (pc := 56) X 63 dX12_busiest_56 (by decide) (fun c13 => ?_) (fun c13 => ?_)
    · rw [if_pos c13] at hf
      refine r_iload_n (pc := 63) X dX12_busiest_63 rfl ?_
      refine r_fg 1 [some (.ref v0), none, some (.int s.1), some (.int s.2)] rfl ?_
      refine r_istore_n (pc := 64) X [some (.ref v0), none, some (.int s.1), some (.int s.2)] dX12_busiest_64 (by decide) rfl ?_
      obtain ⟨x11, ex11, hf⟩ := ob hf
      refine r_iinc2 (pc := 65) X 1 [some (.ref v0), none, some (.int s.1), some (.int x11)] dX12_busiest_65 (by decide) rfl (by decide) ex11 rfl ?_
      refine r_goto (pc := 68) X 36 dX12_busiest_68 (by decide) ?_
      obtain rfl := Option.some.inj hf
      exact hk _
    · rw [if_neg c13] at hf
      refine r_iload_n (pc := 59) X dX12_busiest_59 rfl ?_
      refine r_goto (pc := 60) X 64 dX12_busiest_60 (by decide) ?_
      refine r_fg 1 [some (.ref v0), none, some (.int s.1), some (.int s.2)] rfl ?_
      refine r_istore_n (pc := 64) X [some (.ref v0), none, some (.int s.2), some (.int s.2)] dX12_busiest_64 (by decide) rfl ?_
      obtain ⟨x12, ex12, hf⟩ := ob hf
      refine r_iinc2 (pc := 65) X 1 [some (.ref v0), none, some (.int s.2), some (.int x12)] dX12_busiest_65 (by decide) rfl (by decide) ex12 rfl ?_
      refine r_goto (pc := 68) X 36 dX12_busiest_68 (by decide) ?_
      obtain rfl := Option.some.inj hf
      exact hk _
def fn_X12_busiest (h : aH) (p0 : Nat) (p1 : Int32) : Option (Int32 × aH) :=
  (pI h p0 11 11 0).bind fun h1 =>
  (fn_X12_in h1 p1 1 99).bind fun x2 =>
  if x2 = 0 then
    some ((-1), h1)
  else
    (gI h1 p0 11 2).bind fun x3 =>
    if x3 = 0 then
      some ((-2), h1)
    else
      (ck h1 p0 11).bind fun u4 =>
      (fn_X12_goThen h1 p0 p1).bind fun h5 =>
      (lp (lb_X12_busiest_36 h5 p0) lpN (0, 1)).bind fun o15 =>
      (pI h5 p0 11 10 0).bind fun h18 =>
      (gR h18 p0 11 29).bind fun a19 =>
      (aI h18 a19 14 o15).bind fun x20 =>
      (ck h18 p0 11).bind fun u21 =>
      (fn_X12_tell h18 p0 (Int32.toInt64 x20)).bind fun h22 =>
      (gI h22 p0 11 27).bind fun x23 =>
      (ck h22 p0 11).bind fun u24 =>
      (fn_X12_tell h22 p0 (Int32.toInt64 x23)).bind fun h25 =>
      some (o15, h25)
set_option maxRecDepth 20000 in
set_option maxHeartbeats 4000000 in
theorem ev_X12_busiest {l : Launch} {g : aG} {d : Nat} (hd : 248 ≤ d) (h : aH) (p0 : Nat) (p1 : Int32) (o : Int32 × aH) (hf : fn_X12_busiest h p0 p1 = some o) : EvM l g d yX12_busiest cX12_busiest 4 (some .int) [.ref p0, .int p1] h (some (.int o.1), o.2) := by
  refine EvM.of mk_X12_busiest (Nat.le_of_ble_eq_true rfl) ?_
  intro Γ hl hg hq X
  have hd1 : 1 ≤ d := by omega
  have hk : RqI Γ o := hq
  unfold fn_X12_busiest at hf
  show Jd Γ (0, 0) 0 [some (.ref p0), some (.int p1), none, none] [] h
  refine r_aload_n (pc := 0) X dX12_busiest_0 rfl ?_
  refine r_iconst (pc := 1) X 0 dX12_busiest_1 (by decide) ?_
  obtain ⟨h1, eh1, hf⟩ := ob hf
  refine r_putI (pc := 2) X dX12_busiest_2 fp_X12_100 rfl eh1 ?_
  refine r_iload_n (pc := 5) X dX12_busiest_5 rfl ?_
  refine r_iconst (pc := 6) X 1 dX12_busiest_6 (by decide) ?_
  refine r_bipush (pc := 7) X 99 dX12_busiest_7 (by decide) ?_
  obtain ⟨x2, ex2, hf⟩ := ob hf
  refine r_callSI (pc := 9) X [.int p1, .int 1, .int 99] dX12_busiest_9 ml_X12_110 so_X12_in ⟨Nat.le_refl _, Nat.le_refl _⟩ (ev_X12_in (d := d - 1) (by omega) _ _ _ _ _ ex2) hd1 rfl (Nat.le_of_ble_eq_true rfl) rfl ?_
  refine r_if_ne (pc := 12) X 17 dX12_busiest_12 (by decide) (fun c27 => ?_) (fun c27 => ?_)
  · rw [if_neg c27] at hf
    refine r_aload_n (pc := 17) X dX12_busiest_17 rfl ?_
    obtain ⟨x3, ex3, hf⟩ := ob hf
    refine r_getI (pc := 18) X dX12_busiest_18 fl_X12_118 rfl ex3 ?_
    refine r_if_ne (pc := 21) X 27 dX12_busiest_21 (by decide) (fun c26 => ?_) (fun c26 => ?_)
    · rw [if_neg c26] at hf
      refine r_aload_n (pc := 27) X dX12_busiest_27 rfl ?_
      refine r_iload_n (pc := 28) X dX12_busiest_28 rfl ?_
      obtain ⟨u4, eu4, hf⟩ := ob hf
      obtain ⟨h5, eh5, hf⟩ := ob hf
      refine r_callVV (pc := 29) X [.int p1] dX12_busiest_29 ml_X12_303 vo_X12_goThen ⟨Nat.le_refl _, Nat.le_refl _⟩ eu4 (ev_X12_goThen (d := d - 1) (by omega) _ _ _ _ eh5) hd1 rfl (Nat.le_of_ble_eq_true rfl) rfl ?_
      refine r_iconst (pc := 32) X 0 dX12_busiest_32 (by decide) ?_
      refine r_istore_n (pc := 33) X [some (.ref p0), some (.int p1), some (.int 0), none] dX12_busiest_33 (by decide) rfl ?_
      refine r_iconst (pc := 34) X 1 dX12_busiest_34 (by decide) ?_
      refine r_istore_n (pc := 35) X [some (.ref p0), some (.int p1), some (.int 0), some (.int 1)] dX12_busiest_35 (by decide) rfl ?_
      obtain ⟨o15, eo15, hf⟩ := ob hf
      refine (lw_X12_busiest_36 X hd _ _ lpN _ o15 eo15 ?_) _
      intro j16 j17
      refine r_aload_n (pc := 71) X dX12_busiest_71 rfl ?_
      refine r_iconst (pc := 72) X 0 dX12_busiest_72 (by decide) ?_
      obtain ⟨h18, eh18, hf⟩ := ob hf
      refine r_putI (pc := 73) X dX12_busiest_73 fp_X12_104 rfl eh18 ?_
      refine r_aload_n (pc := 76) X dX12_busiest_76 rfl ?_
      refine r_aload_n (pc := 77) X dX12_busiest_77 rfl ?_
      obtain ⟨a19, ea19, hf⟩ := ob hf
      refine r_getR (pc := 78) X dX12_busiest_78 fl_X12_51 rfl ea19 ?_
      refine r_iload_n (pc := 81) X dX12_busiest_81 rfl ?_
      obtain ⟨x20, ex20, hf⟩ := ob hf
      refine r_iald (pc := 82) X dX12_busiest_82 ex20 ?_
      refine r_i2l (pc := 83) X dX12_busiest_83 ?_
      obtain ⟨u21, eu21, hf⟩ := ob hf
      obtain ⟨h22, eh22, hf⟩ := ob hf
      refine r_callVV (pc := 84) X [.long (Int32.toInt64 x20)] dX12_busiest_84 ml_X12_274 vo_X12_tell ⟨Nat.le_refl _, Nat.le_refl _⟩ eu21 (ev_X12_tell (d := d - 1) (by omega) _ _ _ _ eh22) hd1 rfl (Nat.le_of_ble_eq_true rfl) rfl ?_
      refine r_aload_n (pc := 87) X dX12_busiest_87 rfl ?_
      refine r_aload_n (pc := 88) X dX12_busiest_88 rfl ?_
      obtain ⟨x23, ex23, hf⟩ := ob hf
      refine r_getI (pc := 89) X dX12_busiest_89 fl_X12_246 rfl ex23 ?_
      refine r_i2l (pc := 92) X dX12_busiest_92 ?_
      obtain ⟨u24, eu24, hf⟩ := ob hf
      obtain ⟨h25, eh25, hf⟩ := ob hf
      refine r_callVV (pc := 93) X [.long (Int32.toInt64 x23)] dX12_busiest_93 ml_X12_274 vo_X12_tell ⟨Nat.le_refl _, Nat.le_refl _⟩ eu24 (ev_X12_tell (d := d - 1) (by omega) _ _ _ _ eh25) hd1 rfl (Nat.le_of_ble_eq_true rfl) rfl ?_
      refine r_iload_n (pc := 96) X dX12_busiest_96 rfl ?_
      obtain rfl := Option.some.inj hf
      exact r_iret (pc := 97) X dX12_busiest_97 hk
    · rw [if_pos c26] at hf
      refine r_bipush (pc := 24) X (-2) dX12_busiest_24 (by decide) ?_
      obtain rfl := Option.some.inj hf
      exact r_iret (pc := 26) X dX12_busiest_26 hk
  · rw [if_pos c27] at hf
    refine r_iconst (pc := 15) X (-1) dX12_busiest_15 (by decide) ?_
    obtain rfl := Option.some.inj hf
    exact r_iret (pc := 16) X dX12_busiest_16 hk

theorem dX12_high_0 : decode cX12_high 0 = .ok (.aload_n 0, 1) := by decide +kernel
theorem dX12_high_1 : decode cX12_high 1 = .ok (.iconst 0, 1) := by decide +kernel
theorem dX12_high_2 : decode cX12_high 2 = .ok (.putfield 100, 3) := by decide +kernel
theorem dX12_high_5 : decode cX12_high 5 = .ok (.iload_n 1, 1) := by decide +kernel
theorem dX12_high_6 : decode cX12_high 6 = .ok (.iconst 0, 1) := by decide +kernel
theorem dX12_high_7 : decode cX12_high 7 = .ok (.bipush 99, 2) := by decide +kernel
theorem dX12_high_9 : decode cX12_high 9 = .ok (.invokestatic 110, 3) := by decide +kernel
theorem dX12_high_12 : decode cX12_high 12 = .ok (.ifCond .ne 5, 3) := by decide +kernel
theorem dX12_high_15 : decode cX12_high 15 = .ok (.iconst (-1), 1) := by decide +kernel
theorem dX12_high_16 : decode cX12_high 16 = .ok (.ireturn, 1) := by decide +kernel
theorem dX12_high_17 : decode cX12_high 17 = .ok (.aload_n 0, 1) := by decide +kernel
theorem dX12_high_18 : decode cX12_high 18 = .ok (.getfield 107, 3) := by decide +kernel
theorem dX12_high_21 : decode cX12_high 21 = .ok (.ifCond .ne 6, 3) := by decide +kernel
theorem dX12_high_24 : decode cX12_high 24 = .ok (.bipush (-2), 2) := by decide +kernel
theorem dX12_high_26 : decode cX12_high 26 = .ok (.ireturn, 1) := by decide +kernel
theorem dX12_high_27 : decode cX12_high 27 = .ok (.iconst (-1), 1) := by decide +kernel
theorem dX12_high_28 : decode cX12_high 28 = .ok (.istore_n 2, 1) := by decide +kernel
theorem dX12_high_29 : decode cX12_high 29 = .ok (.iconst 0, 1) := by decide +kernel
theorem dX12_high_30 : decode cX12_high 30 = .ok (.istore_n 3, 1) := by decide +kernel
theorem dX12_high_31 : decode cX12_high 31 = .ok (.iconst 0, 1) := by decide +kernel
theorem dX12_high_32 : decode cX12_high 32 = .ok (.istore 4, 2) := by decide +kernel
theorem dX12_high_34 : decode cX12_high 34 = .ok (.aload_n 0, 1) := by decide +kernel
theorem dX12_high_35 : decode cX12_high 35 = .ok (.getfield 9, 3) := by decide +kernel
theorem dX12_high_38 : decode cX12_high 38 = .ok (.aload_n 0, 1) := by decide +kernel
theorem dX12_high_39 : decode cX12_high 39 = .ok (.getfield 48, 3) := by decide +kernel
theorem dX12_high_42 : decode cX12_high 42 = .ok (.iconst 0, 1) := by decide +kernel
theorem dX12_high_43 : decode cX12_high 43 = .ok (.invokestatic 242, 3) := by decide +kernel
theorem dX12_high_46 : decode cX12_high 46 = .ok (.iconst 0, 1) := by decide +kernel
theorem dX12_high_47 : decode cX12_high 47 = .ok (.istore 5, 2) := by decide +kernel
theorem dX12_high_49 : decode cX12_high 49 = .ok (.iload 5, 2) := by decide +kernel
theorem dX12_high_51 : decode cX12_high 51 = .ok (.iload_n 1, 1) := by decide +kernel
theorem dX12_high_52 : decode cX12_high 52 = .ok (.if_icmp .gt 64, 3) := by decide +kernel
theorem dX12_high_55 : decode cX12_high 55 = .ok (.iconst 0, 1) := by decide +kernel
theorem dX12_high_56 : decode cX12_high 56 = .ok (.istore 6, 2) := by decide +kernel
theorem dX12_high_58 : decode cX12_high 58 = .ok (.iload 6, 2) := by decide +kernel
theorem dX12_high_60 : decode cX12_high 60 = .ok (.aload_n 0, 1) := by decide +kernel
theorem dX12_high_61 : decode cX12_high 61 = .ok (.getfield 107, 3) := by decide +kernel
theorem dX12_high_64 : decode cX12_high 64 = .ok (.if_icmp .ge 38, 3) := by decide +kernel
theorem dX12_high_67 : decode cX12_high 67 = .ok (.aload_n 0, 1) := by decide +kernel
theorem dX12_high_68 : decode cX12_high 68 = .ok (.getfield 48, 3) := by decide +kernel
theorem dX12_high_71 : decode cX12_high 71 = .ok (.iload 6, 2) := by decide +kernel
theorem dX12_high_73 : decode cX12_high 73 = .ok (.iaload, 1) := by decide +kernel
theorem dX12_high_74 : decode cX12_high 74 = .ok (.iload_n 2, 1) := by decide +kernel
theorem dX12_high_75 : decode cX12_high 75 = .ok (.if_icmp .gt 6, 3) := by decide +kernel
theorem dX12_high_78 : decode cX12_high 78 = .ok (.goto 18, 3) := by decide +kernel
theorem dX12_high_81 : decode cX12_high 81 = .ok (.aload_n 0, 1) := by decide +kernel
theorem dX12_high_82 : decode cX12_high 82 = .ok (.getfield 48, 3) := by decide +kernel
theorem dX12_high_85 : decode cX12_high 85 = .ok (.iload 6, 2) := by decide +kernel
theorem dX12_high_87 : decode cX12_high 87 = .ok (.iaload, 1) := by decide +kernel
theorem dX12_high_88 : decode cX12_high 88 = .ok (.istore_n 2, 1) := by decide +kernel
theorem dX12_high_89 : decode cX12_high 89 = .ok (.iload 6, 2) := by decide +kernel
theorem dX12_high_91 : decode cX12_high 91 = .ok (.istore_n 3, 1) := by decide +kernel
theorem dX12_high_92 : decode cX12_high 92 = .ok (.iload 5, 2) := by decide +kernel
theorem dX12_high_94 : decode cX12_high 94 = .ok (.istore 4, 2) := by decide +kernel
theorem dX12_high_96 : decode cX12_high 96 = .ok (.iinc 6 1, 3) := by decide +kernel
theorem dX12_high_99 : decode cX12_high 99 = .ok (.goto (-41), 3) := by decide +kernel
theorem dX12_high_102 : decode cX12_high 102 = .ok (.aload_n 0, 1) := by decide +kernel
theorem dX12_high_103 : decode cX12_high 103 = .ok (.aload_n 0, 1) := by decide +kernel
theorem dX12_high_104 : decode cX12_high 104 = .ok (.getfield 48, 3) := by decide +kernel
theorem dX12_high_107 : decode cX12_high 107 = .ok (.invokevirtual 260, 3) := by decide +kernel
theorem dX12_high_110 : decode cX12_high 110 = .ok (.iinc 5 1, 3) := by decide +kernel
theorem dX12_high_113 : decode cX12_high 113 = .ok (.goto (-64), 3) := by decide +kernel
theorem dX12_high_116 : decode cX12_high 116 = .ok (.aload_n 0, 1) := by decide +kernel
theorem dX12_high_117 : decode cX12_high 117 = .ok (.iconst 0, 1) := by decide +kernel
theorem dX12_high_118 : decode cX12_high 118 = .ok (.putfield 104, 3) := by decide +kernel
theorem dX12_high_121 : decode cX12_high 121 = .ok (.aload_n 0, 1) := by decide +kernel
theorem dX12_high_122 : decode cX12_high 122 = .ok (.iload_n 3, 1) := by decide +kernel
theorem dX12_high_123 : decode cX12_high 123 = .ok (.i2l, 1) := by decide +kernel
theorem dX12_high_124 : decode cX12_high 124 = .ok (.invokevirtual 274, 3) := by decide +kernel
theorem dX12_high_127 : decode cX12_high 127 = .ok (.aload_n 0, 1) := by decide +kernel
theorem dX12_high_128 : decode cX12_high 128 = .ok (.iload 4, 2) := by decide +kernel
theorem dX12_high_130 : decode cX12_high 130 = .ok (.i2l, 1) := by decide +kernel
theorem dX12_high_131 : decode cX12_high 131 = .ok (.invokevirtual 274, 3) := by decide +kernel
theorem dX12_high_134 : decode cX12_high 134 = .ok (.iload_n 2, 1) := by decide +kernel
theorem dX12_high_135 : decode cX12_high 135 = .ok (.ireturn, 1) := by decide +kernel
def lb_X12_high_58 (hh : aH) (v0 : Nat) (v1 : Int32) (v5 : Int32) (s : Int32 × Int32 × Int32 × Int32) : Option ((Int32 × Int32 × Int32 × Int32) ⊕ ((Int32 × Int32 × Int32))) :=
  (gI hh v0 11 1).bind fun x7 =>
  if s.2.2.2 < x7 then
    (gR hh v0 11 26).bind fun a8 =>
    (aI hh a8 14 s.2.2.2).bind fun x9 =>
    if x9 ≤ s.1 then
      (some (s.2.2.2 + 1)).bind fun x13 =>
      some (.inl (s.1, s.2.1, s.2.2.1, x13))
    else
      (gR hh v0 11 26).bind fun a10 =>
      (aI hh a10 14 s.2.2.2).bind fun x11 =>
      (some (s.2.2.2 + 1)).bind fun x12 =>
      some (.inl (x11, s.2.2.2, v5, x12))
  else
    some (.inr (s.1, s.2.1, s.2.2.1))
def hd_X12_high_58 (Γ : aC) (hh : aH) (v0 : Nat) (v1 : Int32) (v5 : Int32) (s : Int32 × Int32 × Int32 × Int32) : Prop := Jd Γ (0, 0) 58 [some (.ref v0), some (.int v1), some (.int s.1), some (.int s.2.1), some (.int s.2.2.1), some (.int v5), some (.int s.2.2.2)] [] hh
def ex_X12_high_58 (Γ : aC) (hh : aH) (v0 : Nat) (v1 : Int32) (v5 : Int32) (r : (Int32 × Int32 × Int32)) : Prop := (fun r => ∀ (j6 : Option Value), Jd Γ (0, 0) 102 [some (.ref v0), some (.int v1), some (.int r.1), some (.int r.2.1), some (.int r.2.2), some (.int v5), j6] [] hh) r
set_option maxRecDepth 20000 in
set_option maxHeartbeats 4000000 in
theorem lw_X12_high_58 {Γ : aC} {d : Nat} (X : Cx Γ RX12 cX12_high 7 (some .int) (d, 0, 0)) (hd : 246 ≤ d) (hh : aH) (v0 : Nat) (v1 : Int32) (v5 : Int32) : ∀ n s o, lp (lb_X12_high_58 hh v0 v1 v5) n s = some o → ex_X12_high_58 Γ hh v0 v1 v5 o → hd_X12_high_58 Γ hh v0 v1 v5 s := by
  have hd1 : 1 ≤ d := by omega
  refine J_lp _ _ _ ?_
  intro s o hf hk
  unfold lb_X12_high_58 at hf
  refine r_iload (pc := 58) X dX12_high_58 rfl ?_
  refine r_aload_n (pc := 60) X dX12_high_60 rfl ?_
  obtain ⟨x7, ex7, hf⟩ := ob hf
  refine r_getI (pc := 61) X dX12_high_61 fl_X12_107 rfl ex7 ?_
  refine r_icmp_ge (pc := 64) X 102 dX12_high_64 (by decide) (fun c15 => ?_) (fun c15 => ?_)
  · rw [if_neg c15] at hf
    obtain rfl := Option.some.inj hf
    exact hk _
  · rw [if_pos c15] at hf
    refine r_aload_n (pc := 67) X dX12_high_67 rfl ?_
    obtain ⟨a8, ea8, hf⟩ := ob hf
    refine r_getR (pc := 68) X dX12_high_68 fl_X12_48 rfl ea8 ?_
    refine r_iload (pc := 71) X dX12_high_71 rfl ?_
    obtain ⟨x9, ex9, hf⟩ := ob hf
    refine r_iald (pc := 73) X dX12_high_73 ex9 ?_
    refine r_iload_n (pc := 74) X dX12_high_74 rfl ?_
    refine r_icmp_gt (pc := 75) X 81 dX12_high_75 (by decide) (fun c14 => ?_) (fun c14 => ?_)
    · rw [if_neg c14] at hf
      refine r_aload_n (pc := 81) X dX12_high_81 rfl ?_
      obtain ⟨a10, ea10, hf⟩ := ob hf
      refine r_getR (pc := 82) X dX12_high_82 fl_X12_48 rfl ea10 ?_
      refine r_iload (pc := 85) X dX12_high_85 rfl ?_
      obtain ⟨x11, ex11, hf⟩ := ob hf
      refine r_iald (pc := 87) X dX12_high_87 ex11 ?_
      refine r_istore_n (pc := 88) X [some (.ref v0), some (.int v1), some (.int x11), some (.int s.2.1), some (.int s.2.2.1), some (.int v5), some (.int s.2.2.2)] dX12_high_88 (by decide) rfl ?_
      refine r_iload (pc := 89) X dX12_high_89 rfl ?_
      refine r_istore_n (pc := 91) X [some (.ref v0), some (.int v1), some (.int x11), some (.int s.2.2.2), some (.int s.2.2.1), some (.int v5), some (.int s.2.2.2)] dX12_high_91 (by decide) rfl ?_
      refine r_iload (pc := 92) X dX12_high_92 rfl ?_
      refine r_istore (pc := 94) X [some (.ref v0), some (.int v1), some (.int x11), some (.int s.2.2.2), some (.int v5), some (.int v5), some (.int s.2.2.2)] dX12_high_94 (by decide) rfl ?_
      obtain ⟨x12, ex12, hf⟩ := ob hf
      refine r_iinc2 (pc := 96) X 1 [some (.ref v0), some (.int v1), some (.int x11), some (.int s.2.2.2), some (.int v5), some (.int v5), some (.int x12)] dX12_high_96 (by decide) rfl (by decide) ex12 rfl ?_
      refine r_goto (pc := 99) X 58 dX12_high_99 (by decide) ?_
      obtain rfl := Option.some.inj hf
      exact hk
    · rw [if_pos c14] at hf
      refine r_goto (pc := 78) X 96 dX12_high_78 (by decide) ?_
      obtain ⟨x13, ex13, hf⟩ := ob hf
      refine r_iinc2 (pc := 96) X 1 [some (.ref v0), some (.int v1), some (.int s.1), some (.int s.2.1), some (.int s.2.2.1), some (.int v5), some (.int x13)] dX12_high_96 (by decide) rfl (by decide) ex13 rfl ?_
      refine r_goto (pc := 99) X 58 dX12_high_99 (by decide) ?_
      obtain rfl := Option.some.inj hf
      exact hk
def lb_X12_high_49 (v0 : Nat) (v1 : Int32) (s : Int32 × Int32 × Int32 × Int32 × aH) : Option ((Int32 × Int32 × Int32 × Int32 × aH) ⊕ ((Int32 × Int32 × Int32 × aH))) :=
  if s.2.2.2.1 ≤ v1 then
    (lp (lb_X12_high_58 s.2.2.2.2 v0 v1 s.2.2.2.1) lpN (s.1, s.2.1, s.2.2.1, 0)).bind fun o16 =>
    (gR s.2.2.2.2 v0 11 26).bind fun a18 =>
    (ck s.2.2.2.2 v0 11).bind fun u19 =>
    (fn_X12_goHour s.2.2.2.2 v0 a18).bind fun h20 =>
    (some (s.2.2.2.1 + 1)).bind fun x21 =>
    some (.inl (o16.1, o16.2.1, o16.2.2, x21, h20))
  else
    some (.inr (s.1, s.2.1, s.2.2.1, s.2.2.2.2))
def hd_X12_high_49 (Γ : aC) (v0 : Nat) (v1 : Int32) (s : Int32 × Int32 × Int32 × Int32 × aH) : Prop := ∀ (j6 : Option Value), Jd Γ (0, 0) 49 [some (.ref v0), some (.int v1), some (.int s.1), some (.int s.2.1), some (.int s.2.2.1), some (.int s.2.2.2.1), j6] [] s.2.2.2.2
def ex_X12_high_49 (Γ : aC) (v0 : Nat) (v1 : Int32) (r : (Int32 × Int32 × Int32 × aH)) : Prop := (fun r => ∀ (j5 : Option Value) (j6 : Option Value), Jd Γ (0, 0) 116 [some (.ref v0), some (.int v1), some (.int r.1), some (.int r.2.1), some (.int r.2.2.1), j5, j6] [] r.2.2.2) r
set_option maxRecDepth 20000 in
set_option maxHeartbeats 4000000 in
theorem lw_X12_high_49 {Γ : aC} {d : Nat} (X : Cx Γ RX12 cX12_high 7 (some .int) (d, 0, 0)) (hd : 246 ≤ d) (v0 : Nat) (v1 : Int32) : ∀ n s o, lp (lb_X12_high_49 v0 v1) n s = some o → ex_X12_high_49 Γ v0 v1 o → hd_X12_high_49 Γ v0 v1 s := by
  have hd1 : 1 ≤ d := by omega
  refine J_lp _ _ _ ?_
  intro s o hf hk j6
  unfold lb_X12_high_49 at hf
  refine r_iload (pc := 49) X dX12_high_49 rfl ?_
  refine r_iload_n (pc := 51) X dX12_high_51 rfl ?_
  refine r_icmp_gt (pc := 52) X 116 dX12_high_52 (by decide) (fun c22 => ?_) (fun c22 => ?_)
  · rw [if_neg c22] at hf
    obtain rfl := Option.some.inj hf
    exact hk _ _
  · rw [if_pos c22] at hf
    refine r_iconst (pc := 55) X 0 dX12_high_55 (by decide) ?_
    refine r_istore (pc := 56) X [some (.ref v0), some (.int v1), some (.int s.1), some (.int s.2.1), some (.int s.2.2.1), some (.int s.2.2.2.1), some (.int 0)] dX12_high_56 (by decide) rfl ?_
    obtain ⟨o16, eo16, hf⟩ := ob hf
    refine (lw_X12_high_58 X hd _ _ _ _ lpN _ o16 eo16 ?_)
    intro j17
    refine r_aload_n (pc := 102) X dX12_high_102 rfl ?_
    refine r_aload_n (pc := 103) X dX12_high_103 rfl ?_
    obtain ⟨a18, ea18, hf⟩ := ob hf
    refine r_getR (pc := 104) X dX12_high_104 fl_X12_48 rfl ea18 ?_
    obtain ⟨u19, eu19, hf⟩ := ob hf
    obtain ⟨h20, eh20, hf⟩ := ob hf
    refine r_callVV (pc := 107) X [.ref a18] dX12_high_107 ml_X12_260 vo_X12_goHour ⟨Nat.le_refl _, Nat.le_refl _⟩ eu19 (ev_X12_goHour (d := d - 1) (by omega) _ _ _ _ eh20) hd1 rfl (Nat.le_of_ble_eq_true rfl) rfl ?_
    obtain ⟨x21, ex21, hf⟩ := ob hf
    refine r_iinc2 (pc := 110) X 1 [some (.ref v0), some (.int v1), some (.int o16.1), some (.int o16.2.1), some (.int o16.2.2), some (.int x21), j17] dX12_high_110 (by decide) rfl (by decide) ex21 rfl ?_
    refine r_goto (pc := 113) X 49 dX12_high_113 (by decide) ?_
    obtain rfl := Option.some.inj hf
    exact hk _
def fn_X12_high (h : aH) (p0 : Nat) (p1 : Int32) : Option (Int32 × aH) :=
  (pI h p0 11 11 0).bind fun h1 =>
  (fn_X12_in h1 p1 0 99).bind fun x2 =>
  if x2 = 0 then
    some ((-1), h1)
  else
    (gI h1 p0 11 1).bind fun x3 =>
    if x3 = 0 then
      some ((-2), h1)
    else
      (gR h1 p0 11 0).bind fun a4 =>
      (gR h1 p0 11 26).bind fun a5 =>
      (fn_X12_lay h1 a4 a5 0).bind fun h6 =>
      (lp (lb_X12_high_49 p0 p1) lpN ((-1), 0, 0, 0, h6)).bind fun o23 =>
      (pI o23.2.2.2 p0 11 10 0).bind fun h26 =>
      (ck h26 p0 11).bind fun u27 =>
      (fn_X12_tell h26 p0 (Int32.toInt64 o23.2.1)).bind fun h28 =>
      (ck h28 p0 11).bind fun u29 =>
      (fn_X12_tell h28 p0 (Int32.toInt64 o23.2.2.1)).bind fun h30 =>
      some (o23.1, h30)
set_option maxRecDepth 20000 in
set_option maxHeartbeats 4000000 in
theorem ev_X12_high {l : Launch} {g : aG} {d : Nat} (hd : 246 ≤ d) (h : aH) (p0 : Nat) (p1 : Int32) (o : Int32 × aH) (hf : fn_X12_high h p0 p1 = some o) : EvM l g d yX12_high cX12_high 7 (some .int) [.ref p0, .int p1] h (some (.int o.1), o.2) := by
  refine EvM.of mk_X12_high (Nat.le_of_ble_eq_true rfl) ?_
  intro Γ hl hg hq X
  have hd1 : 1 ≤ d := by omega
  have hk : RqI Γ o := hq
  unfold fn_X12_high at hf
  show Jd Γ (0, 0) 0 [some (.ref p0), some (.int p1), none, none, none, none, none] [] h
  refine r_aload_n (pc := 0) X dX12_high_0 rfl ?_
  refine r_iconst (pc := 1) X 0 dX12_high_1 (by decide) ?_
  obtain ⟨h1, eh1, hf⟩ := ob hf
  refine r_putI (pc := 2) X dX12_high_2 fp_X12_100 rfl eh1 ?_
  refine r_iload_n (pc := 5) X dX12_high_5 rfl ?_
  refine r_iconst (pc := 6) X 0 dX12_high_6 (by decide) ?_
  refine r_bipush (pc := 7) X 99 dX12_high_7 (by decide) ?_
  obtain ⟨x2, ex2, hf⟩ := ob hf
  refine r_callSI (pc := 9) X [.int p1, .int 0, .int 99] dX12_high_9 ml_X12_110 so_X12_in ⟨Nat.le_refl _, Nat.le_refl _⟩ (ev_X12_in (d := d - 1) (by omega) _ _ _ _ _ ex2) hd1 rfl (Nat.le_of_ble_eq_true rfl) rfl ?_
  refine r_if_ne (pc := 12) X 17 dX12_high_12 (by decide) (fun c32 => ?_) (fun c32 => ?_)
  · rw [if_neg c32] at hf
    refine r_aload_n (pc := 17) X dX12_high_17 rfl ?_
    obtain ⟨x3, ex3, hf⟩ := ob hf
    refine r_getI (pc := 18) X dX12_high_18 fl_X12_107 rfl ex3 ?_
    refine r_if_ne (pc := 21) X 27 dX12_high_21 (by decide) (fun c31 => ?_) (fun c31 => ?_)
    · rw [if_neg c31] at hf
      refine r_iconst (pc := 27) X (-1) dX12_high_27 (by decide) ?_
      refine r_istore_n (pc := 28) X [some (.ref p0), some (.int p1), some (.int (-1)), none, none, none, none] dX12_high_28 (by decide) rfl ?_
      refine r_iconst (pc := 29) X 0 dX12_high_29 (by decide) ?_
      refine r_istore_n (pc := 30) X [some (.ref p0), some (.int p1), some (.int (-1)), some (.int 0), none, none, none] dX12_high_30 (by decide) rfl ?_
      refine r_iconst (pc := 31) X 0 dX12_high_31 (by decide) ?_
      refine r_istore (pc := 32) X [some (.ref p0), some (.int p1), some (.int (-1)), some (.int 0), some (.int 0), none, none] dX12_high_32 (by decide) rfl ?_
      refine r_aload_n (pc := 34) X dX12_high_34 rfl ?_
      obtain ⟨a4, ea4, hf⟩ := ob hf
      refine r_getR (pc := 35) X dX12_high_35 fl_X12_9 rfl ea4 ?_
      refine r_aload_n (pc := 38) X dX12_high_38 rfl ?_
      obtain ⟨a5, ea5, hf⟩ := ob hf
      refine r_getR (pc := 39) X dX12_high_39 fl_X12_48 rfl ea5 ?_
      refine r_iconst (pc := 42) X 0 dX12_high_42 (by decide) ?_
      obtain ⟨h6, eh6, hf⟩ := ob hf
      refine r_callSV (pc := 43) X [.ref a4, .ref a5, .int 0] dX12_high_43 ml_X12_242 so_X12_lay ⟨Nat.le_refl _, Nat.le_refl _⟩ (ev_X12_lay (d := d - 1) (by omega) _ _ _ _ _ eh6) hd1 rfl (Nat.le_of_ble_eq_true rfl) rfl ?_
      refine r_iconst (pc := 46) X 0 dX12_high_46 (by decide) ?_
      refine r_istore (pc := 47) X [some (.ref p0), some (.int p1), some (.int (-1)), some (.int 0), some (.int 0), some (.int 0), none] dX12_high_47 (by decide) rfl ?_
      obtain ⟨o23, eo23, hf⟩ := ob hf
      refine (lw_X12_high_49 X hd _ _ lpN _ o23 eo23 ?_) _
      intro j24 j25
      refine r_aload_n (pc := 116) X dX12_high_116 rfl ?_
      refine r_iconst (pc := 117) X 0 dX12_high_117 (by decide) ?_
      obtain ⟨h26, eh26, hf⟩ := ob hf
      refine r_putI (pc := 118) X dX12_high_118 fp_X12_104 rfl eh26 ?_
      refine r_aload_n (pc := 121) X dX12_high_121 rfl ?_
      refine r_iload_n (pc := 122) X dX12_high_122 rfl ?_
      refine r_i2l (pc := 123) X dX12_high_123 ?_
      obtain ⟨u27, eu27, hf⟩ := ob hf
      obtain ⟨h28, eh28, hf⟩ := ob hf
      refine r_callVV (pc := 124) X [.long (Int32.toInt64 o23.2.1)] dX12_high_124 ml_X12_274 vo_X12_tell ⟨Nat.le_refl _, Nat.le_refl _⟩ eu27 (ev_X12_tell (d := d - 1) (by omega) _ _ _ _ eh28) hd1 rfl (Nat.le_of_ble_eq_true rfl) rfl ?_
      refine r_aload_n (pc := 127) X dX12_high_127 rfl ?_
      refine r_iload (pc := 128) X dX12_high_128 rfl ?_
      refine r_i2l (pc := 130) X dX12_high_130 ?_
      obtain ⟨u29, eu29, hf⟩ := ob hf
      obtain ⟨h30, eh30, hf⟩ := ob hf
      refine r_callVV (pc := 131) X [.long (Int32.toInt64 o23.2.2.1)] dX12_high_131 ml_X12_274 vo_X12_tell ⟨Nat.le_refl _, Nat.le_refl _⟩ eu29 (ev_X12_tell (d := d - 1) (by omega) _ _ _ _ eh30) hd1 rfl (Nat.le_of_ble_eq_true rfl) rfl ?_
      refine r_iload_n (pc := 134) X dX12_high_134 rfl ?_
      obtain rfl := Option.some.inj hf
      exact r_iret (pc := 135) X dX12_high_135 hk
    · rw [if_pos c31] at hf
      refine r_bipush (pc := 24) X (-2) dX12_high_24 (by decide) ?_
      obtain rfl := Option.some.inj hf
      exact r_iret (pc := 26) X dX12_high_26 hk
  · rw [if_pos c32] at hf
    refine r_iconst (pc := 15) X (-1) dX12_high_15 (by decide) ?_
    obtain rfl := Option.some.inj hf
    exact r_iret (pc := 16) X dX12_high_16 hk

theorem dX12_isSoon_0 : decode cX12_isSoon 0 = .ok (.iload_n 0, 1) := by decide +kernel
theorem dX12_isSoon_1 : decode cX12_isSoon 1 = .ok (.iconst 0, 1) := by decide +kernel
theorem dX12_isSoon_2 : decode cX12_isSoon 2 = .ok (.bipush 40, 2) := by decide +kernel
theorem dX12_isSoon_4 : decode cX12_isSoon 4 = .ok (.invokestatic 110, 3) := by decide +kernel
theorem dX12_isSoon_7 : decode cX12_isSoon 7 = .ok (.ireturn, 1) := by decide +kernel
def fn_X12_isSoon (h : aH) (p0 : Int32) : Option (Int32) :=
  (fn_X12_in h p0 0 40).bind fun x1 =>
  (bz x1).bind fun x2 =>
  some x2
set_option maxRecDepth 20000 in
set_option maxHeartbeats 4000000 in
theorem ev_X12_isSoon {l : Launch} {g : aG} {d : Nat} (hd : 1 ≤ d) (h : aH) (p0 : Int32) (o : Int32) (hf : fn_X12_isSoon h p0 = some o) : EvM l g d yX12_isSoon cX12_isSoon 1 (some .boolean) [.int p0] h (some (.int o), h) := by
  refine EvM.of mk_X12_isSoon (Nat.le_of_ble_eq_true rfl) ?_
  intro Γ hl hg hq X
  have hd1 : 1 ≤ d := by omega
  have hk : RpI h Γ o := hq
  unfold fn_X12_isSoon at hf
  show Jd Γ (0, 0) 0 [some (.int p0)] [] h
  refine r_iload_n (pc := 0) X dX12_isSoon_0 rfl ?_
  refine r_iconst (pc := 1) X 0 dX12_isSoon_1 (by decide) ?_
  refine r_bipush (pc := 2) X 40 dX12_isSoon_2 (by decide) ?_
  obtain ⟨x1, ex1, hf⟩ := ob hf
  refine r_callSI (pc := 4) X [.int p0, .int 0, .int 40] dX12_isSoon_4 ml_X12_110 so_X12_in ⟨Nat.le_refl _, Nat.le_refl _⟩ (ev_X12_in (d := d - 1) (by omega) _ _ _ _ _ ex1) hd1 rfl (Nat.le_of_ble_eq_true rfl) rfl ?_
  obtain ⟨x2, ex2, hf⟩ := ob hf
  obtain rfl := Option.some.inj hf
  exact r_zretB (pc := 7) X dX12_isSoon_7 ex2 hk

theorem dX12_beginTable_0 : decode cX12_beginTable 0 = .ok (.aload_n 0, 1) := by decide +kernel
theorem dX12_beginTable_1 : decode cX12_beginTable 1 = .ok (.getfield 9, 3) := by decide +kernel
theorem dX12_beginTable_4 : decode cX12_beginTable 4 = .ok (.aload_n 0, 1) := by decide +kernel
theorem dX12_beginTable_5 : decode cX12_beginTable 5 = .ok (.getfield 48, 3) := by decide +kernel
theorem dX12_beginTable_8 : decode cX12_beginTable 8 = .ok (.iconst 0, 1) := by decide +kernel
theorem dX12_beginTable_9 : decode cX12_beginTable 9 = .ok (.invokestatic 242, 3) := by decide +kernel
theorem dX12_beginTable_12 : decode cX12_beginTable 12 = .ok (.aload_n 0, 1) := by decide +kernel
theorem dX12_beginTable_13 : decode cX12_beginTable 13 = .ok (.getfield 48, 3) := by decide +kernel
theorem dX12_beginTable_16 : decode cX12_beginTable 16 = .ok (.iload_n 1, 1) := by decide +kernel
theorem dX12_beginTable_17 : decode cX12_beginTable 17 = .ok (.iload_n 3, 1) := by decide +kernel
theorem dX12_beginTable_18 : decode cX12_beginTable 18 = .ok (.iconst 0, 1) := by decide +kernel
theorem dX12_beginTable_19 : decode cX12_beginTable 19 = .ok (.invokestatic 252, 3) := by decide +kernel
theorem dX12_beginTable_22 : decode cX12_beginTable 22 = .ok (.ifCond .eq 8, 3) := by decide +kernel
theorem dX12_beginTable_25 : decode cX12_beginTable 25 = .ok (.bipush 9, 2) := by decide +kernel
theorem dX12_beginTable_27 : decode cX12_beginTable 27 = .ok (.goto 4, 3) := by decide +kernel
theorem dX12_beginTable_30 : decode cX12_beginTable 30 = .ok (.iconst 0, 1) := by decide +kernel
theorem dX12_beginTable_31 : decode cX12_beginTable 31 = .ok (.iastore, 1) := by decide +kernel
theorem dX12_beginTable_32 : decode cX12_beginTable 32 = .ok (.aload_n 0, 1) := by decide +kernel
theorem dX12_beginTable_33 : decode cX12_beginTable 33 = .ok (.getfield 48, 3) := by decide +kernel
theorem dX12_beginTable_36 : decode cX12_beginTable 36 = .ok (.iload_n 2, 1) := by decide +kernel
theorem dX12_beginTable_37 : decode cX12_beginTable 37 = .ok (.iload_n 3, 1) := by decide +kernel
theorem dX12_beginTable_38 : decode cX12_beginTable 38 = .ok (.iconst 1, 1) := by decide +kernel
theorem dX12_beginTable_39 : decode cX12_beginTable 39 = .ok (.invokestatic 252, 3) := by decide +kernel
theorem dX12_beginTable_42 : decode cX12_beginTable 42 = .ok (.ifCond .eq 8, 3) := by decide +kernel
theorem dX12_beginTable_45 : decode cX12_beginTable 45 = .ok (.bipush 9, 2) := by decide +kernel
theorem dX12_beginTable_47 : decode cX12_beginTable 47 = .ok (.goto 4, 3) := by decide +kernel
theorem dX12_beginTable_50 : decode cX12_beginTable 50 = .ok (.iconst 0, 1) := by decide +kernel
theorem dX12_beginTable_51 : decode cX12_beginTable 51 = .ok (.iastore, 1) := by decide +kernel
theorem dX12_beginTable_52 : decode cX12_beginTable 52 = .ok (.return_, 1) := by decide +kernel
def fn_X12_beginTable (h : aH) (p0 : Nat) (p1 : Int32) (p2 : Int32) (p3 : Int32) : Option (aH) :=
  (gR h p0 11 0).bind fun a1 =>
  (gR h p0 11 26).bind fun a2 =>
  (fn_X12_lay h a1 a2 0).bind fun h3 =>
  (gR h3 p0 11 26).bind fun a4 =>
  (fn_X12_has h3 p3 0).bind fun x5 =>
  ((
    if x5 = 0 then
      some 0
    else
      some 9
  ) : Option (Int32)).bind fun t6 =>
  (wI h3 a4 p1 t6).bind fun h7 =>
  (gR h7 p0 11 26).bind fun a8 =>
  (fn_X12_has h7 p3 1).bind fun x9 =>
  ((
    if x9 = 0 then
      some 0
    else
      some 9
  ) : Option (Int32)).bind fun t10 =>
  (wI h7 a8 p2 t10).bind fun h11 =>
  some h11
set_option maxRecDepth 20000 in
set_option maxHeartbeats 4000000 in
theorem ev_X12_beginTable {l : Launch} {g : aG} {d : Nat} (hd : 1 ≤ d) (h : aH) (p0 : Nat) (p1 : Int32) (p2 : Int32) (p3 : Int32) (o : aH) (hf : fn_X12_beginTable h p0 p1 p2 p3 = some o) : EvM l g d yX12_beginTable cX12_beginTable 4 none [.ref p0, .int p1, .int p2, .int p3] h (none, o) := by
  refine EvM.of mk_X12_beginTable (Nat.le_of_ble_eq_true rfl) ?_
  intro Γ hl hg hq X
  have hd1 : 1 ≤ d := by omega
  have hk : RqV Γ o := hq
  unfold fn_X12_beginTable at hf
  show Jd Γ (0, 0) 0 [some (.ref p0), some (.int p1), some (.int p2), some (.int p3)] [] h
  refine r_aload_n (pc := 0) X dX12_beginTable_0 rfl ?_
  obtain ⟨a1, ea1, hf⟩ := ob hf
  refine r_getR (pc := 1) X dX12_beginTable_1 fl_X12_9 rfl ea1 ?_
  refine r_aload_n (pc := 4) X dX12_beginTable_4 rfl ?_
  obtain ⟨a2, ea2, hf⟩ := ob hf
  refine r_getR (pc := 5) X dX12_beginTable_5 fl_X12_48 rfl ea2 ?_
  refine r_iconst (pc := 8) X 0 dX12_beginTable_8 (by decide) ?_
  obtain ⟨h3, eh3, hf⟩ := ob hf
  refine r_callSV (pc := 9) X [.ref a1, .ref a2, .int 0] dX12_beginTable_9 ml_X12_242 so_X12_lay ⟨Nat.le_refl _, Nat.le_refl _⟩ (ev_X12_lay (d := d - 1) (by omega) _ _ _ _ _ eh3) hd1 rfl (Nat.le_of_ble_eq_true rfl) rfl ?_
  refine r_aload_n (pc := 12) X dX12_beginTable_12 rfl ?_
  obtain ⟨a4, ea4, hf⟩ := ob hf
  refine r_getR (pc := 13) X dX12_beginTable_13 fl_X12_48 rfl ea4 ?_
  refine r_iload_n (pc := 16) X dX12_beginTable_16 rfl ?_
  refine r_iload_n (pc := 17) X dX12_beginTable_17 rfl ?_
  refine r_iconst (pc := 18) X 0 dX12_beginTable_18 (by decide) ?_
  obtain ⟨x5, ex5, hf⟩ := ob hf
  refine r_callSI (pc := 19) X [.int p3, .int 0] dX12_beginTable_19 ml_X12_252 so_X12_has ⟨Nat.le_refl _, Nat.le_refl _⟩ (ev_X12_has (d := d - 1) (by omega) _ _ _ _ ex5) hd1 rfl (Nat.le_of_ble_eq_true rfl) rfl ?_
  obtain ⟨t6, et6, hf⟩ := ob hf
  have Jt6 : Jd Γ (0, 0) 31 [some (.ref p0), some (.int p1), some (.int p2), some (.int p3)] [.int t6, .int p1, .ref a4] h3 := by
    obtain ⟨h7, eh7, hf⟩ := ob hf
    refine r_iast (pc := 31) X dX12_beginTable_31 eh7 ?_
    refine r_aload_n (pc := 32) X dX12_beginTable_32 rfl ?_
    obtain ⟨a8, ea8, hf⟩ := ob hf
    refine r_getR (pc := 33) X dX12_beginTable_33 fl_X12_48 rfl ea8 ?_
    refine r_iload_n (pc := 36) X dX12_beginTable_36 rfl ?_
    refine r_iload_n (pc := 37) X dX12_beginTable_37 rfl ?_
    refine r_iconst (pc := 38) X 1 dX12_beginTable_38 (by decide) ?_
    obtain ⟨x9, ex9, hf⟩ := ob hf
    refine r_callSI (pc := 39) X [.int p3, .int 1] dX12_beginTable_39 ml_X12_252 so_X12_has ⟨Nat.le_refl _, Nat.le_refl _⟩ (ev_X12_has (d := d - 1) (by omega) _ _ _ _ ex9) hd1 rfl (Nat.le_of_ble_eq_true rfl) rfl ?_
    obtain ⟨t10, et10, hf⟩ := ob hf
    have Jt10 : Jd Γ (0, 0) 51 [some (.ref p0), some (.int p1), some (.int p2), some (.int p3)] [.int t10, .int p2, .ref a8] h7 := by
      obtain ⟨h11, eh11, hf⟩ := ob hf
      refine r_iast (pc := 51) X dX12_beginTable_51 eh11 ?_
      obtain rfl := Option.some.inj hf
      exact r_vret (pc := 52) X dX12_beginTable_52 hk
    refine r_if_eq (pc := 42) X 50 dX12_beginTable_42 (by decide) (fun c12 => ?_) (fun c12 => ?_)
    · rw [if_pos c12] at et10
      refine r_iconst (pc := 50) X 0 dX12_beginTable_50 (by decide) ?_
      obtain rfl := Option.some.inj et10
      exact Jt10
    · rw [if_neg c12] at et10
      refine r_bipush (pc := 45) X 9 dX12_beginTable_45 (by decide) ?_
      refine r_goto (pc := 47) X 51 dX12_beginTable_47 (by decide) ?_
      obtain rfl := Option.some.inj et10
      exact Jt10
  refine r_if_eq (pc := 22) X 30 dX12_beginTable_22 (by decide) (fun c13 => ?_) (fun c13 => ?_)
  · rw [if_pos c13] at et6
    refine r_iconst (pc := 30) X 0 dX12_beginTable_30 (by decide) ?_
    obtain rfl := Option.some.inj et6
    exact Jt6
  · rw [if_neg c13] at et6
    refine r_bipush (pc := 25) X 9 dX12_beginTable_25 (by decide) ?_
    refine r_goto (pc := 27) X 31 dX12_beginTable_27 (by decide) ?_
    obtain rfl := Option.some.inj et6
    exact Jt6

theorem dX12_table_0 : decode cX12_table 0 = .ok (.aload_n 0, 1) := by decide +kernel
theorem dX12_table_1 : decode cX12_table 1 = .ok (.iconst 0, 1) := by decide +kernel
theorem dX12_table_2 : decode cX12_table 2 = .ok (.putfield 100, 3) := by decide +kernel
theorem dX12_table_5 : decode cX12_table 5 = .ok (.aload_n 0, 1) := by decide +kernel
theorem dX12_table_6 : decode cX12_table 6 = .ok (.iload_n 1, 1) := by decide +kernel
theorem dX12_table_7 : decode cX12_table 7 = .ok (.iload_n 2, 1) := by decide +kernel
theorem dX12_table_8 : decode cX12_table 8 = .ok (.invokevirtual 318, 3) := by decide +kernel
theorem dX12_table_11 : decode cX12_table 11 = .ok (.ifCond .eq 19, 3) := by decide +kernel
theorem dX12_table_14 : decode cX12_table 14 = .ok (.aload_n 0, 1) := by decide +kernel
theorem dX12_table_15 : decode cX12_table 15 = .ok (.iload_n 3, 1) := by decide +kernel
theorem dX12_table_16 : decode cX12_table 16 = .ok (.invokevirtual 114, 3) := by decide +kernel
theorem dX12_table_19 : decode cX12_table 19 = .ok (.ifCond .eq 11, 3) := by decide +kernel
theorem dX12_table_22 : decode cX12_table 22 = .ok (.iload 4, 2) := by decide +kernel
theorem dX12_table_24 : decode cX12_table 24 = .ok (.invokestatic 321, 3) := by decide +kernel
theorem dX12_table_27 : decode cX12_table 27 = .ok (.ifCond .ne 5, 3) := by decide +kernel
theorem dX12_table_30 : decode cX12_table 30 = .ok (.iconst (-1), 1) := by decide +kernel
theorem dX12_table_31 : decode cX12_table 31 = .ok (.ireturn, 1) := by decide +kernel
theorem dX12_table_32 : decode cX12_table 32 = .ok (.iconst 0, 1) := by decide +kernel
theorem dX12_table_33 : decode cX12_table 33 = .ok (.istore 5, 2) := by decide +kernel
theorem dX12_table_35 : decode cX12_table 35 = .ok (.aload_n 0, 1) := by decide +kernel
theorem dX12_table_36 : decode cX12_table 36 = .ok (.iconst 0, 1) := by decide +kernel
theorem dX12_table_37 : decode cX12_table 37 = .ok (.putfield 104, 3) := by decide +kernel
theorem dX12_table_40 : decode cX12_table 40 = .ok (.iconst 0, 1) := by decide +kernel
theorem dX12_table_41 : decode cX12_table 41 = .ok (.istore 6, 2) := by decide +kernel
theorem dX12_table_43 : decode cX12_table 43 = .ok (.iload 6, 2) := by decide +kernel
theorem dX12_table_45 : decode cX12_table 45 = .ok (.iconst 4, 1) := by decide +kernel
theorem dX12_table_46 : decode cX12_table 46 = .ok (.if_icmp .ge 63, 3) := by decide +kernel
theorem dX12_table_49 : decode cX12_table 49 = .ok (.aload_n 0, 1) := by decide +kernel
theorem dX12_table_50 : decode cX12_table 50 = .ok (.iload_n 1, 1) := by decide +kernel
theorem dX12_table_51 : decode cX12_table 51 = .ok (.iload_n 2, 1) := by decide +kernel
theorem dX12_table_52 : decode cX12_table 52 = .ok (.iload 6, 2) := by decide +kernel
theorem dX12_table_54 : decode cX12_table 54 = .ok (.invokevirtual 324, 3) := by decide +kernel
theorem dX12_table_57 : decode cX12_table 57 = .ok (.aload_n 0, 1) := by decide +kernel
theorem dX12_table_58 : decode cX12_table 58 = .ok (.aload_n 0, 1) := by decide +kernel
theorem dX12_table_59 : decode cX12_table 59 = .ok (.getfield 48, 3) := by decide +kernel
theorem dX12_table_62 : decode cX12_table 62 = .ok (.iload 4, 2) := by decide +kernel
theorem dX12_table_64 : decode cX12_table 64 = .ok (.invokevirtual 267, 3) := by decide +kernel
theorem dX12_table_67 : decode cX12_table 67 = .ok (.iload 5, 2) := by decide +kernel
theorem dX12_table_69 : decode cX12_table 69 = .ok (.aload_n 0, 1) := by decide +kernel
theorem dX12_table_70 : decode cX12_table 70 = .ok (.aload_n 0, 1) := by decide +kernel
theorem dX12_table_71 : decode cX12_table 71 = .ok (.getfield 48, 3) := by decide +kernel
theorem dX12_table_74 : decode cX12_table 74 = .ok (.iload_n 3, 1) := by decide +kernel
theorem dX12_table_75 : decode cX12_table 75 = .ok (.invokevirtual 306, 3) := by decide +kernel
theorem dX12_table_78 : decode cX12_table 78 = .ok (.ifCond .eq 10, 3) := by decide +kernel
theorem dX12_table_81 : decode cX12_table 81 = .ok (.iconst 1, 1) := by decide +kernel
theorem dX12_table_82 : decode cX12_table 82 = .ok (.iload 6, 2) := by decide +kernel
theorem dX12_table_84 : decode cX12_table 84 = .ok (.ishl, 1) := by decide +kernel
theorem dX12_table_85 : decode cX12_table 85 = .ok (.goto 4, 3) := by decide +kernel
theorem dX12_table_88 : decode cX12_table 88 = .ok (.iconst 0, 1) := by decide +kernel
theorem dX12_table_89 : decode cX12_table 89 = .ok (.ior, 1) := by decide +kernel
theorem dX12_table_90 : decode cX12_table 90 = .ok (.istore 5, 2) := by decide +kernel
theorem dX12_table_92 : decode cX12_table 92 = .ok (.aload_n 0, 1) := by decide +kernel
theorem dX12_table_93 : decode cX12_table 93 = .ok (.aload_n 0, 1) := by decide +kernel
theorem dX12_table_94 : decode cX12_table 94 = .ok (.getfield 48, 3) := by decide +kernel
theorem dX12_table_97 : decode cX12_table 97 = .ok (.iload_n 3, 1) := by decide +kernel
theorem dX12_table_98 : decode cX12_table 98 = .ok (.iaload, 1) := by decide +kernel
theorem dX12_table_99 : decode cX12_table 99 = .ok (.i2l, 1) := by decide +kernel
theorem dX12_table_100 : decode cX12_table 100 = .ok (.invokevirtual 274, 3) := by decide +kernel
theorem dX12_table_103 : decode cX12_table 103 = .ok (.iinc 6 1, 3) := by decide +kernel
theorem dX12_table_106 : decode cX12_table 106 = .ok (.goto (-63), 3) := by decide +kernel
theorem dX12_table_109 : decode cX12_table 109 = .ok (.iload 5, 2) := by decide +kernel
theorem dX12_table_111 : decode cX12_table 111 = .ok (.ireturn, 1) := by decide +kernel
def lb_X12_table_43 (v0 : Nat) (v1 : Int32) (v2 : Int32) (v3 : Int32) (v4 : Int32) (s : Int32 × Int32 × aH) : Option ((Int32 × Int32 × aH) ⊕ ((Int32 × aH))) :=
  if s.2.1 < 4 then
    (ck s.2.2 v0 11).bind fun u8 =>
    (fn_X12_beginTable s.2.2 v0 v1 v2 s.2.1).bind fun h9 =>
    (gR h9 v0 11 26).bind fun a10 =>
    (ck h9 v0 11).bind fun u11 =>
    (fn_X12_goHours h9 v0 a10 v4).bind fun h12 =>
    (gR h12 v0 11 26).bind fun a13 =>
    (ck h12 v0 11).bind fun u14 =>
    (fn_X12_isMarked h12 v0 a13 v3).bind fun x15 =>
    ((
      if x15 = 0 then
        some 0
      else
        some (1 <<< (s.2.1 &&& 31))
    ) : Option (Int32)).bind fun t16 =>
    (some (s.1 ||| t16)).bind fun x17 =>
    (gR h12 v0 11 26).bind fun a18 =>
    (aI h12 a18 14 v3).bind fun x19 =>
    (ck h12 v0 11).bind fun u20 =>
    (fn_X12_tell h12 v0 (Int32.toInt64 x19)).bind fun h21 =>
    (some (s.2.1 + 1)).bind fun x22 =>
    some (.inl (x17, x22, h21))
  else
    some (.inr (s.1, s.2.2))
def hd_X12_table_43 (Γ : aC) (v0 : Nat) (v1 : Int32) (v2 : Int32) (v3 : Int32) (v4 : Int32) (s : Int32 × Int32 × aH) : Prop := Jd Γ (0, 0) 43 [some (.ref v0), some (.int v1), some (.int v2), some (.int v3), some (.int v4), some (.int s.1), some (.int s.2.1)] [] s.2.2
def ex_X12_table_43 (Γ : aC) (v0 : Nat) (v1 : Int32) (v2 : Int32) (v3 : Int32) (v4 : Int32) (r : (Int32 × aH)) : Prop := (fun r => RqI Γ r) r
set_option maxRecDepth 20000 in
set_option maxHeartbeats 4000000 in
theorem lw_X12_table_43 {Γ : aC} {d : Nat} (X : Cx Γ RX12 cX12_table 7 (some .int) (d, 0, 0)) (hd : 247 ≤ d) (v0 : Nat) (v1 : Int32) (v2 : Int32) (v3 : Int32) (v4 : Int32) : ∀ n s o, lp (lb_X12_table_43 v0 v1 v2 v3 v4) n s = some o → ex_X12_table_43 Γ v0 v1 v2 v3 v4 o → hd_X12_table_43 Γ v0 v1 v2 v3 v4 s := by
  have hd1 : 1 ≤ d := by omega
  refine J_lp _ _ _ ?_
  intro s o hf hk
  unfold lb_X12_table_43 at hf
  refine r_iload (pc := 43) X dX12_table_43 rfl ?_
  refine r_iconst (pc := 45) X 4 dX12_table_45 (by decide) ?_
  refine r_icmp_ge (pc := 46) X 109 dX12_table_46 (by decide) (fun c24 => ?_) (fun c24 => ?_)
  · rw [if_neg c24] at hf
    refine r_iload (pc := 109) X dX12_table_109 rfl ?_
    obtain rfl := Option.some.inj hf
    exact r_iret (pc := 111) X dX12_table_111 hk
  · rw [if_pos c24] at hf
    refine r_aload_n (pc := 49) X dX12_table_49 rfl ?_
    refine r_iload_n (pc := 50) X dX12_table_50 rfl ?_
    refine r_iload_n (pc := 51) X dX12_table_51 rfl ?_
    refine r_iload (pc := 52) X dX12_table_52 rfl ?_
    obtain ⟨u8, eu8, hf⟩ := ob hf
    obtain ⟨h9, eh9, hf⟩ := ob hf
    refine r_callVV (pc := 54) X [.int v1, .int v2, .int s.2.1] dX12_table_54 ml_X12_324 vo_X12_beginTable ⟨Nat.le_refl _, Nat.le_refl _⟩ eu8 (ev_X12_beginTable (d := d - 1) (by omega) _ _ _ _ _ _ eh9) hd1 rfl (Nat.le_of_ble_eq_true rfl) rfl ?_
    refine r_aload_n (pc := 57) X dX12_table_57 rfl ?_
    refine r_aload_n (pc := 58) X dX12_table_58 rfl ?_
    obtain ⟨a10, ea10, hf⟩ := ob hf
    refine r_getR (pc := 59) X dX12_table_59 fl_X12_48 rfl ea10 ?_
    refine r_iload (pc := 62) X dX12_table_62 rfl ?_
    obtain ⟨u11, eu11, hf⟩ := ob hf
    obtain ⟨h12, eh12, hf⟩ := ob hf
    refine r_callVV (pc := 64) X [.ref a10, .int v4] dX12_table_64 ml_X12_267 vo_X12_goHours ⟨Nat.le_refl _, Nat.le_refl _⟩ eu11 (ev_X12_goHours (d := d - 1) (by omega) _ _ _ _ _ eh12) hd1 rfl (Nat.le_of_ble_eq_true rfl) rfl ?_
    refine r_iload (pc := 67) X dX12_table_67 rfl ?_
    refine r_aload_n (pc := 69) X dX12_table_69 rfl ?_
    refine r_aload_n (pc := 70) X dX12_table_70 rfl ?_
    obtain ⟨a13, ea13, hf⟩ := ob hf
    refine r_getR (pc := 71) X dX12_table_71 fl_X12_48 rfl ea13 ?_
    refine r_iload_n (pc := 74) X dX12_table_74 rfl ?_
    obtain ⟨u14, eu14, hf⟩ := ob hf
    obtain ⟨x15, ex15, hf⟩ := ob hf
    refine r_callVI (pc := 75) X [.ref a13, .int v3] dX12_table_75 ml_X12_306 vo_X12_isMarked ⟨Nat.le_refl _, Nat.le_refl _⟩ eu14 (ev_X12_isMarked (d := d - 1) (by omega) _ _ _ _ _ ex15) hd1 rfl (Nat.le_of_ble_eq_true rfl) rfl ?_
    obtain ⟨t16, et16, hf⟩ := ob hf
    have Jt16 : Jd Γ (0, 0) 89 [some (.ref v0), some (.int v1), some (.int v2), some (.int v3), some (.int v4), some (.int s.1), some (.int s.2.1)] [.int t16, .int s.1] h12 := by
      refine r_ior (pc := 89) X dX12_table_89 ?_
      obtain ⟨x17, ex17, hf⟩ := ob hf
      refine r_nmI ex17 ?_
      refine r_istore (pc := 90) X [some (.ref v0), some (.int v1), some (.int v2), some (.int v3), some (.int v4), some (.int x17), some (.int s.2.1)] dX12_table_90 (by decide) rfl ?_
      refine r_aload_n (pc := 92) X dX12_table_92 rfl ?_
      refine r_aload_n (pc := 93) X dX12_table_93 rfl ?_
      obtain ⟨a18, ea18, hf⟩ := ob hf
      refine r_getR (pc := 94) X dX12_table_94 fl_X12_48 rfl ea18 ?_
      refine r_iload_n (pc := 97) X dX12_table_97 rfl ?_
      obtain ⟨x19, ex19, hf⟩ := ob hf
      refine r_iald (pc := 98) X dX12_table_98 ex19 ?_
      refine r_i2l (pc := 99) X dX12_table_99 ?_
      obtain ⟨u20, eu20, hf⟩ := ob hf
      obtain ⟨h21, eh21, hf⟩ := ob hf
      refine r_callVV (pc := 100) X [.long (Int32.toInt64 x19)] dX12_table_100 ml_X12_274 vo_X12_tell ⟨Nat.le_refl _, Nat.le_refl _⟩ eu20 (ev_X12_tell (d := d - 1) (by omega) _ _ _ _ eh21) hd1 rfl (Nat.le_of_ble_eq_true rfl) rfl ?_
      obtain ⟨x22, ex22, hf⟩ := ob hf
      refine r_iinc2 (pc := 103) X 1 [some (.ref v0), some (.int v1), some (.int v2), some (.int v3), some (.int v4), some (.int x17), some (.int x22)] dX12_table_103 (by decide) rfl (by decide) ex22 rfl ?_
      refine r_goto (pc := 106) X 43 dX12_table_106 (by decide) ?_
      obtain rfl := Option.some.inj hf
      exact hk
    refine r_if_eq (pc := 78) X 88 dX12_table_78 (by decide) (fun c23 => ?_) (fun c23 => ?_)
    · rw [if_pos c23] at et16
      refine r_iconst (pc := 88) X 0 dX12_table_88 (by decide) ?_
      obtain rfl := Option.some.inj et16
      exact Jt16
    · rw [if_neg c23] at et16
      refine r_iconst (pc := 81) X 1 dX12_table_81 (by decide) ?_
      refine r_iload (pc := 82) X dX12_table_82 rfl ?_
      refine r_ishl (pc := 84) X dX12_table_84 ?_
      refine r_goto (pc := 85) X 89 dX12_table_85 (by decide) ?_
      obtain rfl := Option.some.inj et16
      exact Jt16
def fn_X12_table (h : aH) (p0 : Nat) (p1 : Int32) (p2 : Int32) (p3 : Int32) (p4 : Int32) : Option (Int32 × aH) :=
  (pI h p0 11 11 0).bind fun h1 =>
  (ck h1 p0 11).bind fun u2 =>
  (fn_X12_areTwo h1 p0 p1 p2).bind fun x3 =>
  if x3 = 0 then
    some ((-1), h1)
  else
    (ck h1 p0 11).bind fun u4 =>
    (fn_X12_isBasin h1 p0 p3).bind fun x5 =>
    if x5 = 0 then
      some ((-1), h1)
    else
      (fn_X12_isSoon h1 p4).bind fun x6 =>
      if x6 = 0 then
        some ((-1), h1)
      else
        (pI h1 p0 11 10 0).bind fun h7 =>
        (lp (lb_X12_table_43 p0 p1 p2 p3 p4) lpN (0, 0, h7)).bind fun o25 =>
        some o25
set_option maxRecDepth 20000 in
set_option maxHeartbeats 4000000 in
theorem ev_X12_table {l : Launch} {g : aG} {d : Nat} (hd : 247 ≤ d) (h : aH) (p0 : Nat) (p1 : Int32) (p2 : Int32) (p3 : Int32) (p4 : Int32) (o : Int32 × aH) (hf : fn_X12_table h p0 p1 p2 p3 p4 = some o) : EvM l g d yX12_table cX12_table 7 (some .int) [.ref p0, .int p1, .int p2, .int p3, .int p4] h (some (.int o.1), o.2) := by
  refine EvM.of mk_X12_table (Nat.le_of_ble_eq_true rfl) ?_
  intro Γ hl hg hq X
  have hd1 : 1 ≤ d := by omega
  have hk : RqI Γ o := hq
  unfold fn_X12_table at hf
  show Jd Γ (0, 0) 0 [some (.ref p0), some (.int p1), some (.int p2), some (.int p3), some (.int p4), none, none] [] h
  refine r_aload_n (pc := 0) X dX12_table_0 rfl ?_
  refine r_iconst (pc := 1) X 0 dX12_table_1 (by decide) ?_
  obtain ⟨h1, eh1, hf⟩ := ob hf
  refine r_putI (pc := 2) X dX12_table_2 fp_X12_100 rfl eh1 ?_
  refine r_aload_n (pc := 5) X dX12_table_5 rfl ?_
  refine r_iload_n (pc := 6) X dX12_table_6 rfl ?_
  refine r_iload_n (pc := 7) X dX12_table_7 rfl ?_
  obtain ⟨u2, eu2, hf⟩ := ob hf
  obtain ⟨x3, ex3, hf⟩ := ob hf
  refine r_callVI (pc := 8) X [.int p1, .int p2] dX12_table_8 ml_X12_318 vo_X12_areTwo ⟨Nat.le_refl _, Nat.le_refl _⟩ eu2 (ev_X12_areTwo (d := d - 1) (by omega) _ _ _ _ _ ex3) hd1 rfl (Nat.le_of_ble_eq_true rfl) rfl ?_
  refine r_if_eq (pc := 11) X 30 dX12_table_11 (by decide) (fun c28 => ?_) (fun c28 => ?_)
  · rw [if_pos c28] at hf
    refine r_iconst (pc := 30) X (-1) dX12_table_30 (by decide) ?_
    obtain rfl := Option.some.inj hf
    exact r_iret (pc := 31) X dX12_table_31 hk
  · rw [if_neg c28] at hf
    refine r_aload_n (pc := 14) X dX12_table_14 rfl ?_
    refine r_iload_n (pc := 15) X dX12_table_15 rfl ?_
    obtain ⟨u4, eu4, hf⟩ := ob hf
    obtain ⟨x5, ex5, hf⟩ := ob hf
    refine r_callVI (pc := 16) X [.int p3] dX12_table_16 ml_X12_114 vo_X12_isBasin ⟨Nat.le_refl _, Nat.le_refl _⟩ eu4 (ev_X12_isBasin (d := d - 1) (by omega) _ _ _ _ ex5) hd1 rfl (Nat.le_of_ble_eq_true rfl) rfl ?_
    refine r_if_eq (pc := 19) X 30 dX12_table_19 (by decide) (fun c27 => ?_) (fun c27 => ?_)
    · rw [if_pos c27] at hf
      refine r_iconst (pc := 30) X (-1) dX12_table_30 (by decide) ?_
      obtain rfl := Option.some.inj hf
      exact r_iret (pc := 31) X dX12_table_31 hk
    · rw [if_neg c27] at hf
      refine r_iload (pc := 22) X dX12_table_22 rfl ?_
      obtain ⟨x6, ex6, hf⟩ := ob hf
      refine r_callSI (pc := 24) X [.int p4] dX12_table_24 ml_X12_321 so_X12_isSoon ⟨Nat.le_refl _, Nat.le_refl _⟩ (ev_X12_isSoon (d := d - 1) (by omega) _ _ _ ex6) hd1 rfl (Nat.le_of_ble_eq_true rfl) rfl ?_
      refine r_if_ne (pc := 27) X 32 dX12_table_27 (by decide) (fun c26 => ?_) (fun c26 => ?_)
      · rw [if_neg c26] at hf
        refine r_iconst (pc := 32) X 0 dX12_table_32 (by decide) ?_
        refine r_istore (pc := 33) X [some (.ref p0), some (.int p1), some (.int p2), some (.int p3), some (.int p4), some (.int 0), none] dX12_table_33 (by decide) rfl ?_
        refine r_aload_n (pc := 35) X dX12_table_35 rfl ?_
        refine r_iconst (pc := 36) X 0 dX12_table_36 (by decide) ?_
        obtain ⟨h7, eh7, hf⟩ := ob hf
        refine r_putI (pc := 37) X dX12_table_37 fp_X12_104 rfl eh7 ?_
        refine r_iconst (pc := 40) X 0 dX12_table_40 (by decide) ?_
        refine r_istore (pc := 41) X [some (.ref p0), some (.int p1), some (.int p2), some (.int p3), some (.int p4), some (.int 0), some (.int 0)] dX12_table_41 (by decide) rfl ?_
        obtain ⟨o25, eo25, hf⟩ := ob hf
        refine (lw_X12_table_43 X hd _ _ _ _ _ lpN _ o25 eo25 ?_)
        obtain rfl := Option.some.inj hf
        exact hk
      · rw [if_pos c26] at hf
        refine r_iconst (pc := 30) X (-1) dX12_table_30 (by decide) ?_
        obtain rfl := Option.some.inj hf
        exact r_iret (pc := 31) X dX12_table_31 hk

theorem dX12_quarters_0 : decode cX12_quarters 0 = .ok (.aload_n 0, 1) := by decide +kernel
theorem dX12_quarters_1 : decode cX12_quarters 1 = .ok (.iconst 0, 1) := by decide +kernel
theorem dX12_quarters_2 : decode cX12_quarters 2 = .ok (.putfield 100, 3) := by decide +kernel
theorem dX12_quarters_5 : decode cX12_quarters 5 = .ok (.iload_n 1, 1) := by decide +kernel
theorem dX12_quarters_6 : decode cX12_quarters 6 = .ok (.iconst 0, 1) := by decide +kernel
theorem dX12_quarters_7 : decode cX12_quarters 7 = .ok (.bipush 15, 2) := by decide +kernel
theorem dX12_quarters_9 : decode cX12_quarters 9 = .ok (.invokestatic 110, 3) := by decide +kernel
theorem dX12_quarters_12 : decode cX12_quarters 12 = .ok (.ifCond .eq 10, 3) := by decide +kernel
theorem dX12_quarters_15 : decode cX12_quarters 15 = .ok (.iload_n 2, 1) := by decide +kernel
theorem dX12_quarters_16 : decode cX12_quarters 16 = .ok (.invokestatic 321, 3) := by decide +kernel
theorem dX12_quarters_19 : decode cX12_quarters 19 = .ok (.ifCond .ne 5, 3) := by decide +kernel
theorem dX12_quarters_22 : decode cX12_quarters 22 = .ok (.iconst (-1), 1) := by decide +kernel
theorem dX12_quarters_23 : decode cX12_quarters 23 = .ok (.ireturn, 1) := by decide +kernel
theorem dX12_quarters_24 : decode cX12_quarters 24 = .ok (.iconst 0, 1) := by decide +kernel
theorem dX12_quarters_25 : decode cX12_quarters 25 = .ok (.istore_n 3, 1) := by decide +kernel
theorem dX12_quarters_26 : decode cX12_quarters 26 = .ok (.aload_n 0, 1) := by decide +kernel
theorem dX12_quarters_27 : decode cX12_quarters 27 = .ok (.iconst 0, 1) := by decide +kernel
theorem dX12_quarters_28 : decode cX12_quarters 28 = .ok (.putfield 104, 3) := by decide +kernel
theorem dX12_quarters_31 : decode cX12_quarters 31 = .ok (.iconst 0, 1) := by decide +kernel
theorem dX12_quarters_32 : decode cX12_quarters 32 = .ok (.istore 4, 2) := by decide +kernel
theorem dX12_quarters_34 : decode cX12_quarters 34 = .ok (.iload 4, 2) := by decide +kernel
theorem dX12_quarters_36 : decode cX12_quarters 36 = .ok (.aload_n 0, 1) := by decide +kernel
theorem dX12_quarters_37 : decode cX12_quarters 37 = .ok (.getfield 107, 3) := by decide +kernel
theorem dX12_quarters_40 : decode cX12_quarters 40 = .ok (.if_icmp .ge 199, 3) := by decide +kernel
theorem dX12_quarters_43 : decode cX12_quarters 43 = .ok (.iload 4, 2) := by decide +kernel
theorem dX12_quarters_45 : decode cX12_quarters 45 = .ok (.iconst 1, 1) := by decide +kernel
theorem dX12_quarters_46 : decode cX12_quarters 46 = .ok (.iadd, 1) := by decide +kernel
theorem dX12_quarters_47 : decode cX12_quarters 47 = .ok (.istore 5, 2) := by decide +kernel
theorem dX12_quarters_49 : decode cX12_quarters 49 = .ok (.iload 5, 2) := by decide +kernel
theorem dX12_quarters_51 : decode cX12_quarters 51 = .ok (.aload_n 0, 1) := by decide +kernel
theorem dX12_quarters_52 : decode cX12_quarters 52 = .ok (.getfield 107, 3) := by decide +kernel
theorem dX12_quarters_55 : decode cX12_quarters 55 = .ok (.if_icmp .ge 178, 3) := by decide +kernel
theorem dX12_quarters_58 : decode cX12_quarters 58 = .ok (.iconst 0, 1) := by decide +kernel
theorem dX12_quarters_59 : decode cX12_quarters 59 = .ok (.istore 6, 2) := by decide +kernel
theorem dX12_quarters_61 : decode cX12_quarters 61 = .ok (.iload 6, 2) := by decide +kernel
theorem dX12_quarters_63 : decode cX12_quarters 63 = .ok (.aload_n 0, 1) := by decide +kernel
theorem dX12_quarters_64 : decode cX12_quarters 64 = .ok (.getfield 107, 3) := by decide +kernel
theorem dX12_quarters_67 : decode cX12_quarters 67 = .ok (.if_icmp .ge 17, 3) := by decide +kernel
theorem dX12_quarters_70 : decode cX12_quarters 70 = .ok (.aload_n 0, 1) := by decide +kernel
theorem dX12_quarters_71 : decode cX12_quarters 71 = .ok (.getfield 60, 3) := by decide +kernel
theorem dX12_quarters_74 : decode cX12_quarters 74 = .ok (.iload 6, 2) := by decide +kernel
theorem dX12_quarters_76 : decode cX12_quarters 76 = .ok (.iconst 0, 1) := by decide +kernel
theorem dX12_quarters_77 : decode cX12_quarters 77 = .ok (.iastore, 1) := by decide +kernel
theorem dX12_quarters_78 : decode cX12_quarters 78 = .ok (.iinc 6 1, 3) := by decide +kernel
theorem dX12_quarters_81 : decode cX12_quarters 81 = .ok (.goto (-20), 3) := by decide +kernel
theorem dX12_quarters_84 : decode cX12_quarters 84 = .ok (.iconst 0, 1) := by decide +kernel
theorem dX12_quarters_85 : decode cX12_quarters 85 = .ok (.istore 6, 2) := by decide +kernel
theorem dX12_quarters_87 : decode cX12_quarters 87 = .ok (.iload 6, 2) := by decide +kernel
theorem dX12_quarters_89 : decode cX12_quarters 89 = .ok (.iconst 4, 1) := by decide +kernel
theorem dX12_quarters_90 : decode cX12_quarters 90 = .ok (.if_icmp .ge 77, 3) := by decide +kernel
theorem dX12_quarters_93 : decode cX12_quarters 93 = .ok (.aload_n 0, 1) := by decide +kernel
theorem dX12_quarters_94 : decode cX12_quarters 94 = .ok (.iload 4, 2) := by decide +kernel
theorem dX12_quarters_96 : decode cX12_quarters 96 = .ok (.iload 5, 2) := by decide +kernel
theorem dX12_quarters_98 : decode cX12_quarters 98 = .ok (.iload 6, 2) := by decide +kernel
theorem dX12_quarters_100 : decode cX12_quarters 100 = .ok (.invokevirtual 324, 3) := by decide +kernel
theorem dX12_quarters_103 : decode cX12_quarters 103 = .ok (.aload_n 0, 1) := by decide +kernel
theorem dX12_quarters_104 : decode cX12_quarters 104 = .ok (.aload_n 0, 1) := by decide +kernel
theorem dX12_quarters_105 : decode cX12_quarters 105 = .ok (.getfield 48, 3) := by decide +kernel
theorem dX12_quarters_108 : decode cX12_quarters 108 = .ok (.iload_n 2, 1) := by decide +kernel
theorem dX12_quarters_109 : decode cX12_quarters 109 = .ok (.invokevirtual 267, 3) := by decide +kernel
theorem dX12_quarters_112 : decode cX12_quarters 112 = .ok (.iconst 0, 1) := by decide +kernel
theorem dX12_quarters_113 : decode cX12_quarters 113 = .ok (.istore 7, 2) := by decide +kernel
theorem dX12_quarters_115 : decode cX12_quarters 115 = .ok (.iload 7, 2) := by decide +kernel
theorem dX12_quarters_117 : decode cX12_quarters 117 = .ok (.aload_n 0, 1) := by decide +kernel
theorem dX12_quarters_118 : decode cX12_quarters 118 = .ok (.getfield 107, 3) := by decide +kernel
theorem dX12_quarters_121 : decode cX12_quarters 121 = .ok (.if_icmp .ge 40, 3) := by decide +kernel
theorem dX12_quarters_124 : decode cX12_quarters 124 = .ok (.aload_n 0, 1) := by decide +kernel
theorem dX12_quarters_125 : decode cX12_quarters 125 = .ok (.getfield 60, 3) := by decide +kernel
theorem dX12_quarters_128 : decode cX12_quarters 128 = .ok (.iload 7, 2) := by decide +kernel
theorem dX12_quarters_130 : decode cX12_quarters 130 = .ok (.dup2, 1) := by decide +kernel
theorem dX12_quarters_131 : decode cX12_quarters 131 = .ok (.iaload, 1) := by decide +kernel
theorem dX12_quarters_132 : decode cX12_quarters 132 = .ok (.aload_n 0, 1) := by decide +kernel
theorem dX12_quarters_133 : decode cX12_quarters 133 = .ok (.aload_n 0, 1) := by decide +kernel
theorem dX12_quarters_134 : decode cX12_quarters 134 = .ok (.getfield 48, 3) := by decide +kernel
theorem dX12_quarters_137 : decode cX12_quarters 137 = .ok (.iload 7, 2) := by decide +kernel
theorem dX12_quarters_139 : decode cX12_quarters 139 = .ok (.invokevirtual 306, 3) := by decide +kernel
theorem dX12_quarters_142 : decode cX12_quarters 142 = .ok (.ifCond .eq 10, 3) := by decide +kernel
theorem dX12_quarters_145 : decode cX12_quarters 145 = .ok (.iconst 1, 1) := by decide +kernel
theorem dX12_quarters_146 : decode cX12_quarters 146 = .ok (.iload 6, 2) := by decide +kernel
theorem dX12_quarters_148 : decode cX12_quarters 148 = .ok (.ishl, 1) := by decide +kernel
theorem dX12_quarters_149 : decode cX12_quarters 149 = .ok (.goto 4, 3) := by decide +kernel
theorem dX12_quarters_152 : decode cX12_quarters 152 = .ok (.iconst 0, 1) := by decide +kernel
theorem dX12_quarters_153 : decode cX12_quarters 153 = .ok (.ior, 1) := by decide +kernel
theorem dX12_quarters_154 : decode cX12_quarters 154 = .ok (.iastore, 1) := by decide +kernel
theorem dX12_quarters_155 : decode cX12_quarters 155 = .ok (.iinc 7 1, 3) := by decide +kernel
theorem dX12_quarters_158 : decode cX12_quarters 158 = .ok (.goto (-43), 3) := by decide +kernel
theorem dX12_quarters_161 : decode cX12_quarters 161 = .ok (.iinc 6 1, 3) := by decide +kernel
theorem dX12_quarters_164 : decode cX12_quarters 164 = .ok (.goto (-77), 3) := by decide +kernel
theorem dX12_quarters_167 : decode cX12_quarters 167 = .ok (.iconst 0, 1) := by decide +kernel
theorem dX12_quarters_168 : decode cX12_quarters 168 = .ok (.istore 6, 2) := by decide +kernel
theorem dX12_quarters_170 : decode cX12_quarters 170 = .ok (.iload 6, 2) := by decide +kernel
theorem dX12_quarters_172 : decode cX12_quarters 172 = .ok (.aload_n 0, 1) := by decide +kernel
theorem dX12_quarters_173 : decode cX12_quarters 173 = .ok (.getfield 107, 3) := by decide +kernel
theorem dX12_quarters_176 : decode cX12_quarters 176 = .ok (.if_icmp .ge 51, 3) := by decide +kernel
theorem dX12_quarters_179 : decode cX12_quarters 179 = .ok (.aload_n 0, 1) := by decide +kernel
theorem dX12_quarters_180 : decode cX12_quarters 180 = .ok (.getfield 60, 3) := by decide +kernel
theorem dX12_quarters_183 : decode cX12_quarters 183 = .ok (.iload 6, 2) := by decide +kernel
theorem dX12_quarters_185 : decode cX12_quarters 185 = .ok (.iaload, 1) := by decide +kernel
theorem dX12_quarters_186 : decode cX12_quarters 186 = .ok (.iload_n 1, 1) := by decide +kernel
theorem dX12_quarters_187 : decode cX12_quarters 187 = .ok (.if_icmp .eq 6, 3) := by decide +kernel
theorem dX12_quarters_190 : decode cX12_quarters 190 = .ok (.goto 31, 3) := by decide +kernel
theorem dX12_quarters_193 : decode cX12_quarters 193 = .ok (.iload_n 3, 1) := by decide +kernel
theorem dX12_quarters_194 : decode cX12_quarters 194 = .ok (.ifCond .ne 24, 3) := by decide +kernel
theorem dX12_quarters_197 : decode cX12_quarters 197 = .ok (.aload_n 0, 1) := by decide +kernel
theorem dX12_quarters_198 : decode cX12_quarters 198 = .ok (.iload 4, 2) := by decide +kernel
theorem dX12_quarters_200 : decode cX12_quarters 200 = .ok (.i2l, 1) := by decide +kernel
theorem dX12_quarters_201 : decode cX12_quarters 201 = .ok (.invokevirtual 274, 3) := by decide +kernel
theorem dX12_quarters_204 : decode cX12_quarters 204 = .ok (.aload_n 0, 1) := by decide +kernel
theorem dX12_quarters_205 : decode cX12_quarters 205 = .ok (.iload 5, 2) := by decide +kernel
theorem dX12_quarters_207 : decode cX12_quarters 207 = .ok (.i2l, 1) := by decide +kernel
theorem dX12_quarters_208 : decode cX12_quarters 208 = .ok (.invokevirtual 274, 3) := by decide +kernel
theorem dX12_quarters_211 : decode cX12_quarters 211 = .ok (.aload_n 0, 1) := by decide +kernel
theorem dX12_quarters_212 : decode cX12_quarters 212 = .ok (.iload 6, 2) := by decide +kernel
theorem dX12_quarters_214 : decode cX12_quarters 214 = .ok (.i2l, 1) := by decide +kernel
theorem dX12_quarters_215 : decode cX12_quarters 215 = .ok (.invokevirtual 274, 3) := by decide +kernel
theorem dX12_quarters_218 : decode cX12_quarters 218 = .ok (.iinc 3 1, 3) := by decide +kernel
theorem dX12_quarters_221 : decode cX12_quarters 221 = .ok (.iinc 6 1, 3) := by decide +kernel
theorem dX12_quarters_224 : decode cX12_quarters 224 = .ok (.goto (-54), 3) := by decide +kernel
theorem dX12_quarters_227 : decode cX12_quarters 227 = .ok (.iinc 5 1, 3) := by decide +kernel
theorem dX12_quarters_230 : decode cX12_quarters 230 = .ok (.goto (-181), 3) := by decide +kernel
theorem dX12_quarters_233 : decode cX12_quarters 233 = .ok (.iinc 4 1, 3) := by decide +kernel
theorem dX12_quarters_236 : decode cX12_quarters 236 = .ok (.goto (-202), 3) := by decide +kernel
theorem dX12_quarters_239 : decode cX12_quarters 239 = .ok (.iload_n 3, 1) := by decide +kernel
theorem dX12_quarters_240 : decode cX12_quarters 240 = .ok (.ireturn, 1) := by decide +kernel
def lb_X12_quarters_61 (v0 : Nat) (v1 : Int32) (v2 : Int32) (v3 : Int32) (v4 : Int32) (v5 : Int32) (s : Int32 × aH) : Option ((Int32 × aH) ⊕ ((aH))) :=
  (gI s.2 v0 11 1).bind fun x8 =>
  if s.1 < x8 then
    (gR s.2 v0 11 32).bind fun a9 =>
    (wI s.2 a9 s.1 0).bind fun h10 =>
    (some (s.1 + 1)).bind fun x11 =>
    some (.inl (x11, h10))
  else
    some (.inr s.2)
def hd_X12_quarters_61 (Γ : aC) (v0 : Nat) (v1 : Int32) (v2 : Int32) (v3 : Int32) (v4 : Int32) (v5 : Int32) (s : Int32 × aH) : Prop := ∀ (j7 : Option Value), Jd Γ (0, 0) 61 [some (.ref v0), some (.int v1), some (.int v2), some (.int v3), some (.int v4), some (.int v5), some (.int s.1), j7] [] s.2
def ex_X12_quarters_61 (Γ : aC) (v0 : Nat) (v1 : Int32) (v2 : Int32) (v3 : Int32) (v4 : Int32) (v5 : Int32) (r : (aH)) : Prop := (fun r => ∀ (j6 : Option Value) (j7 : Option Value), Jd Γ (0, 0) 84 [some (.ref v0), some (.int v1), some (.int v2), some (.int v3), some (.int v4), some (.int v5), j6, j7] [] r) r
set_option maxRecDepth 20000 in
set_option maxHeartbeats 4000000 in
theorem lw_X12_quarters_61 {Γ : aC} {d : Nat} (X : Cx Γ RX12 cX12_quarters 8 (some .int) (d, 0, 0)) (hd : 247 ≤ d) (v0 : Nat) (v1 : Int32) (v2 : Int32) (v3 : Int32) (v4 : Int32) (v5 : Int32) : ∀ n s o, lp (lb_X12_quarters_61 v0 v1 v2 v3 v4 v5) n s = some o → ex_X12_quarters_61 Γ v0 v1 v2 v3 v4 v5 o → hd_X12_quarters_61 Γ v0 v1 v2 v3 v4 v5 s := by
  have hd1 : 1 ≤ d := by omega
  refine J_lp _ _ _ ?_
  intro s o hf hk j7
  unfold lb_X12_quarters_61 at hf
  refine r_iload (pc := 61) X dX12_quarters_61 rfl ?_
  refine r_aload_n (pc := 63) X dX12_quarters_63 rfl ?_
  obtain ⟨x8, ex8, hf⟩ := ob hf
  refine r_getI (pc := 64) X dX12_quarters_64 fl_X12_107 rfl ex8 ?_
  refine r_icmp_ge (pc := 67) X 84 dX12_quarters_67 (by decide) (fun c12 => ?_) (fun c12 => ?_)
  · rw [if_neg c12] at hf
    obtain rfl := Option.some.inj hf
    exact hk _ _
  · rw [if_pos c12] at hf
    refine r_aload_n (pc := 70) X dX12_quarters_70 rfl ?_
    obtain ⟨a9, ea9, hf⟩ := ob hf
    refine r_getR (pc := 71) X dX12_quarters_71 fl_X12_60 rfl ea9 ?_
    refine r_iload (pc := 74) X dX12_quarters_74 rfl ?_
    refine r_iconst (pc := 76) X 0 dX12_quarters_76 (by decide) ?_
    obtain ⟨h10, eh10, hf⟩ := ob hf
    refine r_iast (pc := 77) X dX12_quarters_77 eh10 ?_
    obtain ⟨x11, ex11, hf⟩ := ob hf
    refine r_iinc2 (pc := 78) X 1 [some (.ref v0), some (.int v1), some (.int v2), some (.int v3), some (.int v4), some (.int v5), some (.int x11), j7] dX12_quarters_78 (by decide) rfl (by decide) ex11 rfl ?_
    refine r_goto (pc := 81) X 61 dX12_quarters_81 (by decide) ?_
    obtain rfl := Option.some.inj hf
    exact hk _
def lb_X12_quarters_115 (v0 : Nat) (v1 : Int32) (v2 : Int32) (v3 : Int32) (v4 : Int32) (v5 : Int32) (v6 : Int32) (s : Int32 × aH) : Option ((Int32 × aH) ⊕ ((aH))) :=
  (gI s.2 v0 11 1).bind fun x21 =>
  if s.1 < x21 then
    (gR s.2 v0 11 32).bind fun a22 =>
    (aI s.2 a22 14 s.1).bind fun x23 =>
    (gR s.2 v0 11 26).bind fun a24 =>
    (ck s.2 v0 11).bind fun u25 =>
    (fn_X12_isMarked s.2 v0 a24 s.1).bind fun x26 =>
    ((
      if x26 = 0 then
        some 0
      else
        some (1 <<< (v6 &&& 31))
    ) : Option (Int32)).bind fun t27 =>
    (wI s.2 a22 s.1 (x23 ||| t27)).bind fun h28 =>
    (some (s.1 + 1)).bind fun x29 =>
    some (.inl (x29, h28))
  else
    some (.inr s.2)
def hd_X12_quarters_115 (Γ : aC) (v0 : Nat) (v1 : Int32) (v2 : Int32) (v3 : Int32) (v4 : Int32) (v5 : Int32) (v6 : Int32) (s : Int32 × aH) : Prop := Jd Γ (0, 0) 115 [some (.ref v0), some (.int v1), some (.int v2), some (.int v3), some (.int v4), some (.int v5), some (.int v6), some (.int s.1)] [] s.2
def ex_X12_quarters_115 (Γ : aC) (v0 : Nat) (v1 : Int32) (v2 : Int32) (v3 : Int32) (v4 : Int32) (v5 : Int32) (v6 : Int32) (r : (aH)) : Prop := (fun r => ∀ (j7 : Option Value), Jd Γ (0, 0) 161 [some (.ref v0), some (.int v1), some (.int v2), some (.int v3), some (.int v4), some (.int v5), some (.int v6), j7] [] r) r
set_option maxRecDepth 20000 in
set_option maxHeartbeats 4000000 in
theorem lw_X12_quarters_115 {Γ : aC} {d : Nat} (X : Cx Γ RX12 cX12_quarters 8 (some .int) (d, 0, 0)) (hd : 247 ≤ d) (v0 : Nat) (v1 : Int32) (v2 : Int32) (v3 : Int32) (v4 : Int32) (v5 : Int32) (v6 : Int32) : ∀ n s o, lp (lb_X12_quarters_115 v0 v1 v2 v3 v4 v5 v6) n s = some o → ex_X12_quarters_115 Γ v0 v1 v2 v3 v4 v5 v6 o → hd_X12_quarters_115 Γ v0 v1 v2 v3 v4 v5 v6 s := by
  have hd1 : 1 ≤ d := by omega
  refine J_lp _ _ _ ?_
  intro s o hf hk
  unfold lb_X12_quarters_115 at hf
  refine r_iload (pc := 115) X dX12_quarters_115 rfl ?_
  refine r_aload_n (pc := 117) X dX12_quarters_117 rfl ?_
  obtain ⟨x21, ex21, hf⟩ := ob hf
  refine r_getI (pc := 118) X dX12_quarters_118 fl_X12_107 rfl ex21 ?_
  refine r_icmp_ge (pc := 121) X 161 dX12_quarters_121 (by decide) (fun c31 => ?_) (fun c31 => ?_)
  · rw [if_neg c31] at hf
    obtain rfl := Option.some.inj hf
    exact hk _
  · rw [if_pos c31] at hf
    refine r_aload_n (pc := 124) X dX12_quarters_124 rfl ?_
    obtain ⟨a22, ea22, hf⟩ := ob hf
    refine r_getR (pc := 125) X dX12_quarters_125 fl_X12_60 rfl ea22 ?_
    refine r_iload (pc := 128) X dX12_quarters_128 rfl ?_
    refine r_dup2 (pc := 130) X dX12_quarters_130 rfl rfl ?_
    obtain ⟨x23, ex23, hf⟩ := ob hf
    refine r_iald (pc := 131) X dX12_quarters_131 ex23 ?_
    refine r_aload_n (pc := 132) X dX12_quarters_132 rfl ?_
    refine r_aload_n (pc := 133) X dX12_quarters_133 rfl ?_
    obtain ⟨a24, ea24, hf⟩ := ob hf
    refine r_getR (pc := 134) X dX12_quarters_134 fl_X12_48 rfl ea24 ?_
    refine r_iload (pc := 137) X dX12_quarters_137 rfl ?_
    obtain ⟨u25, eu25, hf⟩ := ob hf
    obtain ⟨x26, ex26, hf⟩ := ob hf
    refine r_callVI (pc := 139) X [.ref a24, .int s.1] dX12_quarters_139 ml_X12_306 vo_X12_isMarked ⟨Nat.le_refl _, Nat.le_refl _⟩ eu25 (ev_X12_isMarked (d := d - 1) (by omega) _ _ _ _ _ ex26) hd1 rfl (Nat.le_of_ble_eq_true rfl) rfl ?_
    obtain ⟨t27, et27, hf⟩ := ob hf
    have Jt27 : Jd Γ (0, 0) 153 [some (.ref v0), some (.int v1), some (.int v2), some (.int v3), some (.int v4), some (.int v5), some (.int v6), some (.int s.1)] [.int t27, .int x23, .int s.1, .ref a22] s.2 := by
      refine r_ior (pc := 153) X dX12_quarters_153 ?_
      obtain ⟨h28, eh28, hf⟩ := ob hf
      refine r_iast (pc := 154) X dX12_quarters_154 eh28 ?_
      obtain ⟨x29, ex29, hf⟩ := ob hf
      refine r_iinc2 (pc := 155) X 1 [some (.ref v0), some (.int v1), some (.int v2), some (.int v3), some (.int v4), some (.int v5), some (.int v6), some (.int x29)] dX12_quarters_155 (by decide) rfl (by decide) ex29 rfl ?_
      refine r_goto (pc := 158) X 115 dX12_quarters_158 (by decide) ?_
      obtain rfl := Option.some.inj hf
      exact hk
    refine r_if_eq (pc := 142) X 152 dX12_quarters_142 (by decide) (fun c30 => ?_) (fun c30 => ?_)
    · rw [if_pos c30] at et27
      refine r_iconst (pc := 152) X 0 dX12_quarters_152 (by decide) ?_
      obtain rfl := Option.some.inj et27
      exact Jt27
    · rw [if_neg c30] at et27
      refine r_iconst (pc := 145) X 1 dX12_quarters_145 (by decide) ?_
      refine r_iload (pc := 146) X dX12_quarters_146 rfl ?_
      refine r_ishl (pc := 148) X dX12_quarters_148 ?_
      refine r_goto (pc := 149) X 153 dX12_quarters_149 (by decide) ?_
      obtain rfl := Option.some.inj et27
      exact Jt27
def lb_X12_quarters_87 (v0 : Nat) (v1 : Int32) (v2 : Int32) (v3 : Int32) (v4 : Int32) (v5 : Int32) (s : Int32 × aH) : Option ((Int32 × aH) ⊕ ((aH))) :=
  if s.1 < 4 then
    (ck s.2 v0 11).bind fun u16 =>
    (fn_X12_beginTable s.2 v0 v4 v5 s.1).bind fun h17 =>
    (gR h17 v0 11 26).bind fun a18 =>
    (ck h17 v0 11).bind fun u19 =>
    (fn_X12_goHours h17 v0 a18 v2).bind fun h20 =>
    (lp (lb_X12_quarters_115 v0 v1 v2 v3 v4 v5 s.1) lpN (0, h20)).bind fun o32 =>
    (some (s.1 + 1)).bind fun x34 =>
    some (.inl (x34, o32))
  else
    some (.inr s.2)
def hd_X12_quarters_87 (Γ : aC) (v0 : Nat) (v1 : Int32) (v2 : Int32) (v3 : Int32) (v4 : Int32) (v5 : Int32) (s : Int32 × aH) : Prop := ∀ (j7 : Option Value), Jd Γ (0, 0) 87 [some (.ref v0), some (.int v1), some (.int v2), some (.int v3), some (.int v4), some (.int v5), some (.int s.1), j7] [] s.2
def ex_X12_quarters_87 (Γ : aC) (v0 : Nat) (v1 : Int32) (v2 : Int32) (v3 : Int32) (v4 : Int32) (v5 : Int32) (r : (aH)) : Prop := (fun r => ∀ (j6 : Option Value) (j7 : Option Value), Jd Γ (0, 0) 167 [some (.ref v0), some (.int v1), some (.int v2), some (.int v3), some (.int v4), some (.int v5), j6, j7] [] r) r
set_option maxRecDepth 20000 in
set_option maxHeartbeats 4000000 in
theorem lw_X12_quarters_87 {Γ : aC} {d : Nat} (X : Cx Γ RX12 cX12_quarters 8 (some .int) (d, 0, 0)) (hd : 247 ≤ d) (v0 : Nat) (v1 : Int32) (v2 : Int32) (v3 : Int32) (v4 : Int32) (v5 : Int32) : ∀ n s o, lp (lb_X12_quarters_87 v0 v1 v2 v3 v4 v5) n s = some o → ex_X12_quarters_87 Γ v0 v1 v2 v3 v4 v5 o → hd_X12_quarters_87 Γ v0 v1 v2 v3 v4 v5 s := by
  have hd1 : 1 ≤ d := by omega
  refine J_lp _ _ _ ?_
  intro s o hf hk j7
  unfold lb_X12_quarters_87 at hf
  refine r_iload (pc := 87) X dX12_quarters_87 rfl ?_
  refine r_iconst (pc := 89) X 4 dX12_quarters_89 (by decide) ?_
  refine r_icmp_ge (pc := 90) X 167 dX12_quarters_90 (by decide) (fun c35 => ?_) (fun c35 => ?_)
  · rw [if_neg c35] at hf
    obtain rfl := Option.some.inj hf
    exact hk _ _
  · rw [if_pos c35] at hf
    refine r_aload_n (pc := 93) X dX12_quarters_93 rfl ?_
    refine r_iload (pc := 94) X dX12_quarters_94 rfl ?_
    refine r_iload (pc := 96) X dX12_quarters_96 rfl ?_
    refine r_iload (pc := 98) X dX12_quarters_98 rfl ?_
    obtain ⟨u16, eu16, hf⟩ := ob hf
    obtain ⟨h17, eh17, hf⟩ := ob hf
    refine r_callVV (pc := 100) X [.int v4, .int v5, .int s.1] dX12_quarters_100 ml_X12_324 vo_X12_beginTable ⟨Nat.le_refl _, Nat.le_refl _⟩ eu16 (ev_X12_beginTable (d := d - 1) (by omega) _ _ _ _ _ _ eh17) hd1 rfl (Nat.le_of_ble_eq_true rfl) rfl ?_
    refine r_aload_n (pc := 103) X dX12_quarters_103 rfl ?_
    refine r_aload_n (pc := 104) X dX12_quarters_104 rfl ?_
    obtain ⟨a18, ea18, hf⟩ := ob hf
    refine r_getR (pc := 105) X dX12_quarters_105 fl_X12_48 rfl ea18 ?_
    refine r_iload_n (pc := 108) X dX12_quarters_108 rfl ?_
    obtain ⟨u19, eu19, hf⟩ := ob hf
    obtain ⟨h20, eh20, hf⟩ := ob hf
    refine r_callVV (pc := 109) X [.ref a18, .int v2] dX12_quarters_109 ml_X12_267 vo_X12_goHours ⟨Nat.le_refl _, Nat.le_refl _⟩ eu19 (ev_X12_goHours (d := d - 1) (by omega) _ _ _ _ _ eh20) hd1 rfl (Nat.le_of_ble_eq_true rfl) rfl ?_
    refine r_iconst (pc := 112) X 0 dX12_quarters_112 (by decide) ?_
    refine r_istore (pc := 113) X [some (.ref v0), some (.int v1), some (.int v2), some (.int v3), some (.int v4), some (.int v5), some (.int s.1), some (.int 0)] dX12_quarters_113 (by decide) rfl ?_
    obtain ⟨o32, eo32, hf⟩ := ob hf
    refine (lw_X12_quarters_115 X hd _ _ _ _ _ _ _ lpN _ o32 eo32 ?_)
    intro j33
    obtain ⟨x34, ex34, hf⟩ := ob hf
    refine r_iinc2 (pc := 161) X 1 [some (.ref v0), some (.int v1), some (.int v2), some (.int v3), some (.int v4), some (.int v5), some (.int x34), j33] dX12_quarters_161 (by decide) rfl (by decide) ex34 rfl ?_
    refine r_goto (pc := 164) X 87 dX12_quarters_164 (by decide) ?_
    obtain rfl := Option.some.inj hf
    exact hk _
def lb_X12_quarters_170 (v0 : Nat) (v1 : Int32) (v2 : Int32) (v4 : Int32) (v5 : Int32) (s : Int32 × Int32 × aH) : Option ((Int32 × Int32 × aH) ⊕ ((Int32 × aH))) :=
  (gI s.2.2 v0 11 1).bind fun x39 =>
  if s.2.1 < x39 then
    (gR s.2.2 v0 11 32).bind fun a40 =>
    (aI s.2.2 a40 14 s.2.1).bind fun x41 =>
    if x41 = v1 then
      if s.1 = 0 then
        (ck s.2.2 v0 11).bind fun u44 =>
        (fn_X12_tell s.2.2 v0 (Int32.toInt64 v4)).bind fun h45 =>
        (ck h45 v0 11).bind fun u46 =>
        (fn_X12_tell h45 v0 (Int32.toInt64 v5)).bind fun h47 =>
        (ck h47 v0 11).bind fun u48 =>
        (fn_X12_tell h47 v0 (Int32.toInt64 s.2.1)).bind fun h49 =>
        (some (s.1 + 1)).bind fun x50 =>
        (some (s.2.1 + 1)).bind fun x51 =>
        some (.inl (x50, x51, h49))
      else
        (some (s.1 + 1)).bind fun x42 =>
        (some (s.2.1 + 1)).bind fun x43 =>
        some (.inl (x42, x43, s.2.2))
    else
      (some (s.2.1 + 1)).bind fun x53 =>
      some (.inl (s.1, x53, s.2.2))
  else
    some (.inr (s.1, s.2.2))
def hd_X12_quarters_170 (Γ : aC) (v0 : Nat) (v1 : Int32) (v2 : Int32) (v4 : Int32) (v5 : Int32) (s : Int32 × Int32 × aH) : Prop := ∀ (j7 : Option Value), Jd Γ (0, 0) 170 [some (.ref v0), some (.int v1), some (.int v2), some (.int s.1), some (.int v4), some (.int v5), some (.int s.2.1), j7] [] s.2.2
def ex_X12_quarters_170 (Γ : aC) (v0 : Nat) (v1 : Int32) (v2 : Int32) (v4 : Int32) (v5 : Int32) (r : (Int32 × aH)) : Prop := (fun r => ∀ (j6 : Option Value) (j7 : Option Value), Jd Γ (0, 0) 227 [some (.ref v0), some (.int v1), some (.int v2), some (.int r.1), some (.int v4), some (.int v5), j6, j7] [] r.2) r
set_option maxRecDepth 20000 in
set_option maxHeartbeats 4000000 in
theorem lw_X12_quarters_170 {Γ : aC} {d : Nat} (X : Cx Γ RX12 cX12_quarters 8 (some .int) (d, 0, 0)) (hd : 247 ≤ d) (v0 : Nat) (v1 : Int32) (v2 : Int32) (v4 : Int32) (v5 : Int32) : ∀ n s o, lp (lb_X12_quarters_170 v0 v1 v2 v4 v5) n s = some o → ex_X12_quarters_170 Γ v0 v1 v2 v4 v5 o → hd_X12_quarters_170 Γ v0 v1 v2 v4 v5 s := by
  have hd1 : 1 ≤ d := by omega
  refine J_lp _ _ _ ?_
  intro s o hf hk j7
  unfold lb_X12_quarters_170 at hf
  refine r_iload (pc := 170) X dX12_quarters_170 rfl ?_
  refine r_aload_n (pc := 172) X dX12_quarters_172 rfl ?_
  obtain ⟨x39, ex39, hf⟩ := ob hf
  refine r_getI (pc := 173) X dX12_quarters_173 fl_X12_107 rfl ex39 ?_
  refine r_icmp_ge (pc := 176) X 227 dX12_quarters_176 (by decide) (fun c55 => ?_) (fun c55 => ?_)
  · rw [if_neg c55] at hf
    obtain rfl := Option.some.inj hf
    exact hk _ _
  · rw [if_pos c55] at hf
    refine r_aload_n (pc := 179) X dX12_quarters_179 rfl ?_
    obtain ⟨a40, ea40, hf⟩ := ob hf
    refine r_getR (pc := 180) X dX12_quarters_180 fl_X12_60 rfl ea40 ?_
    refine r_iload (pc := 183) X dX12_quarters_183 rfl ?_
    obtain ⟨x41, ex41, hf⟩ := ob hf
    refine r_iald (pc := 185) X dX12_quarters_185 ex41 ?_
    refine r_iload_n (pc := 186) X dX12_quarters_186 rfl ?_
    refine r_icmp_eq (pc := 187) X 193 dX12_quarters_187 (by decide) (fun c54 => ?_) (fun c54 => ?_)
    · rw [if_pos c54] at hf
      refine r_iload_n (pc := 193) X dX12_quarters_193 rfl ?_
      refine r_if_ne (pc := 194) X 218 dX12_quarters_194 (by decide) (fun c52 => ?_) (fun c52 => ?_)
      · rw [if_neg c52] at hf
        obtain ⟨x42, ex42, hf⟩ := ob hf
        refine r_iinc2 (pc := 218) X 1 [some (.ref v0), some (.int v1), some (.int v2), some (.int x42), some (.int v4), some (.int v5), some (.int s.2.1), j7] dX12_quarters_218 (by decide) rfl (by decide) ex42 rfl ?_
        obtain ⟨x43, ex43, hf⟩ := ob hf
        refine r_iinc2 (pc := 221) X 1 [some (.ref v0), some (.int v1), some (.int v2), some (.int x42), some (.int v4), some (.int v5), some (.int x43), j7] dX12_quarters_221 (by decide) rfl (by decide) ex43 rfl ?_
        refine r_goto (pc := 224) X 170 dX12_quarters_224 (by decide) ?_
        obtain rfl := Option.some.inj hf
        exact hk _
      · rw [if_pos c52] at hf
        refine r_aload_n (pc := 197) X dX12_quarters_197 rfl ?_
        refine r_iload (pc := 198) X dX12_quarters_198 rfl ?_
        refine r_i2l (pc := 200) X dX12_quarters_200 ?_
        obtain ⟨u44, eu44, hf⟩ := ob hf
        obtain ⟨h45, eh45, hf⟩ := ob hf
        refine r_callVV (pc := 201) X [.long (Int32.toInt64 v4)] dX12_quarters_201 ml_X12_274 vo_X12_tell ⟨Nat.le_refl _, Nat.le_refl _⟩ eu44 (ev_X12_tell (d := d - 1) (by omega) _ _ _ _ eh45) hd1 rfl (Nat.le_of_ble_eq_true rfl) rfl ?_
        refine r_aload_n (pc := 204) X dX12_quarters_204 rfl ?_
        refine r_iload (pc := 205) X dX12_quarters_205 rfl ?_
        refine r_i2l (pc := 207) X dX12_quarters_207 ?_
        obtain ⟨u46, eu46, hf⟩ := ob hf
        obtain ⟨h47, eh47, hf⟩ := ob hf
        refine r_callVV (pc := 208) X [.long (Int32.toInt64 v5)] dX12_quarters_208 ml_X12_274 vo_X12_tell ⟨Nat.le_refl _, Nat.le_refl _⟩ eu46 (ev_X12_tell (d := d - 1) (by omega) _ _ _ _ eh47) hd1 rfl (Nat.le_of_ble_eq_true rfl) rfl ?_
        refine r_aload_n (pc := 211) X dX12_quarters_211 rfl ?_
        refine r_iload (pc := 212) X dX12_quarters_212 rfl ?_
        refine r_i2l (pc := 214) X dX12_quarters_214 ?_
        obtain ⟨u48, eu48, hf⟩ := ob hf
        obtain ⟨h49, eh49, hf⟩ := ob hf
        refine r_callVV (pc := 215) X [.long (Int32.toInt64 s.2.1)] dX12_quarters_215 ml_X12_274 vo_X12_tell ⟨Nat.le_refl _, Nat.le_refl _⟩ eu48 (ev_X12_tell (d := d - 1) (by omega) _ _ _ _ eh49) hd1 rfl (Nat.le_of_ble_eq_true rfl) rfl ?_
        obtain ⟨x50, ex50, hf⟩ := ob hf
        refine r_iinc2 (pc := 218) X 1 [some (.ref v0), some (.int v1), some (.int v2), some (.int x50), some (.int v4), some (.int v5), some (.int s.2.1), j7] dX12_quarters_218 (by decide) rfl (by decide) ex50 rfl ?_
        obtain ⟨x51, ex51, hf⟩ := ob hf
        refine r_iinc2 (pc := 221) X 1 [some (.ref v0), some (.int v1), some (.int v2), some (.int x50), some (.int v4), some (.int v5), some (.int x51), j7] dX12_quarters_221 (by decide) rfl (by decide) ex51 rfl ?_
        refine r_goto (pc := 224) X 170 dX12_quarters_224 (by decide) ?_
        obtain rfl := Option.some.inj hf
        exact hk _
    · rw [if_neg c54] at hf
      refine r_goto (pc := 190) X 221 dX12_quarters_190 (by decide) ?_
      obtain ⟨x53, ex53, hf⟩ := ob hf
      refine r_iinc2 (pc := 221) X 1 [some (.ref v0), some (.int v1), some (.int v2), some (.int s.1), some (.int v4), some (.int v5), some (.int x53), j7] dX12_quarters_221 (by decide) rfl (by decide) ex53 rfl ?_
      refine r_goto (pc := 224) X 170 dX12_quarters_224 (by decide) ?_
      obtain rfl := Option.some.inj hf
      exact hk _
def lb_X12_quarters_49 (v0 : Nat) (v1 : Int32) (v2 : Int32) (v4 : Int32) (s : Int32 × Int32 × aH) : Option ((Int32 × Int32 × aH) ⊕ ((Int32 × aH))) :=
  (gI s.2.2 v0 11 1).bind fun x7 =>
  if s.2.1 < x7 then
    (lp (lb_X12_quarters_61 v0 v1 v2 s.1 v4 s.2.1) lpN (0, s.2.2)).bind fun o13 =>
    (lp (lb_X12_quarters_87 v0 v1 v2 s.1 v4 s.2.1) lpN (0, o13)).bind fun o36 =>
    (lp (lb_X12_quarters_170 v0 v1 v2 v4 s.2.1) lpN (s.1, 0, o36)).bind fun o56 =>
    (some (s.2.1 + 1)).bind fun x59 =>
    some (.inl (o56.1, x59, o56.2))
  else
    some (.inr (s.1, s.2.2))
def hd_X12_quarters_49 (Γ : aC) (v0 : Nat) (v1 : Int32) (v2 : Int32) (v4 : Int32) (s : Int32 × Int32 × aH) : Prop := ∀ (j6 : Option Value) (j7 : Option Value), Jd Γ (0, 0) 49 [some (.ref v0), some (.int v1), some (.int v2), some (.int s.1), some (.int v4), some (.int s.2.1), j6, j7] [] s.2.2
def ex_X12_quarters_49 (Γ : aC) (v0 : Nat) (v1 : Int32) (v2 : Int32) (v4 : Int32) (r : (Int32 × aH)) : Prop := (fun r => ∀ (j5 : Option Value) (j6 : Option Value) (j7 : Option Value), Jd Γ (0, 0) 233 [some (.ref v0), some (.int v1), some (.int v2), some (.int r.1), some (.int v4), j5, j6, j7] [] r.2) r
set_option maxRecDepth 20000 in
set_option maxHeartbeats 4000000 in
theorem lw_X12_quarters_49 {Γ : aC} {d : Nat} (X : Cx Γ RX12 cX12_quarters 8 (some .int) (d, 0, 0)) (hd : 247 ≤ d) (v0 : Nat) (v1 : Int32) (v2 : Int32) (v4 : Int32) : ∀ n s o, lp (lb_X12_quarters_49 v0 v1 v2 v4) n s = some o → ex_X12_quarters_49 Γ v0 v1 v2 v4 o → hd_X12_quarters_49 Γ v0 v1 v2 v4 s := by
  have hd1 : 1 ≤ d := by omega
  refine J_lp _ _ _ ?_
  intro s o hf hk j6 j7
  unfold lb_X12_quarters_49 at hf
  refine r_iload (pc := 49) X dX12_quarters_49 rfl ?_
  refine r_aload_n (pc := 51) X dX12_quarters_51 rfl ?_
  obtain ⟨x7, ex7, hf⟩ := ob hf
  refine r_getI (pc := 52) X dX12_quarters_52 fl_X12_107 rfl ex7 ?_
  refine r_icmp_ge (pc := 55) X 233 dX12_quarters_55 (by decide) (fun c60 => ?_) (fun c60 => ?_)
  · rw [if_neg c60] at hf
    obtain rfl := Option.some.inj hf
    exact hk _ _ _
  · rw [if_pos c60] at hf
    refine r_iconst (pc := 58) X 0 dX12_quarters_58 (by decide) ?_
    refine r_istore (pc := 59) X [some (.ref v0), some (.int v1), some (.int v2), some (.int s.1), some (.int v4), some (.int s.2.1), some (.int 0), j7] dX12_quarters_59 (by decide) rfl ?_
    obtain ⟨o13, eo13, hf⟩ := ob hf
    refine (lw_X12_quarters_61 X hd _ _ _ _ _ _ lpN _ o13 eo13 ?_) _
    intro j14 j15
    refine r_iconst (pc := 84) X 0 dX12_quarters_84 (by decide) ?_
    refine r_istore (pc := 85) X [some (.ref v0), some (.int v1), some (.int v2), some (.int s.1), some (.int v4), some (.int s.2.1), some (.int 0), j15] dX12_quarters_85 (by decide) rfl ?_
    obtain ⟨o36, eo36, hf⟩ := ob hf
    refine (lw_X12_quarters_87 X hd _ _ _ _ _ _ lpN _ o36 eo36 ?_) _
    intro j37 j38
    refine r_iconst (pc := 167) X 0 dX12_quarters_167 (by decide) ?_
    refine r_istore (pc := 168) X [some (.ref v0), some (.int v1), some (.int v2), some (.int s.1), some (.int v4), some (.int s.2.1), some (.int 0), j38] dX12_quarters_168 (by decide) rfl ?_
    obtain ⟨o56, eo56, hf⟩ := ob hf
    refine (lw_X12_quarters_170 X hd _ _ _ _ _ lpN _ o56 eo56 ?_) _
    intro j57 j58
    obtain ⟨x59, ex59, hf⟩ := ob hf
    refine r_iinc2 (pc := 227) X 1 [some (.ref v0), some (.int v1), some (.int v2), some (.int o56.1), some (.int v4), some (.int x59), j57, j58] dX12_quarters_227 (by decide) rfl (by decide) ex59 rfl ?_
    refine r_goto (pc := 230) X 49 dX12_quarters_230 (by decide) ?_
    obtain rfl := Option.some.inj hf
    exact hk _ _
def lb_X12_quarters_34 (v0 : Nat) (v1 : Int32) (v2 : Int32) (s : Int32 × Int32 × aH) : Option ((Int32 × Int32 × aH) ⊕ ((Int32 × aH))) :=
  (gI s.2.2 v0 11 1).bind fun x5 =>
  if s.2.1 < x5 then
    (some (s.2.1 + 1)).bind fun x6 =>
    (lp (lb_X12_quarters_49 v0 v1 v2 s.2.1) lpN (s.1, x6, s.2.2)).bind fun o61 =>
    (some (s.2.1 + 1)).bind fun x65 =>
    some (.inl (o61.1, x65, o61.2))
  else
    some (.inr (s.1, s.2.2))
def hd_X12_quarters_34 (Γ : aC) (v0 : Nat) (v1 : Int32) (v2 : Int32) (s : Int32 × Int32 × aH) : Prop := ∀ (j5 : Option Value) (j6 : Option Value) (j7 : Option Value), Jd Γ (0, 0) 34 [some (.ref v0), some (.int v1), some (.int v2), some (.int s.1), some (.int s.2.1), j5, j6, j7] [] s.2.2
def ex_X12_quarters_34 (Γ : aC) (v0 : Nat) (v1 : Int32) (v2 : Int32) (r : (Int32 × aH)) : Prop := (fun r => RqI Γ r) r
set_option maxRecDepth 20000 in
set_option maxHeartbeats 4000000 in
theorem lw_X12_quarters_34 {Γ : aC} {d : Nat} (X : Cx Γ RX12 cX12_quarters 8 (some .int) (d, 0, 0)) (hd : 247 ≤ d) (v0 : Nat) (v1 : Int32) (v2 : Int32) : ∀ n s o, lp (lb_X12_quarters_34 v0 v1 v2) n s = some o → ex_X12_quarters_34 Γ v0 v1 v2 o → hd_X12_quarters_34 Γ v0 v1 v2 s := by
  have hd1 : 1 ≤ d := by omega
  refine J_lp _ _ _ ?_
  intro s o hf hk j5 j6 j7
  unfold lb_X12_quarters_34 at hf
  refine r_iload (pc := 34) X dX12_quarters_34 rfl ?_
  refine r_aload_n (pc := 36) X dX12_quarters_36 rfl ?_
  obtain ⟨x5, ex5, hf⟩ := ob hf
  refine r_getI (pc := 37) X dX12_quarters_37 fl_X12_107 rfl ex5 ?_
  refine r_icmp_ge (pc := 40) X 239 dX12_quarters_40 (by decide) (fun c66 => ?_) (fun c66 => ?_)
  · rw [if_neg c66] at hf
    refine r_iload_n (pc := 239) X dX12_quarters_239 rfl ?_
    obtain rfl := Option.some.inj hf
    exact r_iret (pc := 240) X dX12_quarters_240 hk
  · rw [if_pos c66] at hf
    refine r_iload (pc := 43) X dX12_quarters_43 rfl ?_
    refine r_iconst (pc := 45) X 1 dX12_quarters_45 (by decide) ?_
    refine r_iadd (pc := 46) X dX12_quarters_46 ?_
    obtain ⟨x6, ex6, hf⟩ := ob hf
    refine r_nmI ex6 ?_
    refine r_istore (pc := 47) X [some (.ref v0), some (.int v1), some (.int v2), some (.int s.1), some (.int s.2.1), some (.int x6), j6, j7] dX12_quarters_47 (by decide) rfl ?_
    obtain ⟨o61, eo61, hf⟩ := ob hf
    refine (lw_X12_quarters_49 X hd _ _ _ _ lpN _ o61 eo61 ?_) _ _
    intro j62 j63 j64
    obtain ⟨x65, ex65, hf⟩ := ob hf
    refine r_iinc2 (pc := 233) X 1 [some (.ref v0), some (.int v1), some (.int v2), some (.int o61.1), some (.int x65), j62, j63, j64] dX12_quarters_233 (by decide) rfl (by decide) ex65 rfl ?_
    refine r_goto (pc := 236) X 34 dX12_quarters_236 (by decide) ?_
    obtain rfl := Option.some.inj hf
    exact hk _ _ _
def fn_X12_quarters (h : aH) (p0 : Nat) (p1 : Int32) (p2 : Int32) : Option (Int32 × aH) :=
  (pI h p0 11 11 0).bind fun h1 =>
  (fn_X12_in h1 p1 0 15).bind fun x2 =>
  if x2 = 0 then
    some ((-1), h1)
  else
    (fn_X12_isSoon h1 p2).bind fun x3 =>
    if x3 = 0 then
      some ((-1), h1)
    else
      (pI h1 p0 11 10 0).bind fun h4 =>
      (lp (lb_X12_quarters_34 p0 p1 p2) lpN (0, 0, h4)).bind fun o67 =>
      some o67
set_option maxRecDepth 20000 in
set_option maxHeartbeats 4000000 in
theorem ev_X12_quarters {l : Launch} {g : aG} {d : Nat} (hd : 247 ≤ d) (h : aH) (p0 : Nat) (p1 : Int32) (p2 : Int32) (o : Int32 × aH) (hf : fn_X12_quarters h p0 p1 p2 = some o) : EvM l g d yX12_quarters cX12_quarters 8 (some .int) [.ref p0, .int p1, .int p2] h (some (.int o.1), o.2) := by
  refine EvM.of mk_X12_quarters (Nat.le_of_ble_eq_true rfl) ?_
  intro Γ hl hg hq X
  have hd1 : 1 ≤ d := by omega
  have hk : RqI Γ o := hq
  unfold fn_X12_quarters at hf
  show Jd Γ (0, 0) 0 [some (.ref p0), some (.int p1), some (.int p2), none, none, none, none, none] [] h
  refine r_aload_n (pc := 0) X dX12_quarters_0 rfl ?_
  refine r_iconst (pc := 1) X 0 dX12_quarters_1 (by decide) ?_
  obtain ⟨h1, eh1, hf⟩ := ob hf
  refine r_putI (pc := 2) X dX12_quarters_2 fp_X12_100 rfl eh1 ?_
  refine r_iload_n (pc := 5) X dX12_quarters_5 rfl ?_
  refine r_iconst (pc := 6) X 0 dX12_quarters_6 (by decide) ?_
  refine r_bipush (pc := 7) X 15 dX12_quarters_7 (by decide) ?_
  obtain ⟨x2, ex2, hf⟩ := ob hf
  refine r_callSI (pc := 9) X [.int p1, .int 0, .int 15] dX12_quarters_9 ml_X12_110 so_X12_in ⟨Nat.le_refl _, Nat.le_refl _⟩ (ev_X12_in (d := d - 1) (by omega) _ _ _ _ _ ex2) hd1 rfl (Nat.le_of_ble_eq_true rfl) rfl ?_
  refine r_if_eq (pc := 12) X 22 dX12_quarters_12 (by decide) (fun c69 => ?_) (fun c69 => ?_)
  · rw [if_pos c69] at hf
    refine r_iconst (pc := 22) X (-1) dX12_quarters_22 (by decide) ?_
    obtain rfl := Option.some.inj hf
    exact r_iret (pc := 23) X dX12_quarters_23 hk
  · rw [if_neg c69] at hf
    refine r_iload_n (pc := 15) X dX12_quarters_15 rfl ?_
    obtain ⟨x3, ex3, hf⟩ := ob hf
    refine r_callSI (pc := 16) X [.int p2] dX12_quarters_16 ml_X12_321 so_X12_isSoon ⟨Nat.le_refl _, Nat.le_refl _⟩ (ev_X12_isSoon (d := d - 1) (by omega) _ _ _ ex3) hd1 rfl (Nat.le_of_ble_eq_true rfl) rfl ?_
    refine r_if_ne (pc := 19) X 24 dX12_quarters_19 (by decide) (fun c68 => ?_) (fun c68 => ?_)
    · rw [if_neg c68] at hf
      refine r_iconst (pc := 24) X 0 dX12_quarters_24 (by decide) ?_
      refine r_istore_n (pc := 25) X [some (.ref p0), some (.int p1), some (.int p2), some (.int 0), none, none, none, none] dX12_quarters_25 (by decide) rfl ?_
      refine r_aload_n (pc := 26) X dX12_quarters_26 rfl ?_
      refine r_iconst (pc := 27) X 0 dX12_quarters_27 (by decide) ?_
      obtain ⟨h4, eh4, hf⟩ := ob hf
      refine r_putI (pc := 28) X dX12_quarters_28 fp_X12_104 rfl eh4 ?_
      refine r_iconst (pc := 31) X 0 dX12_quarters_31 (by decide) ?_
      refine r_istore (pc := 32) X [some (.ref p0), some (.int p1), some (.int p2), some (.int 0), some (.int 0), none, none, none] dX12_quarters_32 (by decide) rfl ?_
      obtain ⟨o67, eo67, hf⟩ := ob hf
      refine (lw_X12_quarters_34 X hd _ _ _ lpN _ o67 eo67 ?_) _ _ _
      obtain rfl := Option.some.inj hf
      exact hk
    · rw [if_pos c68] at hf
      refine r_iconst (pc := 22) X (-1) dX12_quarters_22 (by decide) ?_
      obtain rfl := Option.some.inj hf
      exact r_iret (pc := 23) X dX12_quarters_23 hk

theorem dX12_learns_0 : decode cX12_learns 0 = .ok (.aload_n 0, 1) := by decide +kernel
theorem dX12_learns_1 : decode cX12_learns 1 = .ok (.iconst 0, 1) := by decide +kernel
theorem dX12_learns_2 : decode cX12_learns 2 = .ok (.putfield 100, 3) := by decide +kernel
theorem dX12_learns_5 : decode cX12_learns 5 = .ok (.aload_n 0, 1) := by decide +kernel
theorem dX12_learns_6 : decode cX12_learns 6 = .ok (.iload_n 1, 1) := by decide +kernel
theorem dX12_learns_7 : decode cX12_learns 7 = .ok (.iload_n 2, 1) := by decide +kernel
theorem dX12_learns_8 : decode cX12_learns 8 = .ok (.invokevirtual 318, 3) := by decide +kernel
theorem dX12_learns_11 : decode cX12_learns 11 = .ok (.ifCond .eq 22, 3) := by decide +kernel
theorem dX12_learns_14 : decode cX12_learns 14 = .ok (.aload_n 0, 1) := by decide +kernel
theorem dX12_learns_15 : decode cX12_learns 15 = .ok (.iload_n 3, 1) := by decide +kernel
theorem dX12_learns_16 : decode cX12_learns 16 = .ok (.invokevirtual 114, 3) := by decide +kernel
theorem dX12_learns_19 : decode cX12_learns 19 = .ok (.ifCond .eq 14, 3) := by decide +kernel
theorem dX12_learns_22 : decode cX12_learns 22 = .ok (.iload 4, 2) := by decide +kernel
theorem dX12_learns_24 : decode cX12_learns 24 = .ok (.iconst 0, 1) := by decide +kernel
theorem dX12_learns_25 : decode cX12_learns 25 = .ok (.bipush 15, 2) := by decide +kernel
theorem dX12_learns_27 : decode cX12_learns 27 = .ok (.invokestatic 110, 3) := by decide +kernel
theorem dX12_learns_30 : decode cX12_learns 30 = .ok (.ifCond .ne 5, 3) := by decide +kernel
theorem dX12_learns_33 : decode cX12_learns 33 = .ok (.iconst (-1), 1) := by decide +kernel
theorem dX12_learns_34 : decode cX12_learns 34 = .ok (.ireturn, 1) := by decide +kernel
theorem dX12_learns_35 : decode cX12_learns 35 = .ok (.iconst 0, 1) := by decide +kernel
theorem dX12_learns_36 : decode cX12_learns 36 = .ok (.istore 5, 2) := by decide +kernel
theorem dX12_learns_38 : decode cX12_learns 38 = .ok (.iload 5, 2) := by decide +kernel
theorem dX12_learns_40 : decode cX12_learns 40 = .ok (.bipush 40, 2) := by decide +kernel
theorem dX12_learns_42 : decode cX12_learns 42 = .ok (.if_icmp .gt 17, 3) := by decide +kernel
theorem dX12_learns_45 : decode cX12_learns 45 = .ok (.aload_n 0, 1) := by decide +kernel
theorem dX12_learns_46 : decode cX12_learns 46 = .ok (.getfield 63, 3) := by decide +kernel
theorem dX12_learns_49 : decode cX12_learns 49 = .ok (.iload 5, 2) := by decide +kernel
theorem dX12_learns_51 : decode cX12_learns 51 = .ok (.iconst 0, 1) := by decide +kernel
theorem dX12_learns_52 : decode cX12_learns 52 = .ok (.iastore, 1) := by decide +kernel
theorem dX12_learns_53 : decode cX12_learns 53 = .ok (.iinc 5 1, 3) := by decide +kernel
theorem dX12_learns_56 : decode cX12_learns 56 = .ok (.goto (-18), 3) := by decide +kernel
theorem dX12_learns_59 : decode cX12_learns 59 = .ok (.iconst 0, 1) := by decide +kernel
theorem dX12_learns_60 : decode cX12_learns 60 = .ok (.istore 5, 2) := by decide +kernel
theorem dX12_learns_62 : decode cX12_learns 62 = .ok (.iload 5, 2) := by decide +kernel
theorem dX12_learns_64 : decode cX12_learns 64 = .ok (.iconst 4, 1) := by decide +kernel
theorem dX12_learns_65 : decode cX12_learns 65 = .ok (.if_icmp .ge 71, 3) := by decide +kernel
theorem dX12_learns_68 : decode cX12_learns 68 = .ok (.aload_n 0, 1) := by decide +kernel
theorem dX12_learns_69 : decode cX12_learns 69 = .ok (.iload_n 1, 1) := by decide +kernel
theorem dX12_learns_70 : decode cX12_learns 70 = .ok (.iload_n 2, 1) := by decide +kernel
theorem dX12_learns_71 : decode cX12_learns 71 = .ok (.iload 5, 2) := by decide +kernel
theorem dX12_learns_73 : decode cX12_learns 73 = .ok (.invokevirtual 324, 3) := by decide +kernel
theorem dX12_learns_76 : decode cX12_learns 76 = .ok (.iconst 0, 1) := by decide +kernel
theorem dX12_learns_77 : decode cX12_learns 77 = .ok (.istore 6, 2) := by decide +kernel
theorem dX12_learns_79 : decode cX12_learns 79 = .ok (.iload 6, 2) := by decide +kernel
theorem dX12_learns_81 : decode cX12_learns 81 = .ok (.bipush 40, 2) := by decide +kernel
theorem dX12_learns_83 : decode cX12_learns 83 = .ok (.if_icmp .gt 47, 3) := by decide +kernel
theorem dX12_learns_86 : decode cX12_learns 86 = .ok (.aload_n 0, 1) := by decide +kernel
theorem dX12_learns_87 : decode cX12_learns 87 = .ok (.getfield 63, 3) := by decide +kernel
theorem dX12_learns_90 : decode cX12_learns 90 = .ok (.iload 6, 2) := by decide +kernel
theorem dX12_learns_92 : decode cX12_learns 92 = .ok (.dup2, 1) := by decide +kernel
theorem dX12_learns_93 : decode cX12_learns 93 = .ok (.iaload, 1) := by decide +kernel
theorem dX12_learns_94 : decode cX12_learns 94 = .ok (.aload_n 0, 1) := by decide +kernel
theorem dX12_learns_95 : decode cX12_learns 95 = .ok (.aload_n 0, 1) := by decide +kernel
theorem dX12_learns_96 : decode cX12_learns 96 = .ok (.getfield 48, 3) := by decide +kernel
theorem dX12_learns_99 : decode cX12_learns 99 = .ok (.iload_n 3, 1) := by decide +kernel
theorem dX12_learns_100 : decode cX12_learns 100 = .ok (.invokevirtual 306, 3) := by decide +kernel
theorem dX12_learns_103 : decode cX12_learns 103 = .ok (.ifCond .eq 10, 3) := by decide +kernel
theorem dX12_learns_106 : decode cX12_learns 106 = .ok (.iconst 1, 1) := by decide +kernel
theorem dX12_learns_107 : decode cX12_learns 107 = .ok (.iload 5, 2) := by decide +kernel
theorem dX12_learns_109 : decode cX12_learns 109 = .ok (.ishl, 1) := by decide +kernel
theorem dX12_learns_110 : decode cX12_learns 110 = .ok (.goto 4, 3) := by decide +kernel
theorem dX12_learns_113 : decode cX12_learns 113 = .ok (.iconst 0, 1) := by decide +kernel
theorem dX12_learns_114 : decode cX12_learns 114 = .ok (.ior, 1) := by decide +kernel
theorem dX12_learns_115 : decode cX12_learns 115 = .ok (.iastore, 1) := by decide +kernel
theorem dX12_learns_116 : decode cX12_learns 116 = .ok (.aload_n 0, 1) := by decide +kernel
theorem dX12_learns_117 : decode cX12_learns 117 = .ok (.aload_n 0, 1) := by decide +kernel
theorem dX12_learns_118 : decode cX12_learns 118 = .ok (.getfield 48, 3) := by decide +kernel
theorem dX12_learns_121 : decode cX12_learns 121 = .ok (.invokevirtual 260, 3) := by decide +kernel
theorem dX12_learns_124 : decode cX12_learns 124 = .ok (.iinc 6 1, 3) := by decide +kernel
theorem dX12_learns_127 : decode cX12_learns 127 = .ok (.goto (-48), 3) := by decide +kernel
theorem dX12_learns_130 : decode cX12_learns 130 = .ok (.iinc 5 1, 3) := by decide +kernel
theorem dX12_learns_133 : decode cX12_learns 133 = .ok (.goto (-71), 3) := by decide +kernel
theorem dX12_learns_136 : decode cX12_learns 136 = .ok (.bipush (-2), 2) := by decide +kernel
theorem dX12_learns_138 : decode cX12_learns 138 = .ok (.istore 5, 2) := by decide +kernel
theorem dX12_learns_140 : decode cX12_learns 140 = .ok (.iconst 0, 1) := by decide +kernel
theorem dX12_learns_141 : decode cX12_learns 141 = .ok (.istore 6, 2) := by decide +kernel
theorem dX12_learns_143 : decode cX12_learns 143 = .ok (.iconst 0, 1) := by decide +kernel
theorem dX12_learns_144 : decode cX12_learns 144 = .ok (.istore 7, 2) := by decide +kernel
theorem dX12_learns_146 : decode cX12_learns 146 = .ok (.iload 7, 2) := by decide +kernel
theorem dX12_learns_148 : decode cX12_learns 148 = .ok (.bipush 40, 2) := by decide +kernel
theorem dX12_learns_150 : decode cX12_learns 150 = .ok (.if_icmp .gt 43, 3) := by decide +kernel
theorem dX12_learns_153 : decode cX12_learns 153 = .ok (.aload_n 0, 1) := by decide +kernel
theorem dX12_learns_154 : decode cX12_learns 154 = .ok (.getfield 63, 3) := by decide +kernel
theorem dX12_learns_157 : decode cX12_learns 157 = .ok (.iload 7, 2) := by decide +kernel
theorem dX12_learns_159 : decode cX12_learns 159 = .ok (.iaload, 1) := by decide +kernel
theorem dX12_learns_160 : decode cX12_learns 160 = .ok (.iload 4, 2) := by decide +kernel
theorem dX12_learns_162 : decode cX12_learns 162 = .ok (.if_icmp .eq 6, 3) := by decide +kernel
theorem dX12_learns_165 : decode cX12_learns 165 = .ok (.goto 22, 3) := by decide +kernel
theorem dX12_learns_168 : decode cX12_learns 168 = .ok (.iload 5, 2) := by decide +kernel
theorem dX12_learns_170 : decode cX12_learns 170 = .ok (.bipush (-2), 2) := by decide +kernel
theorem dX12_learns_172 : decode cX12_learns 172 = .ok (.if_icmp .ne 8, 3) := by decide +kernel
theorem dX12_learns_175 : decode cX12_learns 175 = .ok (.iload 7, 2) := by decide +kernel
theorem dX12_learns_177 : decode cX12_learns 177 = .ok (.goto 5, 3) := by decide +kernel
theorem dX12_learns_180 : decode cX12_learns 180 = .ok (.iload 5, 2) := by decide +kernel
theorem dX12_learns_182 : decode cX12_learns 182 = .ok (.istore 5, 2) := by decide +kernel
theorem dX12_learns_184 : decode cX12_learns 184 = .ok (.iinc 6 1, 3) := by decide +kernel
theorem dX12_learns_187 : decode cX12_learns 187 = .ok (.iinc 7 1, 3) := by decide +kernel
theorem dX12_learns_190 : decode cX12_learns 190 = .ok (.goto (-44), 3) := by decide +kernel
theorem dX12_learns_193 : decode cX12_learns 193 = .ok (.iload 5, 2) := by decide +kernel
theorem dX12_learns_195 : decode cX12_learns 195 = .ok (.bipush (-2), 2) := by decide +kernel
theorem dX12_learns_197 : decode cX12_learns 197 = .ok (.if_icmp .ne 6, 3) := by decide +kernel
theorem dX12_learns_200 : decode cX12_learns 200 = .ok (.bipush (-2), 2) := by decide +kernel
theorem dX12_learns_202 : decode cX12_learns 202 = .ok (.ireturn, 1) := by decide +kernel
theorem dX12_learns_203 : decode cX12_learns 203 = .ok (.aload_n 0, 1) := by decide +kernel
theorem dX12_learns_204 : decode cX12_learns 204 = .ok (.iconst 0, 1) := by decide +kernel
theorem dX12_learns_205 : decode cX12_learns 205 = .ok (.putfield 104, 3) := by decide +kernel
theorem dX12_learns_208 : decode cX12_learns 208 = .ok (.aload_n 0, 1) := by decide +kernel
theorem dX12_learns_209 : decode cX12_learns 209 = .ok (.iload 6, 2) := by decide +kernel
theorem dX12_learns_211 : decode cX12_learns 211 = .ok (.i2l, 1) := by decide +kernel
theorem dX12_learns_212 : decode cX12_learns 212 = .ok (.invokevirtual 274, 3) := by decide +kernel
theorem dX12_learns_215 : decode cX12_learns 215 = .ok (.iload 5, 2) := by decide +kernel
theorem dX12_learns_217 : decode cX12_learns 217 = .ok (.ireturn, 1) := by decide +kernel
def lb_X12_learns_38 (v0 : Nat) (v1 : Int32) (v2 : Int32) (v3 : Int32) (v4 : Int32) (s : Int32 × aH) : Option ((Int32 × aH) ⊕ ((aH))) :=
  if s.1 ≤ 40 then
    (gR s.2 v0 11 33).bind fun a7 =>
    (wI s.2 a7 s.1 0).bind fun h8 =>
    (some (s.1 + 1)).bind fun x9 =>
    some (.inl (x9, h8))
  else
    some (.inr s.2)
def hd_X12_learns_38 (Γ : aC) (v0 : Nat) (v1 : Int32) (v2 : Int32) (v3 : Int32) (v4 : Int32) (s : Int32 × aH) : Prop := ∀ (j6 : Option Value) (j7 : Option Value), Jd Γ (0, 0) 38 [some (.ref v0), some (.int v1), some (.int v2), some (.int v3), some (.int v4), some (.int s.1), j6, j7] [] s.2
def ex_X12_learns_38 (Γ : aC) (v0 : Nat) (v1 : Int32) (v2 : Int32) (v3 : Int32) (v4 : Int32) (r : (aH)) : Prop := (fun r => ∀ (j5 : Option Value) (j6 : Option Value) (j7 : Option Value), Jd Γ (0, 0) 59 [some (.ref v0), some (.int v1), some (.int v2), some (.int v3), some (.int v4), j5, j6, j7] [] r) r
set_option maxRecDepth 20000 in
set_option maxHeartbeats 4000000 in
theorem lw_X12_learns_38 {Γ : aC} {d : Nat} (X : Cx Γ RX12 cX12_learns 8 (some .int) (d, 0, 0)) (hd : 246 ≤ d) (v0 : Nat) (v1 : Int32) (v2 : Int32) (v3 : Int32) (v4 : Int32) : ∀ n s o, lp (lb_X12_learns_38 v0 v1 v2 v3 v4) n s = some o → ex_X12_learns_38 Γ v0 v1 v2 v3 v4 o → hd_X12_learns_38 Γ v0 v1 v2 v3 v4 s := by
  have hd1 : 1 ≤ d := by omega
  refine J_lp _ _ _ ?_
  intro s o hf hk j6 j7
  unfold lb_X12_learns_38 at hf
  refine r_iload (pc := 38) X dX12_learns_38 rfl ?_
  refine r_bipush (pc := 40) X 40 dX12_learns_40 (by decide) ?_
  refine r_icmp_gt (pc := 42) X 59 dX12_learns_42 (by decide) (fun c10 => ?_) (fun c10 => ?_)
  · rw [if_neg c10] at hf
    obtain rfl := Option.some.inj hf
    exact hk _ _ _
  · rw [if_pos c10] at hf
    refine r_aload_n (pc := 45) X dX12_learns_45 rfl ?_
    obtain ⟨a7, ea7, hf⟩ := ob hf
    refine r_getR (pc := 46) X dX12_learns_46 fl_X12_63 rfl ea7 ?_
    refine r_iload (pc := 49) X dX12_learns_49 rfl ?_
    refine r_iconst (pc := 51) X 0 dX12_learns_51 (by decide) ?_
    obtain ⟨h8, eh8, hf⟩ := ob hf
    refine r_iast (pc := 52) X dX12_learns_52 eh8 ?_
    obtain ⟨x9, ex9, hf⟩ := ob hf
    refine r_iinc2 (pc := 53) X 1 [some (.ref v0), some (.int v1), some (.int v2), some (.int v3), some (.int v4), some (.int x9), j6, j7] dX12_learns_53 (by decide) rfl (by decide) ex9 rfl ?_
    refine r_goto (pc := 56) X 38 dX12_learns_56 (by decide) ?_
    obtain rfl := Option.some.inj hf
    exact hk _ _
def lb_X12_learns_79 (v0 : Nat) (v1 : Int32) (v2 : Int32) (v3 : Int32) (v4 : Int32) (v5 : Int32) (s : Int32 × aH) : Option ((Int32 × aH) ⊕ ((aH))) :=
  if s.1 ≤ 40 then
    (gR s.2 v0 11 33).bind fun a17 =>
    (aI s.2 a17 14 s.1).bind fun x18 =>
    (gR s.2 v0 11 26).bind fun a19 =>
    (ck s.2 v0 11).bind fun u20 =>
    (fn_X12_isMarked s.2 v0 a19 v3).bind fun x21 =>
    ((
      if x21 = 0 then
        some 0
      else
        some (1 <<< (v5 &&& 31))
    ) : Option (Int32)).bind fun t22 =>
    (wI s.2 a17 s.1 (x18 ||| t22)).bind fun h23 =>
    (gR h23 v0 11 26).bind fun a24 =>
    (ck h23 v0 11).bind fun u25 =>
    (fn_X12_goHour h23 v0 a24).bind fun h26 =>
    (some (s.1 + 1)).bind fun x27 =>
    some (.inl (x27, h26))
  else
    some (.inr s.2)
def hd_X12_learns_79 (Γ : aC) (v0 : Nat) (v1 : Int32) (v2 : Int32) (v3 : Int32) (v4 : Int32) (v5 : Int32) (s : Int32 × aH) : Prop := ∀ (j7 : Option Value), Jd Γ (0, 0) 79 [some (.ref v0), some (.int v1), some (.int v2), some (.int v3), some (.int v4), some (.int v5), some (.int s.1), j7] [] s.2
def ex_X12_learns_79 (Γ : aC) (v0 : Nat) (v1 : Int32) (v2 : Int32) (v3 : Int32) (v4 : Int32) (v5 : Int32) (r : (aH)) : Prop := (fun r => ∀ (j6 : Option Value) (j7 : Option Value), Jd Γ (0, 0) 130 [some (.ref v0), some (.int v1), some (.int v2), some (.int v3), some (.int v4), some (.int v5), j6, j7] [] r) r
set_option maxRecDepth 20000 in
set_option maxHeartbeats 4000000 in
theorem lw_X12_learns_79 {Γ : aC} {d : Nat} (X : Cx Γ RX12 cX12_learns 8 (some .int) (d, 0, 0)) (hd : 246 ≤ d) (v0 : Nat) (v1 : Int32) (v2 : Int32) (v3 : Int32) (v4 : Int32) (v5 : Int32) : ∀ n s o, lp (lb_X12_learns_79 v0 v1 v2 v3 v4 v5) n s = some o → ex_X12_learns_79 Γ v0 v1 v2 v3 v4 v5 o → hd_X12_learns_79 Γ v0 v1 v2 v3 v4 v5 s := by
  have hd1 : 1 ≤ d := by omega
  refine J_lp _ _ _ ?_
  intro s o hf hk j7
  unfold lb_X12_learns_79 at hf
  refine r_iload (pc := 79) X dX12_learns_79 rfl ?_
  refine r_bipush (pc := 81) X 40 dX12_learns_81 (by decide) ?_
  refine r_icmp_gt (pc := 83) X 130 dX12_learns_83 (by decide) (fun c29 => ?_) (fun c29 => ?_)
  · rw [if_neg c29] at hf
    obtain rfl := Option.some.inj hf
    exact hk _ _
  · rw [if_pos c29] at hf
    refine r_aload_n (pc := 86) X dX12_learns_86 rfl ?_
    obtain ⟨a17, ea17, hf⟩ := ob hf
    refine r_getR (pc := 87) X dX12_learns_87 fl_X12_63 rfl ea17 ?_
    refine r_iload (pc := 90) X dX12_learns_90 rfl ?_
    refine r_dup2 (pc := 92) X dX12_learns_92 rfl rfl ?_
    obtain ⟨x18, ex18, hf⟩ := ob hf
    refine r_iald (pc := 93) X dX12_learns_93 ex18 ?_
    refine r_aload_n (pc := 94) X dX12_learns_94 rfl ?_
    refine r_aload_n (pc := 95) X dX12_learns_95 rfl ?_
    obtain ⟨a19, ea19, hf⟩ := ob hf
    refine r_getR (pc := 96) X dX12_learns_96 fl_X12_48 rfl ea19 ?_
    refine r_iload_n (pc := 99) X dX12_learns_99 rfl ?_
    obtain ⟨u20, eu20, hf⟩ := ob hf
    obtain ⟨x21, ex21, hf⟩ := ob hf
    refine r_callVI (pc := 100) X [.ref a19, .int v3] dX12_learns_100 ml_X12_306 vo_X12_isMarked ⟨Nat.le_refl _, Nat.le_refl _⟩ eu20 (ev_X12_isMarked (d := d - 1) (by omega) _ _ _ _ _ ex21) hd1 rfl (Nat.le_of_ble_eq_true rfl) rfl ?_
    obtain ⟨t22, et22, hf⟩ := ob hf
    have Jt22 : Jd Γ (0, 0) 114 [some (.ref v0), some (.int v1), some (.int v2), some (.int v3), some (.int v4), some (.int v5), some (.int s.1), j7] [.int t22, .int x18, .int s.1, .ref a17] s.2 := by
      refine r_ior (pc := 114) X dX12_learns_114 ?_
      obtain ⟨h23, eh23, hf⟩ := ob hf
      refine r_iast (pc := 115) X dX12_learns_115 eh23 ?_
      refine r_aload_n (pc := 116) X dX12_learns_116 rfl ?_
      refine r_aload_n (pc := 117) X dX12_learns_117 rfl ?_
      obtain ⟨a24, ea24, hf⟩ := ob hf
      refine r_getR (pc := 118) X dX12_learns_118 fl_X12_48 rfl ea24 ?_
      obtain ⟨u25, eu25, hf⟩ := ob hf
      obtain ⟨h26, eh26, hf⟩ := ob hf
      refine r_callVV (pc := 121) X [.ref a24] dX12_learns_121 ml_X12_260 vo_X12_goHour ⟨Nat.le_refl _, Nat.le_refl _⟩ eu25 (ev_X12_goHour (d := d - 1) (by omega) _ _ _ _ eh26) hd1 rfl (Nat.le_of_ble_eq_true rfl) rfl ?_
      obtain ⟨x27, ex27, hf⟩ := ob hf
      refine r_iinc2 (pc := 124) X 1 [some (.ref v0), some (.int v1), some (.int v2), some (.int v3), some (.int v4), some (.int v5), some (.int x27), j7] dX12_learns_124 (by decide) rfl (by decide) ex27 rfl ?_
      refine r_goto (pc := 127) X 79 dX12_learns_127 (by decide) ?_
      obtain rfl := Option.some.inj hf
      exact hk _
    refine r_if_eq (pc := 103) X 113 dX12_learns_103 (by decide) (fun c28 => ?_) (fun c28 => ?_)
    · rw [if_pos c28] at et22
      refine r_iconst (pc := 113) X 0 dX12_learns_113 (by decide) ?_
      obtain rfl := Option.some.inj et22
      exact Jt22
    · rw [if_neg c28] at et22
      refine r_iconst (pc := 106) X 1 dX12_learns_106 (by decide) ?_
      refine r_iload (pc := 107) X dX12_learns_107 rfl ?_
      refine r_ishl (pc := 109) X dX12_learns_109 ?_
      refine r_goto (pc := 110) X 114 dX12_learns_110 (by decide) ?_
      obtain rfl := Option.some.inj et22
      exact Jt22
def lb_X12_learns_62 (v0 : Nat) (v1 : Int32) (v2 : Int32) (v3 : Int32) (v4 : Int32) (s : Int32 × aH) : Option ((Int32 × aH) ⊕ ((aH))) :=
  if s.1 < 4 then
    (ck s.2 v0 11).bind fun u15 =>
    (fn_X12_beginTable s.2 v0 v1 v2 s.1).bind fun h16 =>
    (lp (lb_X12_learns_79 v0 v1 v2 v3 v4 s.1) lpN (0, h16)).bind fun o30 =>
    (some (s.1 + 1)).bind fun x33 =>
    some (.inl (x33, o30))
  else
    some (.inr s.2)
def hd_X12_learns_62 (Γ : aC) (v0 : Nat) (v1 : Int32) (v2 : Int32) (v3 : Int32) (v4 : Int32) (s : Int32 × aH) : Prop := ∀ (j6 : Option Value) (j7 : Option Value), Jd Γ (0, 0) 62 [some (.ref v0), some (.int v1), some (.int v2), some (.int v3), some (.int v4), some (.int s.1), j6, j7] [] s.2
def ex_X12_learns_62 (Γ : aC) (v0 : Nat) (v1 : Int32) (v2 : Int32) (v3 : Int32) (v4 : Int32) (r : (aH)) : Prop := (fun r => ∀ (j5 : Option Value) (j6 : Option Value) (j7 : Option Value), Jd Γ (0, 0) 136 [some (.ref v0), some (.int v1), some (.int v2), some (.int v3), some (.int v4), j5, j6, j7] [] r) r
set_option maxRecDepth 20000 in
set_option maxHeartbeats 4000000 in
theorem lw_X12_learns_62 {Γ : aC} {d : Nat} (X : Cx Γ RX12 cX12_learns 8 (some .int) (d, 0, 0)) (hd : 246 ≤ d) (v0 : Nat) (v1 : Int32) (v2 : Int32) (v3 : Int32) (v4 : Int32) : ∀ n s o, lp (lb_X12_learns_62 v0 v1 v2 v3 v4) n s = some o → ex_X12_learns_62 Γ v0 v1 v2 v3 v4 o → hd_X12_learns_62 Γ v0 v1 v2 v3 v4 s := by
  have hd1 : 1 ≤ d := by omega
  refine J_lp _ _ _ ?_
  intro s o hf hk j6 j7
  unfold lb_X12_learns_62 at hf
  refine r_iload (pc := 62) X dX12_learns_62 rfl ?_
  refine r_iconst (pc := 64) X 4 dX12_learns_64 (by decide) ?_
  refine r_icmp_ge (pc := 65) X 136 dX12_learns_65 (by decide) (fun c34 => ?_) (fun c34 => ?_)
  · rw [if_neg c34] at hf
    obtain rfl := Option.some.inj hf
    exact hk _ _ _
  · rw [if_pos c34] at hf
    refine r_aload_n (pc := 68) X dX12_learns_68 rfl ?_
    refine r_iload_n (pc := 69) X dX12_learns_69 rfl ?_
    refine r_iload_n (pc := 70) X dX12_learns_70 rfl ?_
    refine r_iload (pc := 71) X dX12_learns_71 rfl ?_
    obtain ⟨u15, eu15, hf⟩ := ob hf
    obtain ⟨h16, eh16, hf⟩ := ob hf
    refine r_callVV (pc := 73) X [.int v1, .int v2, .int s.1] dX12_learns_73 ml_X12_324 vo_X12_beginTable ⟨Nat.le_refl _, Nat.le_refl _⟩ eu15 (ev_X12_beginTable (d := d - 1) (by omega) _ _ _ _ _ _ eh16) hd1 rfl (Nat.le_of_ble_eq_true rfl) rfl ?_
    refine r_iconst (pc := 76) X 0 dX12_learns_76 (by decide) ?_
    refine r_istore (pc := 77) X [some (.ref v0), some (.int v1), some (.int v2), some (.int v3), some (.int v4), some (.int s.1), some (.int 0), j7] dX12_learns_77 (by decide) rfl ?_
    obtain ⟨o30, eo30, hf⟩ := ob hf
    refine (lw_X12_learns_79 X hd _ _ _ _ _ _ lpN _ o30 eo30 ?_) _
    intro j31 j32
    obtain ⟨x33, ex33, hf⟩ := ob hf
    refine r_iinc2 (pc := 130) X 1 [some (.ref v0), some (.int v1), some (.int v2), some (.int v3), some (.int v4), some (.int x33), j31, j32] dX12_learns_130 (by decide) rfl (by decide) ex33 rfl ?_
    refine r_goto (pc := 133) X 62 dX12_learns_133 (by decide) ?_
    obtain rfl := Option.some.inj hf
    exact hk _ _
def lb_X12_learns_146 (hh : aH) (v0 : Nat) (v4 : Int32) (s : Int32 × Int32 × Int32) : Option ((Int32 × Int32 × Int32) ⊕ ((Int32 × Int32))) :=
  if s.2.2 ≤ 40 then
    (gR hh v0 11 33).bind fun a39 =>
    (aI hh a39 14 s.2.2).bind fun x40 =>
    if x40 = v4 then
      if s.1 = (-2) then
        (some (s.2.1 + 1)).bind fun x43 =>
        (some (s.2.2 + 1)).bind fun x44 =>
        some (.inl (s.2.2, x43, x44))
      else
        (some (s.2.1 + 1)).bind fun x41 =>
        (some (s.2.2 + 1)).bind fun x42 =>
        some (.inl (s.1, x41, x42))
    else
      (some (s.2.2 + 1)).bind fun x46 =>
      some (.inl (s.1, s.2.1, x46))
  else
    some (.inr (s.1, s.2.1))
def hd_X12_learns_146 (Γ : aC) (hh : aH) (v0 : Nat) (v4 : Int32) (s : Int32 × Int32 × Int32) : Prop := ∀ (j1 : Option Value) (j2 : Option Value) (j3 : Option Value), Jd Γ (0, 0) 146 [some (.ref v0), j1, j2, j3, some (.int v4), some (.int s.1), some (.int s.2.1), some (.int s.2.2)] [] hh
def ex_X12_learns_146 (Γ : aC) (hh : aH) (v0 : Nat) (v4 : Int32) (r : (Int32 × Int32)) : Prop := (fun r => ∀ (j1 : Option Value) (j2 : Option Value) (j3 : Option Value) (j7 : Option Value), Jd Γ (0, 0) 193 [some (.ref v0), j1, j2, j3, some (.int v4), some (.int r.1), some (.int r.2), j7] [] hh) r
set_option maxRecDepth 20000 in
set_option maxHeartbeats 4000000 in
theorem lw_X12_learns_146 {Γ : aC} {d : Nat} (X : Cx Γ RX12 cX12_learns 8 (some .int) (d, 0, 0)) (hd : 246 ≤ d) (hh : aH) (v0 : Nat) (v4 : Int32) : ∀ n s o, lp (lb_X12_learns_146 hh v0 v4) n s = some o → ex_X12_learns_146 Γ hh v0 v4 o → hd_X12_learns_146 Γ hh v0 v4 s := by
  have hd1 : 1 ≤ d := by omega
  refine J_lp _ _ _ ?_
  intro s o hf hk j1 j2 j3
  unfold lb_X12_learns_146 at hf
  refine r_iload (pc := 146) X dX12_learns_146 rfl ?_
  refine r_bipush (pc := 148) X 40 dX12_learns_148 (by decide) ?_
  refine r_icmp_gt (pc := 150) X 193 dX12_learns_150 (by decide) (fun c48 => ?_) (fun c48 => ?_)
  · rw [if_neg c48] at hf
    obtain rfl := Option.some.inj hf
    exact hk _ _ _ _
  · rw [if_pos c48] at hf
    refine r_aload_n (pc := 153) X dX12_learns_153 rfl ?_
    obtain ⟨a39, ea39, hf⟩ := ob hf
    refine r_getR (pc := 154) X dX12_learns_154 fl_X12_63 rfl ea39 ?_
    refine r_iload (pc := 157) X dX12_learns_157 rfl ?_
    obtain ⟨x40, ex40, hf⟩ := ob hf
    refine r_iald (pc := 159) X dX12_learns_159 ex40 ?_
    refine r_iload (pc := 160) X dX12_learns_160 rfl ?_
    refine r_icmp_eq (pc := 162) X 168 dX12_learns_162 (by decide) (fun c47 => ?_) (fun c47 => ?_)
    · rw [if_pos c47] at hf
      refine r_iload (pc := 168) X dX12_learns_168 rfl ?_
      refine r_bipush (pc := 170) X (-2) dX12_learns_170 (by decide) ?_
      refine r_icmp_ne (pc := 172) X 180 dX12_learns_172 (by decide) (fun c45 => ?_) (fun c45 => ?_)
      · rw [if_neg c45] at hf
        refine r_iload (pc := 180) X dX12_learns_180 rfl ?_
        refine r_istore (pc := 182) X [some (.ref v0), j1, j2, j3, some (.int v4), some (.int s.1), some (.int s.2.1), some (.int s.2.2)] dX12_learns_182 (by decide) rfl ?_
        obtain ⟨x41, ex41, hf⟩ := ob hf
        refine r_iinc2 (pc := 184) X 1 [some (.ref v0), j1, j2, j3, some (.int v4), some (.int s.1), some (.int x41), some (.int s.2.2)] dX12_learns_184 (by decide) rfl (by decide) ex41 rfl ?_
        obtain ⟨x42, ex42, hf⟩ := ob hf
        refine r_iinc2 (pc := 187) X 1 [some (.ref v0), j1, j2, j3, some (.int v4), some (.int s.1), some (.int x41), some (.int x42)] dX12_learns_187 (by decide) rfl (by decide) ex42 rfl ?_
        refine r_goto (pc := 190) X 146 dX12_learns_190 (by decide) ?_
        obtain rfl := Option.some.inj hf
        exact hk _ _ _
      · rw [if_pos c45] at hf
        refine r_iload (pc := 175) X dX12_learns_175 rfl ?_
        refine r_goto (pc := 177) X 182 dX12_learns_177 (by decide) ?_
        refine r_istore (pc := 182) X [some (.ref v0), j1, j2, j3, some (.int v4), some (.int s.2.2), some (.int s.2.1), some (.int s.2.2)] dX12_learns_182 (by decide) rfl ?_
        obtain ⟨x43, ex43, hf⟩ := ob hf
        refine r_iinc2 (pc := 184) X 1 [some (.ref v0), j1, j2, j3, some (.int v4), some (.int s.2.2), some (.int x43), some (.int s.2.2)] dX12_learns_184 (by decide) rfl (by decide) ex43 rfl ?_
        obtain ⟨x44, ex44, hf⟩ := ob hf
        refine r_iinc2 (pc := 187) X 1 [some (.ref v0), j1, j2, j3, some (.int v4), some (.int s.2.2), some (.int x43), some (.int x44)] dX12_learns_187 (by decide) rfl (by decide) ex44 rfl ?_
        refine r_goto (pc := 190) X 146 dX12_learns_190 (by decide) ?_
        obtain rfl := Option.some.inj hf
        exact hk _ _ _
    · rw [if_neg c47] at hf
      refine r_goto (pc := 165) X 187 dX12_learns_165 (by decide) ?_
      obtain ⟨x46, ex46, hf⟩ := ob hf
      refine r_iinc2 (pc := 187) X 1 [some (.ref v0), j1, j2, j3, some (.int v4), some (.int s.1), some (.int s.2.1), some (.int x46)] dX12_learns_187 (by decide) rfl (by decide) ex46 rfl ?_
      refine r_goto (pc := 190) X 146 dX12_learns_190 (by decide) ?_
      obtain rfl := Option.some.inj hf
      exact hk _ _ _
def fn_X12_learns (h : aH) (p0 : Nat) (p1 : Int32) (p2 : Int32) (p3 : Int32) (p4 : Int32) : Option (Int32 × aH) :=
  (pI h p0 11 11 0).bind fun h1 =>
  (ck h1 p0 11).bind fun u2 =>
  (fn_X12_areTwo h1 p0 p1 p2).bind fun x3 =>
  if x3 = 0 then
    some ((-1), h1)
  else
    (ck h1 p0 11).bind fun u4 =>
    (fn_X12_isBasin h1 p0 p3).bind fun x5 =>
    if x5 = 0 then
      some ((-1), h1)
    else
      (fn_X12_in h1 p4 0 15).bind fun x6 =>
      if x6 = 0 then
        some ((-1), h1)
      else
        (lp (lb_X12_learns_38 p0 p1 p2 p3 p4) lpN (0, h1)).bind fun o11 =>
        (lp (lb_X12_learns_62 p0 p1 p2 p3 p4) lpN (0, o11)).bind fun o35 =>
        (lp (lb_X12_learns_146 o35 p0 p4) lpN ((-2), 0, 0)).bind fun o49 =>
        if o49.1 = (-2) then
          some ((-2), o35)
        else
          (pI o35 p0 11 10 0).bind fun h54 =>
          (ck h54 p0 11).bind fun u55 =>
          (fn_X12_tell h54 p0 (Int32.toInt64 o49.2)).bind fun h56 =>
          some (o49.1, h56)
set_option maxRecDepth 20000 in
set_option maxHeartbeats 4000000 in
theorem ev_X12_learns {l : Launch} {g : aG} {d : Nat} (hd : 246 ≤ d) (h : aH) (p0 : Nat) (p1 : Int32) (p2 : Int32) (p3 : Int32) (p4 : Int32) (o : Int32 × aH) (hf : fn_X12_learns h p0 p1 p2 p3 p4 = some o) : EvM l g d yX12_learns cX12_learns 8 (some .int) [.ref p0, .int p1, .int p2, .int p3, .int p4] h (some (.int o.1), o.2) := by
  refine EvM.of mk_X12_learns (Nat.le_of_ble_eq_true rfl) ?_
  intro Γ hl hg hq X
  have hd1 : 1 ≤ d := by omega
  have hk : RqI Γ o := hq
  unfold fn_X12_learns at hf
  show Jd Γ (0, 0) 0 [some (.ref p0), some (.int p1), some (.int p2), some (.int p3), some (.int p4), none, none, none] [] h
  refine r_aload_n (pc := 0) X dX12_learns_0 rfl ?_
  refine r_iconst (pc := 1) X 0 dX12_learns_1 (by decide) ?_
  obtain ⟨h1, eh1, hf⟩ := ob hf
  refine r_putI (pc := 2) X dX12_learns_2 fp_X12_100 rfl eh1 ?_
  refine r_aload_n (pc := 5) X dX12_learns_5 rfl ?_
  refine r_iload_n (pc := 6) X dX12_learns_6 rfl ?_
  refine r_iload_n (pc := 7) X dX12_learns_7 rfl ?_
  obtain ⟨u2, eu2, hf⟩ := ob hf
  obtain ⟨x3, ex3, hf⟩ := ob hf
  refine r_callVI (pc := 8) X [.int p1, .int p2] dX12_learns_8 ml_X12_318 vo_X12_areTwo ⟨Nat.le_refl _, Nat.le_refl _⟩ eu2 (ev_X12_areTwo (d := d - 1) (by omega) _ _ _ _ _ ex3) hd1 rfl (Nat.le_of_ble_eq_true rfl) rfl ?_
  refine r_if_eq (pc := 11) X 33 dX12_learns_11 (by decide) (fun c60 => ?_) (fun c60 => ?_)
  · rw [if_pos c60] at hf
    refine r_iconst (pc := 33) X (-1) dX12_learns_33 (by decide) ?_
    obtain rfl := Option.some.inj hf
    exact r_iret (pc := 34) X dX12_learns_34 hk
  · rw [if_neg c60] at hf
    refine r_aload_n (pc := 14) X dX12_learns_14 rfl ?_
    refine r_iload_n (pc := 15) X dX12_learns_15 rfl ?_
    obtain ⟨u4, eu4, hf⟩ := ob hf
    obtain ⟨x5, ex5, hf⟩ := ob hf
    refine r_callVI (pc := 16) X [.int p3] dX12_learns_16 ml_X12_114 vo_X12_isBasin ⟨Nat.le_refl _, Nat.le_refl _⟩ eu4 (ev_X12_isBasin (d := d - 1) (by omega) _ _ _ _ ex5) hd1 rfl (Nat.le_of_ble_eq_true rfl) rfl ?_
    refine r_if_eq (pc := 19) X 33 dX12_learns_19 (by decide) (fun c59 => ?_) (fun c59 => ?_)
    · rw [if_pos c59] at hf
      refine r_iconst (pc := 33) X (-1) dX12_learns_33 (by decide) ?_
      obtain rfl := Option.some.inj hf
      exact r_iret (pc := 34) X dX12_learns_34 hk
    · rw [if_neg c59] at hf
      refine r_iload (pc := 22) X dX12_learns_22 rfl ?_
      refine r_iconst (pc := 24) X 0 dX12_learns_24 (by decide) ?_
      refine r_bipush (pc := 25) X 15 dX12_learns_25 (by decide) ?_
      obtain ⟨x6, ex6, hf⟩ := ob hf
      refine r_callSI (pc := 27) X [.int p4, .int 0, .int 15] dX12_learns_27 ml_X12_110 so_X12_in ⟨Nat.le_refl _, Nat.le_refl _⟩ (ev_X12_in (d := d - 1) (by omega) _ _ _ _ _ ex6) hd1 rfl (Nat.le_of_ble_eq_true rfl) rfl ?_
      refine r_if_ne (pc := 30) X 35 dX12_learns_30 (by decide) (fun c58 => ?_) (fun c58 => ?_)
      · rw [if_neg c58] at hf
        refine r_iconst (pc := 35) X 0 dX12_learns_35 (by decide) ?_
        refine r_istore (pc := 36) X [some (.ref p0), some (.int p1), some (.int p2), some (.int p3), some (.int p4), some (.int 0), none, none] dX12_learns_36 (by decide) rfl ?_
        obtain ⟨o11, eo11, hf⟩ := ob hf
        refine (lw_X12_learns_38 X hd _ _ _ _ _ lpN _ o11 eo11 ?_) _ _
        intro j12 j13 j14
        refine r_iconst (pc := 59) X 0 dX12_learns_59 (by decide) ?_
        refine r_istore (pc := 60) X [some (.ref p0), some (.int p1), some (.int p2), some (.int p3), some (.int p4), some (.int 0), j13, j14] dX12_learns_60 (by decide) rfl ?_
        obtain ⟨o35, eo35, hf⟩ := ob hf
        refine (lw_X12_learns_62 X hd _ _ _ _ _ lpN _ o35 eo35 ?_) _ _
        intro j36 j37 j38
        refine r_bipush (pc := 136) X (-2) dX12_learns_136 (by decide) ?_
        refine r_istore (pc := 138) X [some (.ref p0), some (.int p1), some (.int p2), some (.int p3), some (.int p4), some (.int (-2)), j37, j38] dX12_learns_138 (by decide) rfl ?_
        refine r_iconst (pc := 140) X 0 dX12_learns_140 (by decide) ?_
        refine r_istore (pc := 141) X [some (.ref p0), some (.int p1), some (.int p2), some (.int p3), some (.int p4), some (.int (-2)), some (.int 0), j38] dX12_learns_141 (by decide) rfl ?_
        refine r_iconst (pc := 143) X 0 dX12_learns_143 (by decide) ?_
        refine r_istore (pc := 144) X [some (.ref p0), some (.int p1), some (.int p2), some (.int p3), some (.int p4), some (.int (-2)), some (.int 0), some (.int 0)] dX12_learns_144 (by decide) rfl ?_
        obtain ⟨o49, eo49, hf⟩ := ob hf
        refine (lw_X12_learns_146 X hd _ _ _ lpN _ o49 eo49 ?_) _ _ _
        intro j50 j51 j52 j53
        refine r_iload (pc := 193) X dX12_learns_193 rfl ?_
        refine r_bipush (pc := 195) X (-2) dX12_learns_195 (by decide) ?_
        refine r_icmp_ne (pc := 197) X 203 dX12_learns_197 (by decide) (fun c57 => ?_) (fun c57 => ?_)
        · rw [if_neg c57] at hf
          refine r_aload_n (pc := 203) X dX12_learns_203 rfl ?_
          refine r_iconst (pc := 204) X 0 dX12_learns_204 (by decide) ?_
          obtain ⟨h54, eh54, hf⟩ := ob hf
          refine r_putI (pc := 205) X dX12_learns_205 fp_X12_104 rfl eh54 ?_
          refine r_aload_n (pc := 208) X dX12_learns_208 rfl ?_
          refine r_iload (pc := 209) X dX12_learns_209 rfl ?_
          refine r_i2l (pc := 211) X dX12_learns_211 ?_
          obtain ⟨u55, eu55, hf⟩ := ob hf
          obtain ⟨h56, eh56, hf⟩ := ob hf
          refine r_callVV (pc := 212) X [.long (Int32.toInt64 o49.2)] dX12_learns_212 ml_X12_274 vo_X12_tell ⟨Nat.le_refl _, Nat.le_refl _⟩ eu55 (ev_X12_tell (d := d - 1) (by omega) _ _ _ _ eh56) hd1 rfl (Nat.le_of_ble_eq_true rfl) rfl ?_
          refine r_iload (pc := 215) X dX12_learns_215 rfl ?_
          obtain rfl := Option.some.inj hf
          exact r_iret (pc := 217) X dX12_learns_217 hk
        · rw [if_pos c57] at hf
          refine r_bipush (pc := 200) X (-2) dX12_learns_200 (by decide) ?_
          obtain rfl := Option.some.inj hf
          exact r_iret (pc := 202) X dX12_learns_202 hk
      · rw [if_pos c58] at hf
        refine r_iconst (pc := 33) X (-1) dX12_learns_33 (by decide) ?_
        obtain rfl := Option.some.inj hf
        exact r_iret (pc := 34) X dX12_learns_34 hk

theorem dX12_comesOf_0 : decode cX12_comesOf 0 = .ok (.aload_n 0, 1) := by decide +kernel
theorem dX12_comesOf_1 : decode cX12_comesOf 1 = .ok (.getfield 9, 3) := by decide +kernel
theorem dX12_comesOf_4 : decode cX12_comesOf 4 = .ok (.aload_n 0, 1) := by decide +kernel
theorem dX12_comesOf_5 : decode cX12_comesOf 5 = .ok (.getfield 48, 3) := by decide +kernel
theorem dX12_comesOf_8 : decode cX12_comesOf 8 = .ok (.iconst 0, 1) := by decide +kernel
theorem dX12_comesOf_9 : decode cX12_comesOf 9 = .ok (.invokestatic 242, 3) := by decide +kernel
theorem dX12_comesOf_12 : decode cX12_comesOf 12 = .ok (.aload_n 0, 1) := by decide +kernel
theorem dX12_comesOf_13 : decode cX12_comesOf 13 = .ok (.getfield 48, 3) := by decide +kernel
theorem dX12_comesOf_16 : decode cX12_comesOf 16 = .ok (.iload_n 1, 1) := by decide +kernel
theorem dX12_comesOf_17 : decode cX12_comesOf 17 = .ok (.iload_n 2, 1) := by decide +kernel
theorem dX12_comesOf_18 : decode cX12_comesOf 18 = .ok (.iastore, 1) := by decide +kernel
theorem dX12_comesOf_19 : decode cX12_comesOf 19 = .ok (.aload_n 0, 1) := by decide +kernel
theorem dX12_comesOf_20 : decode cX12_comesOf 20 = .ok (.aload_n 0, 1) := by decide +kernel
theorem dX12_comesOf_21 : decode cX12_comesOf 21 = .ok (.getfield 48, 3) := by decide +kernel
theorem dX12_comesOf_24 : decode cX12_comesOf 24 = .ok (.iload 4, 2) := by decide +kernel
theorem dX12_comesOf_26 : decode cX12_comesOf 26 = .ok (.invokevirtual 267, 3) := by decide +kernel
theorem dX12_comesOf_29 : decode cX12_comesOf 29 = .ok (.aload_n 0, 1) := by decide +kernel
theorem dX12_comesOf_30 : decode cX12_comesOf 30 = .ok (.getfield 48, 3) := by decide +kernel
theorem dX12_comesOf_33 : decode cX12_comesOf 33 = .ok (.iload_n 3, 1) := by decide +kernel
theorem dX12_comesOf_34 : decode cX12_comesOf 34 = .ok (.iaload, 1) := by decide +kernel
theorem dX12_comesOf_35 : decode cX12_comesOf 35 = .ok (.ireturn, 1) := by decide +kernel
def fn_X12_comesOf (h : aH) (p0 : Nat) (p1 : Int32) (p2 : Int32) (p3 : Int32) (p4 : Int32) : Option (Int32 × aH) :=
  (gR h p0 11 0).bind fun a1 =>
  (gR h p0 11 26).bind fun a2 =>
  (fn_X12_lay h a1 a2 0).bind fun h3 =>
  (gR h3 p0 11 26).bind fun a4 =>
  (wI h3 a4 p1 p2).bind fun h5 =>
  (gR h5 p0 11 26).bind fun a6 =>
  (ck h5 p0 11).bind fun u7 =>
  (fn_X12_goHours h5 p0 a6 p4).bind fun h8 =>
  (gR h8 p0 11 26).bind fun a9 =>
  (aI h8 a9 14 p3).bind fun x10 =>
  some (x10, h8)
set_option maxRecDepth 20000 in
set_option maxHeartbeats 4000000 in
theorem ev_X12_comesOf {l : Launch} {g : aG} {d : Nat} (hd : 247 ≤ d) (h : aH) (p0 : Nat) (p1 : Int32) (p2 : Int32) (p3 : Int32) (p4 : Int32) (o : Int32 × aH) (hf : fn_X12_comesOf h p0 p1 p2 p3 p4 = some o) : EvM l g d yX12_comesOf cX12_comesOf 5 (some .int) [.ref p0, .int p1, .int p2, .int p3, .int p4] h (some (.int o.1), o.2) := by
  refine EvM.of mk_X12_comesOf (Nat.le_of_ble_eq_true rfl) ?_
  intro Γ hl hg hq X
  have hd1 : 1 ≤ d := by omega
  have hk : RqI Γ o := hq
  unfold fn_X12_comesOf at hf
  show Jd Γ (0, 0) 0 [some (.ref p0), some (.int p1), some (.int p2), some (.int p3), some (.int p4)] [] h
  refine r_aload_n (pc := 0) X dX12_comesOf_0 rfl ?_
  obtain ⟨a1, ea1, hf⟩ := ob hf
  refine r_getR (pc := 1) X dX12_comesOf_1 fl_X12_9 rfl ea1 ?_
  refine r_aload_n (pc := 4) X dX12_comesOf_4 rfl ?_
  obtain ⟨a2, ea2, hf⟩ := ob hf
  refine r_getR (pc := 5) X dX12_comesOf_5 fl_X12_48 rfl ea2 ?_
  refine r_iconst (pc := 8) X 0 dX12_comesOf_8 (by decide) ?_
  obtain ⟨h3, eh3, hf⟩ := ob hf
  refine r_callSV (pc := 9) X [.ref a1, .ref a2, .int 0] dX12_comesOf_9 ml_X12_242 so_X12_lay ⟨Nat.le_refl _, Nat.le_refl _⟩ (ev_X12_lay (d := d - 1) (by omega) _ _ _ _ _ eh3) hd1 rfl (Nat.le_of_ble_eq_true rfl) rfl ?_
  refine r_aload_n (pc := 12) X dX12_comesOf_12 rfl ?_
  obtain ⟨a4, ea4, hf⟩ := ob hf
  refine r_getR (pc := 13) X dX12_comesOf_13 fl_X12_48 rfl ea4 ?_
  refine r_iload_n (pc := 16) X dX12_comesOf_16 rfl ?_
  refine r_iload_n (pc := 17) X dX12_comesOf_17 rfl ?_
  obtain ⟨h5, eh5, hf⟩ := ob hf
  refine r_iast (pc := 18) X dX12_comesOf_18 eh5 ?_
  refine r_aload_n (pc := 19) X dX12_comesOf_19 rfl ?_
  refine r_aload_n (pc := 20) X dX12_comesOf_20 rfl ?_
  obtain ⟨a6, ea6, hf⟩ := ob hf
  refine r_getR (pc := 21) X dX12_comesOf_21 fl_X12_48 rfl ea6 ?_
  refine r_iload (pc := 24) X dX12_comesOf_24 rfl ?_
  obtain ⟨u7, eu7, hf⟩ := ob hf
  obtain ⟨h8, eh8, hf⟩ := ob hf
  refine r_callVV (pc := 26) X [.ref a6, .int p4] dX12_comesOf_26 ml_X12_267 vo_X12_goHours ⟨Nat.le_refl _, Nat.le_refl _⟩ eu7 (ev_X12_goHours (d := d - 1) (by omega) _ _ _ _ _ eh8) hd1 rfl (Nat.le_of_ble_eq_true rfl) rfl ?_
  refine r_aload_n (pc := 29) X dX12_comesOf_29 rfl ?_
  obtain ⟨a9, ea9, hf⟩ := ob hf
  refine r_getR (pc := 30) X dX12_comesOf_30 fl_X12_48 rfl ea9 ?_
  refine r_iload_n (pc := 33) X dX12_comesOf_33 rfl ?_
  obtain ⟨x10, ex10, hf⟩ := ob hf
  refine r_iald (pc := 34) X dX12_comesOf_34 ex10 ?_
  obtain rfl := Option.some.inj hf
  exact r_iret (pc := 35) X dX12_comesOf_35 hk

theorem dX12_kinds_0 : decode cX12_kinds 0 = .ok (.iconst 0, 1) := by decide +kernel
theorem dX12_kinds_1 : decode cX12_kinds 1 = .ok (.istore 4, 2) := by decide +kernel
theorem dX12_kinds_3 : decode cX12_kinds 3 = .ok (.iconst 0, 1) := by decide +kernel
theorem dX12_kinds_4 : decode cX12_kinds 4 = .ok (.istore 5, 2) := by decide +kernel
theorem dX12_kinds_6 : decode cX12_kinds 6 = .ok (.iload 5, 2) := by decide +kernel
theorem dX12_kinds_8 : decode cX12_kinds 8 = .ok (.bipush 9, 2) := by decide +kernel
theorem dX12_kinds_10 : decode cX12_kinds 10 = .ok (.if_icmp .gt 25, 3) := by decide +kernel
theorem dX12_kinds_13 : decode cX12_kinds 13 = .ok (.iload 4, 2) := by decide +kernel
theorem dX12_kinds_15 : decode cX12_kinds 15 = .ok (.iconst 1, 1) := by decide +kernel
theorem dX12_kinds_16 : decode cX12_kinds 16 = .ok (.aload_n 0, 1) := by decide +kernel
theorem dX12_kinds_17 : decode cX12_kinds 17 = .ok (.iload_n 1, 1) := by decide +kernel
theorem dX12_kinds_18 : decode cX12_kinds 18 = .ok (.iload 5, 2) := by decide +kernel
theorem dX12_kinds_20 : decode cX12_kinds 20 = .ok (.iload_n 2, 1) := by decide +kernel
theorem dX12_kinds_21 : decode cX12_kinds 21 = .ok (.iload_n 3, 1) := by decide +kernel
theorem dX12_kinds_22 : decode cX12_kinds 22 = .ok (.invokevirtual 328, 3) := by decide +kernel
theorem dX12_kinds_25 : decode cX12_kinds 25 = .ok (.ishl, 1) := by decide +kernel
theorem dX12_kinds_26 : decode cX12_kinds 26 = .ok (.ior, 1) := by decide +kernel
theorem dX12_kinds_27 : decode cX12_kinds 27 = .ok (.istore 4, 2) := by decide +kernel
theorem dX12_kinds_29 : decode cX12_kinds 29 = .ok (.iinc 5 1, 3) := by decide +kernel
theorem dX12_kinds_32 : decode cX12_kinds 32 = .ok (.goto (-26), 3) := by decide +kernel
theorem dX12_kinds_35 : decode cX12_kinds 35 = .ok (.iload 4, 2) := by decide +kernel
theorem dX12_kinds_37 : decode cX12_kinds 37 = .ok (.invokestatic 332, 3) := by decide +kernel
theorem dX12_kinds_40 : decode cX12_kinds 40 = .ok (.ireturn, 1) := by decide +kernel
def lb_X12_kinds_6 (v0 : Nat) (v1 : Int32) (v2 : Int32) (v3 : Int32) (s : Int32 × Int32 × aH) : Option ((Int32 × Int32 × aH) ⊕ ((Int32 × aH))) :=
  if s.2.1 ≤ 9 then
    (ck s.2.2 v0 11).bind fun u1 =>
    (fn_X12_comesOf s.2.2 v0 v1 s.2.1 v2 v3).bind fun o2 =>
    (some (s.1 ||| (1 <<< (o2.1 &&& 31)))).bind fun x3 =>
    (some (s.2.1 + 1)).bind fun x4 =>
    some (.inl (x3, x4, o2.2))
  else
    some (.inr (s.1, s.2.2))
def hd_X12_kinds_6 (Γ : aC) (v0 : Nat) (v1 : Int32) (v2 : Int32) (v3 : Int32) (s : Int32 × Int32 × aH) : Prop := Jd Γ (0, 0) 6 [some (.ref v0), some (.int v1), some (.int v2), some (.int v3), some (.int s.1), some (.int s.2.1)] [] s.2.2
def ex_X12_kinds_6 (Γ : aC) (v0 : Nat) (v1 : Int32) (v2 : Int32) (v3 : Int32) (r : (Int32 × aH)) : Prop := (fun r => ∀ (j5 : Option Value), Jd Γ (0, 0) 35 [some (.ref v0), some (.int v1), some (.int v2), some (.int v3), some (.int r.1), j5] [] r.2) r
set_option maxRecDepth 20000 in
set_option maxHeartbeats 4000000 in
theorem lw_X12_kinds_6 {Γ : aC} {d : Nat} (X : Cx Γ RX12 cX12_kinds 6 (some .int) (d, 0, 0)) (hd : 248 ≤ d) (v0 : Nat) (v1 : Int32) (v2 : Int32) (v3 : Int32) : ∀ n s o, lp (lb_X12_kinds_6 v0 v1 v2 v3) n s = some o → ex_X12_kinds_6 Γ v0 v1 v2 v3 o → hd_X12_kinds_6 Γ v0 v1 v2 v3 s := by
  have hd1 : 1 ≤ d := by omega
  refine J_lp _ _ _ ?_
  intro s o hf hk
  unfold lb_X12_kinds_6 at hf
  refine r_iload (pc := 6) X dX12_kinds_6 rfl ?_
  refine r_bipush (pc := 8) X 9 dX12_kinds_8 (by decide) ?_
  refine r_icmp_gt (pc := 10) X 35 dX12_kinds_10 (by decide) (fun c5 => ?_) (fun c5 => ?_)
  · rw [if_neg c5] at hf
    obtain rfl := Option.some.inj hf
    exact hk _
  · rw [if_pos c5] at hf
    refine r_iload (pc := 13) X dX12_kinds_13 rfl ?_
    refine r_iconst (pc := 15) X 1 dX12_kinds_15 (by decide) ?_
    refine r_aload_n (pc := 16) X dX12_kinds_16 rfl ?_
    refine r_iload_n (pc := 17) X dX12_kinds_17 rfl ?_
    refine r_iload (pc := 18) X dX12_kinds_18 rfl ?_
    refine r_iload_n (pc := 20) X dX12_kinds_20 rfl ?_
    refine r_iload_n (pc := 21) X dX12_kinds_21 rfl ?_
    obtain ⟨u1, eu1, hf⟩ := ob hf
    obtain ⟨o2, eo2, hf⟩ := ob hf
    refine r_callVI (pc := 22) X [.int v1, .int s.2.1, .int v2, .int v3] dX12_kinds_22 ml_X12_328 vo_X12_comesOf ⟨Nat.le_refl _, Nat.le_refl _⟩ eu1 (ev_X12_comesOf (d := d - 1) (by omega) _ _ _ _ _ _ _ eo2) hd1 rfl (Nat.le_of_ble_eq_true rfl) rfl ?_
    refine r_ishl (pc := 25) X dX12_kinds_25 ?_
    refine r_ior (pc := 26) X dX12_kinds_26 ?_
    obtain ⟨x3, ex3, hf⟩ := ob hf
    refine r_nmI ex3 ?_
    refine r_istore (pc := 27) X [some (.ref v0), some (.int v1), some (.int v2), some (.int v3), some (.int x3), some (.int s.2.1)] dX12_kinds_27 (by decide) rfl ?_
    obtain ⟨x4, ex4, hf⟩ := ob hf
    refine r_iinc2 (pc := 29) X 1 [some (.ref v0), some (.int v1), some (.int v2), some (.int v3), some (.int x3), some (.int x4)] dX12_kinds_29 (by decide) rfl (by decide) ex4 rfl ?_
    refine r_goto (pc := 32) X 6 dX12_kinds_32 (by decide) ?_
    obtain rfl := Option.some.inj hf
    exact hk
def fn_X12_kinds (h : aH) (p0 : Nat) (p1 : Int32) (p2 : Int32) (p3 : Int32) : Option (Int32 × aH) :=
  (lp (lb_X12_kinds_6 p0 p1 p2 p3) lpN (0, 0, h)).bind fun o6 =>
  (fn_J6_bitCount_0f7a4 o6.2 o6.1).bind fun x8 =>
  some (x8, o6.2)
set_option maxRecDepth 20000 in
set_option maxHeartbeats 4000000 in
theorem ev_X12_kinds {l : Launch} {g : aG} {d : Nat} (hd : 248 ≤ d) (h : aH) (p0 : Nat) (p1 : Int32) (p2 : Int32) (p3 : Int32) (o : Int32 × aH) (hf : fn_X12_kinds h p0 p1 p2 p3 = some o) : EvM l g d yX12_kinds cX12_kinds 6 (some .int) [.ref p0, .int p1, .int p2, .int p3] h (some (.int o.1), o.2) := by
  refine EvM.of mk_X12_kinds (Nat.le_of_ble_eq_true rfl) ?_
  intro Γ hl hg hq X
  have hd1 : 1 ≤ d := by omega
  have hk : RqI Γ o := hq
  unfold fn_X12_kinds at hf
  show Jd Γ (0, 0) 0 [some (.ref p0), some (.int p1), some (.int p2), some (.int p3), none, none] [] h
  refine r_iconst (pc := 0) X 0 dX12_kinds_0 (by decide) ?_
  refine r_istore (pc := 1) X [some (.ref p0), some (.int p1), some (.int p2), some (.int p3), some (.int 0), none] dX12_kinds_1 (by decide) rfl ?_
  refine r_iconst (pc := 3) X 0 dX12_kinds_3 (by decide) ?_
  refine r_istore (pc := 4) X [some (.ref p0), some (.int p1), some (.int p2), some (.int p3), some (.int 0), some (.int 0)] dX12_kinds_4 (by decide) rfl ?_
  obtain ⟨o6, eo6, hf⟩ := ob hf
  refine (lw_X12_kinds_6 X hd _ _ _ _ lpN _ o6 eo6 ?_)
  intro j7
  refine r_iload (pc := 35) X dX12_kinds_35 rfl ?_
  obtain ⟨x8, ex8, hf⟩ := ob hf
  refine r_callSI (pc := 37) X [.int o6.1] dX12_kinds_37 ml_X12_332 so_J6_bitCount_0f7a4 ⟨Nat.le_refl _, Nat.le_refl _⟩ (ev_J6_bitCount_0f7a4 (d := d - 1) (by omega) _ _ _ ex8) hd1 rfl (Nat.le_of_ble_eq_true rfl) rfl ?_
  obtain rfl := Option.some.inj hf
  exact r_iret (pc := 40) X dX12_kinds_40 hk

theorem dX12_words_0 : decode cX12_words 0 = .ok (.aload_n 0, 1) := by decide +kernel
theorem dX12_words_1 : decode cX12_words 1 = .ok (.iconst 0, 1) := by decide +kernel
theorem dX12_words_2 : decode cX12_words 2 = .ok (.putfield 100, 3) := by decide +kernel
theorem dX12_words_5 : decode cX12_words 5 = .ok (.aload_n 0, 1) := by decide +kernel
theorem dX12_words_6 : decode cX12_words 6 = .ok (.iload_n 1, 1) := by decide +kernel
theorem dX12_words_7 : decode cX12_words 7 = .ok (.iload_n 2, 1) := by decide +kernel
theorem dX12_words_8 : decode cX12_words 8 = .ok (.invokevirtual 318, 3) := by decide +kernel
theorem dX12_words_11 : decode cX12_words 11 = .ok (.ifCond .eq 10, 3) := by decide +kernel
theorem dX12_words_14 : decode cX12_words 14 = .ok (.iload_n 3, 1) := by decide +kernel
theorem dX12_words_15 : decode cX12_words 15 = .ok (.invokestatic 321, 3) := by decide +kernel
theorem dX12_words_18 : decode cX12_words 18 = .ok (.ifCond .ne 5, 3) := by decide +kernel
theorem dX12_words_21 : decode cX12_words 21 = .ok (.iconst (-1), 1) := by decide +kernel
theorem dX12_words_22 : decode cX12_words 22 = .ok (.ireturn, 1) := by decide +kernel
theorem dX12_words_23 : decode cX12_words 23 = .ok (.aload_n 0, 1) := by decide +kernel
theorem dX12_words_24 : decode cX12_words 24 = .ok (.iconst 0, 1) := by decide +kernel
theorem dX12_words_25 : decode cX12_words 25 = .ok (.putfield 104, 3) := by decide +kernel
theorem dX12_words_28 : decode cX12_words 28 = .ok (.iconst 0, 1) := by decide +kernel
theorem dX12_words_29 : decode cX12_words 29 = .ok (.istore 4, 2) := by decide +kernel
theorem dX12_words_31 : decode cX12_words 31 = .ok (.iload 4, 2) := by decide +kernel
theorem dX12_words_33 : decode cX12_words 33 = .ok (.bipush 9, 2) := by decide +kernel
theorem dX12_words_35 : decode cX12_words 35 = .ok (.if_icmp .gt 23, 3) := by decide +kernel
theorem dX12_words_38 : decode cX12_words 38 = .ok (.aload_n 0, 1) := by decide +kernel
theorem dX12_words_39 : decode cX12_words 39 = .ok (.aload_n 0, 1) := by decide +kernel
theorem dX12_words_40 : decode cX12_words 40 = .ok (.iload_n 1, 1) := by decide +kernel
theorem dX12_words_41 : decode cX12_words 41 = .ok (.iload 4, 2) := by decide +kernel
theorem dX12_words_43 : decode cX12_words 43 = .ok (.iload_n 2, 1) := by decide +kernel
theorem dX12_words_44 : decode cX12_words 44 = .ok (.iload_n 3, 1) := by decide +kernel
theorem dX12_words_45 : decode cX12_words 45 = .ok (.invokevirtual 328, 3) := by decide +kernel
theorem dX12_words_48 : decode cX12_words 48 = .ok (.i2l, 1) := by decide +kernel
theorem dX12_words_49 : decode cX12_words 49 = .ok (.invokevirtual 274, 3) := by decide +kernel
theorem dX12_words_52 : decode cX12_words 52 = .ok (.iinc 4 1, 3) := by decide +kernel
theorem dX12_words_55 : decode cX12_words 55 = .ok (.goto (-24), 3) := by decide +kernel
theorem dX12_words_58 : decode cX12_words 58 = .ok (.aload_n 0, 1) := by decide +kernel
theorem dX12_words_59 : decode cX12_words 59 = .ok (.iload_n 1, 1) := by decide +kernel
theorem dX12_words_60 : decode cX12_words 60 = .ok (.iload_n 2, 1) := by decide +kernel
theorem dX12_words_61 : decode cX12_words 61 = .ok (.iload_n 3, 1) := by decide +kernel
theorem dX12_words_62 : decode cX12_words 62 = .ok (.invokevirtual 337, 3) := by decide +kernel
theorem dX12_words_65 : decode cX12_words 65 = .ok (.ireturn, 1) := by decide +kernel
def lb_X12_words_31 (v0 : Nat) (v1 : Int32) (v2 : Int32) (v3 : Int32) (s : Int32 × aH) : Option ((Int32 × aH) ⊕ ((aH))) :=
  if s.1 ≤ 9 then
    (ck s.2 v0 11).bind fun u6 =>
    (fn_X12_comesOf s.2 v0 v1 s.1 v2 v3).bind fun o7 =>
    (ck o7.2 v0 11).bind fun u8 =>
    (fn_X12_tell o7.2 v0 (Int32.toInt64 o7.1)).bind fun h9 =>
    (some (s.1 + 1)).bind fun x10 =>
    some (.inl (x10, h9))
  else
    some (.inr s.2)
def hd_X12_words_31 (Γ : aC) (v0 : Nat) (v1 : Int32) (v2 : Int32) (v3 : Int32) (s : Int32 × aH) : Prop := Jd Γ (0, 0) 31 [some (.ref v0), some (.int v1), some (.int v2), some (.int v3), some (.int s.1)] [] s.2
def ex_X12_words_31 (Γ : aC) (v0 : Nat) (v1 : Int32) (v2 : Int32) (v3 : Int32) (r : (aH)) : Prop := (fun r => ∀ (j4 : Option Value), Jd Γ (0, 0) 58 [some (.ref v0), some (.int v1), some (.int v2), some (.int v3), j4] [] r) r
set_option maxRecDepth 20000 in
set_option maxHeartbeats 4000000 in
theorem lw_X12_words_31 {Γ : aC} {d : Nat} (X : Cx Γ RX12 cX12_words 5 (some .int) (d, 0, 0)) (hd : 249 ≤ d) (v0 : Nat) (v1 : Int32) (v2 : Int32) (v3 : Int32) : ∀ n s o, lp (lb_X12_words_31 v0 v1 v2 v3) n s = some o → ex_X12_words_31 Γ v0 v1 v2 v3 o → hd_X12_words_31 Γ v0 v1 v2 v3 s := by
  have hd1 : 1 ≤ d := by omega
  refine J_lp _ _ _ ?_
  intro s o hf hk
  unfold lb_X12_words_31 at hf
  refine r_iload (pc := 31) X dX12_words_31 rfl ?_
  refine r_bipush (pc := 33) X 9 dX12_words_33 (by decide) ?_
  refine r_icmp_gt (pc := 35) X 58 dX12_words_35 (by decide) (fun c11 => ?_) (fun c11 => ?_)
  · rw [if_neg c11] at hf
    obtain rfl := Option.some.inj hf
    exact hk _
  · rw [if_pos c11] at hf
    refine r_aload_n (pc := 38) X dX12_words_38 rfl ?_
    refine r_aload_n (pc := 39) X dX12_words_39 rfl ?_
    refine r_iload_n (pc := 40) X dX12_words_40 rfl ?_
    refine r_iload (pc := 41) X dX12_words_41 rfl ?_
    refine r_iload_n (pc := 43) X dX12_words_43 rfl ?_
    refine r_iload_n (pc := 44) X dX12_words_44 rfl ?_
    obtain ⟨u6, eu6, hf⟩ := ob hf
    obtain ⟨o7, eo7, hf⟩ := ob hf
    refine r_callVI (pc := 45) X [.int v1, .int s.1, .int v2, .int v3] dX12_words_45 ml_X12_328 vo_X12_comesOf ⟨Nat.le_refl _, Nat.le_refl _⟩ eu6 (ev_X12_comesOf (d := d - 1) (by omega) _ _ _ _ _ _ _ eo7) hd1 rfl (Nat.le_of_ble_eq_true rfl) rfl ?_
    refine r_i2l (pc := 48) X dX12_words_48 ?_
    obtain ⟨u8, eu8, hf⟩ := ob hf
    obtain ⟨h9, eh9, hf⟩ := ob hf
    refine r_callVV (pc := 49) X [.long (Int32.toInt64 o7.1)] dX12_words_49 ml_X12_274 vo_X12_tell ⟨Nat.le_refl _, Nat.le_refl _⟩ eu8 (ev_X12_tell (d := d - 1) (by omega) _ _ _ _ eh9) hd1 rfl (Nat.le_of_ble_eq_true rfl) rfl ?_
    obtain ⟨x10, ex10, hf⟩ := ob hf
    refine r_iinc2 (pc := 52) X 1 [some (.ref v0), some (.int v1), some (.int v2), some (.int v3), some (.int x10)] dX12_words_52 (by decide) rfl (by decide) ex10 rfl ?_
    refine r_goto (pc := 55) X 31 dX12_words_55 (by decide) ?_
    obtain rfl := Option.some.inj hf
    exact hk
def fn_X12_words (h : aH) (p0 : Nat) (p1 : Int32) (p2 : Int32) (p3 : Int32) : Option (Int32 × aH) :=
  (pI h p0 11 11 0).bind fun h1 =>
  (ck h1 p0 11).bind fun u2 =>
  (fn_X12_areTwo h1 p0 p1 p2).bind fun x3 =>
  if x3 = 0 then
    some ((-1), h1)
  else
    (fn_X12_isSoon h1 p3).bind fun x4 =>
    if x4 = 0 then
      some ((-1), h1)
    else
      (pI h1 p0 11 10 0).bind fun h5 =>
      (lp (lb_X12_words_31 p0 p1 p2 p3) lpN (0, h5)).bind fun o12 =>
      (ck o12 p0 11).bind fun u14 =>
      (fn_X12_kinds o12 p0 p1 p2 p3).bind fun o15 =>
      some (o15.1, o15.2)
set_option maxRecDepth 20000 in
set_option maxHeartbeats 4000000 in
theorem ev_X12_words {l : Launch} {g : aG} {d : Nat} (hd : 249 ≤ d) (h : aH) (p0 : Nat) (p1 : Int32) (p2 : Int32) (p3 : Int32) (o : Int32 × aH) (hf : fn_X12_words h p0 p1 p2 p3 = some o) : EvM l g d yX12_words cX12_words 5 (some .int) [.ref p0, .int p1, .int p2, .int p3] h (some (.int o.1), o.2) := by
  refine EvM.of mk_X12_words (Nat.le_of_ble_eq_true rfl) ?_
  intro Γ hl hg hq X
  have hd1 : 1 ≤ d := by omega
  have hk : RqI Γ o := hq
  unfold fn_X12_words at hf
  show Jd Γ (0, 0) 0 [some (.ref p0), some (.int p1), some (.int p2), some (.int p3), none] [] h
  refine r_aload_n (pc := 0) X dX12_words_0 rfl ?_
  refine r_iconst (pc := 1) X 0 dX12_words_1 (by decide) ?_
  obtain ⟨h1, eh1, hf⟩ := ob hf
  refine r_putI (pc := 2) X dX12_words_2 fp_X12_100 rfl eh1 ?_
  refine r_aload_n (pc := 5) X dX12_words_5 rfl ?_
  refine r_iload_n (pc := 6) X dX12_words_6 rfl ?_
  refine r_iload_n (pc := 7) X dX12_words_7 rfl ?_
  obtain ⟨u2, eu2, hf⟩ := ob hf
  obtain ⟨x3, ex3, hf⟩ := ob hf
  refine r_callVI (pc := 8) X [.int p1, .int p2] dX12_words_8 ml_X12_318 vo_X12_areTwo ⟨Nat.le_refl _, Nat.le_refl _⟩ eu2 (ev_X12_areTwo (d := d - 1) (by omega) _ _ _ _ _ ex3) hd1 rfl (Nat.le_of_ble_eq_true rfl) rfl ?_
  refine r_if_eq (pc := 11) X 21 dX12_words_11 (by decide) (fun c17 => ?_) (fun c17 => ?_)
  · rw [if_pos c17] at hf
    refine r_iconst (pc := 21) X (-1) dX12_words_21 (by decide) ?_
    obtain rfl := Option.some.inj hf
    exact r_iret (pc := 22) X dX12_words_22 hk
  · rw [if_neg c17] at hf
    refine r_iload_n (pc := 14) X dX12_words_14 rfl ?_
    obtain ⟨x4, ex4, hf⟩ := ob hf
    refine r_callSI (pc := 15) X [.int p3] dX12_words_15 ml_X12_321 so_X12_isSoon ⟨Nat.le_refl _, Nat.le_refl _⟩ (ev_X12_isSoon (d := d - 1) (by omega) _ _ _ ex4) hd1 rfl (Nat.le_of_ble_eq_true rfl) rfl ?_
    refine r_if_ne (pc := 18) X 23 dX12_words_18 (by decide) (fun c16 => ?_) (fun c16 => ?_)
    · rw [if_neg c16] at hf
      refine r_aload_n (pc := 23) X dX12_words_23 rfl ?_
      refine r_iconst (pc := 24) X 0 dX12_words_24 (by decide) ?_
      obtain ⟨h5, eh5, hf⟩ := ob hf
      refine r_putI (pc := 25) X dX12_words_25 fp_X12_104 rfl eh5 ?_
      refine r_iconst (pc := 28) X 0 dX12_words_28 (by decide) ?_
      refine r_istore (pc := 29) X [some (.ref p0), some (.int p1), some (.int p2), some (.int p3), some (.int 0)] dX12_words_29 (by decide) rfl ?_
      obtain ⟨o12, eo12, hf⟩ := ob hf
      refine (lw_X12_words_31 X hd _ _ _ _ lpN _ o12 eo12 ?_)
      intro j13
      refine r_aload_n (pc := 58) X dX12_words_58 rfl ?_
      refine r_iload_n (pc := 59) X dX12_words_59 rfl ?_
      refine r_iload_n (pc := 60) X dX12_words_60 rfl ?_
      refine r_iload_n (pc := 61) X dX12_words_61 rfl ?_
      obtain ⟨u14, eu14, hf⟩ := ob hf
      obtain ⟨o15, eo15, hf⟩ := ob hf
      refine r_callVI (pc := 62) X [.int p1, .int p2, .int p3] dX12_words_62 ml_X12_337 vo_X12_kinds ⟨Nat.le_refl _, Nat.le_refl _⟩ eu14 (ev_X12_kinds (d := d - 1) (by omega) _ _ _ _ _ _ eo15) hd1 rfl (Nat.le_of_ble_eq_true rfl) rfl ?_
      obtain rfl := Option.some.inj hf
      exact r_iret (pc := 65) X dX12_words_65 hk
    · rw [if_pos c16] at hf
      refine r_iconst (pc := 21) X (-1) dX12_words_21 (by decide) ?_
      obtain rfl := Option.some.inj hf
      exact r_iret (pc := 22) X dX12_words_22 hk

theorem dX12_hears_0 : decode cX12_hears 0 = .ok (.aload_n 0, 1) := by decide +kernel
theorem dX12_hears_1 : decode cX12_hears 1 = .ok (.iconst 0, 1) := by decide +kernel
theorem dX12_hears_2 : decode cX12_hears 2 = .ok (.putfield 100, 3) := by decide +kernel
theorem dX12_hears_5 : decode cX12_hears 5 = .ok (.aload_n 0, 1) := by decide +kernel
theorem dX12_hears_6 : decode cX12_hears 6 = .ok (.iload_n 1, 1) := by decide +kernel
theorem dX12_hears_7 : decode cX12_hears 7 = .ok (.invokevirtual 114, 3) := by decide +kernel
theorem dX12_hears_10 : decode cX12_hears 10 = .ok (.ifCond .eq 10, 3) := by decide +kernel
theorem dX12_hears_13 : decode cX12_hears 13 = .ok (.iload_n 2, 1) := by decide +kernel
theorem dX12_hears_14 : decode cX12_hears 14 = .ok (.invokestatic 321, 3) := by decide +kernel
theorem dX12_hears_17 : decode cX12_hears 17 = .ok (.ifCond .ne 5, 3) := by decide +kernel
theorem dX12_hears_20 : decode cX12_hears 20 = .ok (.iconst (-1), 1) := by decide +kernel
theorem dX12_hears_21 : decode cX12_hears 21 = .ok (.ireturn, 1) := by decide +kernel
theorem dX12_hears_22 : decode cX12_hears 22 = .ok (.bipush (-2), 2) := by decide +kernel
theorem dX12_hears_24 : decode cX12_hears 24 = .ok (.istore_n 3, 1) := by decide +kernel
theorem dX12_hears_25 : decode cX12_hears 25 = .ok (.iconst 0, 1) := by decide +kernel
theorem dX12_hears_26 : decode cX12_hears 26 = .ok (.istore 4, 2) := by decide +kernel
theorem dX12_hears_28 : decode cX12_hears 28 = .ok (.iconst 0, 1) := by decide +kernel
theorem dX12_hears_29 : decode cX12_hears 29 = .ok (.istore 5, 2) := by decide +kernel
theorem dX12_hears_31 : decode cX12_hears 31 = .ok (.iload 5, 2) := by decide +kernel
theorem dX12_hears_33 : decode cX12_hears 33 = .ok (.aload_n 0, 1) := by decide +kernel
theorem dX12_hears_34 : decode cX12_hears 34 = .ok (.getfield 107, 3) := by decide +kernel
theorem dX12_hears_37 : decode cX12_hears 37 = .ok (.if_icmp .ge 44, 3) := by decide +kernel
theorem dX12_hears_40 : decode cX12_hears 40 = .ok (.iload 5, 2) := by decide +kernel
theorem dX12_hears_42 : decode cX12_hears 42 = .ok (.iload_n 1, 1) := by decide +kernel
theorem dX12_hears_43 : decode cX12_hears 43 = .ok (.if_icmp .eq 32, 3) := by decide +kernel
theorem dX12_hears_46 : decode cX12_hears 46 = .ok (.aload_n 0, 1) := by decide +kernel
theorem dX12_hears_47 : decode cX12_hears 47 = .ok (.iload_n 1, 1) := by decide +kernel
theorem dX12_hears_48 : decode cX12_hears 48 = .ok (.iload 5, 2) := by decide +kernel
theorem dX12_hears_50 : decode cX12_hears 50 = .ok (.iload_n 2, 1) := by decide +kernel
theorem dX12_hears_51 : decode cX12_hears 51 = .ok (.invokevirtual 337, 3) := by decide +kernel
theorem dX12_hears_54 : decode cX12_hears 54 = .ok (.iload 4, 2) := by decide +kernel
theorem dX12_hears_56 : decode cX12_hears 56 = .ok (.if_icmp .gt 6, 3) := by decide +kernel
theorem dX12_hears_59 : decode cX12_hears 59 = .ok (.goto 16, 3) := by decide +kernel
theorem dX12_hears_62 : decode cX12_hears 62 = .ok (.iload 5, 2) := by decide +kernel
theorem dX12_hears_64 : decode cX12_hears 64 = .ok (.istore_n 3, 1) := by decide +kernel
theorem dX12_hears_65 : decode cX12_hears 65 = .ok (.aload_n 0, 1) := by decide +kernel
theorem dX12_hears_66 : decode cX12_hears 66 = .ok (.iload_n 1, 1) := by decide +kernel
theorem dX12_hears_67 : decode cX12_hears 67 = .ok (.iload 5, 2) := by decide +kernel
theorem dX12_hears_69 : decode cX12_hears 69 = .ok (.iload_n 2, 1) := by decide +kernel
theorem dX12_hears_70 : decode cX12_hears 70 = .ok (.invokevirtual 337, 3) := by decide +kernel
theorem dX12_hears_73 : decode cX12_hears 73 = .ok (.istore 4, 2) := by decide +kernel
theorem dX12_hears_75 : decode cX12_hears 75 = .ok (.iinc 5 1, 3) := by decide +kernel
theorem dX12_hears_78 : decode cX12_hears 78 = .ok (.goto (-47), 3) := by decide +kernel
theorem dX12_hears_81 : decode cX12_hears 81 = .ok (.iload_n 3, 1) := by decide +kernel
theorem dX12_hears_82 : decode cX12_hears 82 = .ok (.bipush (-2), 2) := by decide +kernel
theorem dX12_hears_84 : decode cX12_hears 84 = .ok (.if_icmp .ne 6, 3) := by decide +kernel
theorem dX12_hears_87 : decode cX12_hears 87 = .ok (.bipush (-2), 2) := by decide +kernel
theorem dX12_hears_89 : decode cX12_hears 89 = .ok (.ireturn, 1) := by decide +kernel
theorem dX12_hears_90 : decode cX12_hears 90 = .ok (.aload_n 0, 1) := by decide +kernel
theorem dX12_hears_91 : decode cX12_hears 91 = .ok (.iconst 0, 1) := by decide +kernel
theorem dX12_hears_92 : decode cX12_hears 92 = .ok (.putfield 104, 3) := by decide +kernel
theorem dX12_hears_95 : decode cX12_hears 95 = .ok (.aload_n 0, 1) := by decide +kernel
theorem dX12_hears_96 : decode cX12_hears 96 = .ok (.iload 4, 2) := by decide +kernel
theorem dX12_hears_98 : decode cX12_hears 98 = .ok (.i2l, 1) := by decide +kernel
theorem dX12_hears_99 : decode cX12_hears 99 = .ok (.invokevirtual 274, 3) := by decide +kernel
theorem dX12_hears_102 : decode cX12_hears 102 = .ok (.iload_n 3, 1) := by decide +kernel
theorem dX12_hears_103 : decode cX12_hears 103 = .ok (.ireturn, 1) := by decide +kernel
def lb_X12_hears_31 (v0 : Nat) (v1 : Int32) (v2 : Int32) (s : Int32 × Int32 × Int32 × aH) : Option ((Int32 × Int32 × Int32 × aH) ⊕ ((Int32 × Int32 × aH))) :=
  (gI s.2.2.2 v0 11 1).bind fun x5 =>
  if s.2.2.1 < x5 then
    if s.2.2.1 = v1 then
      (some (s.2.2.1 + 1)).bind fun x6 =>
      some (.inl (s.1, s.2.1, x6, s.2.2.2))
    else
      (ck s.2.2.2 v0 11).bind fun u7 =>
      (fn_X12_kinds s.2.2.2 v0 v1 s.2.2.1 v2).bind fun o8 =>
      if o8.1 ≤ s.2.1 then
        (some (s.2.2.1 + 1)).bind fun x12 =>
        some (.inl (s.1, s.2.1, x12, o8.2))
      else
        (ck o8.2 v0 11).bind fun u9 =>
        (fn_X12_kinds o8.2 v0 v1 s.2.2.1 v2).bind fun o10 =>
        (some (s.2.2.1 + 1)).bind fun x11 =>
        some (.inl (s.2.2.1, o10.1, x11, o10.2))
  else
    some (.inr (s.1, s.2.1, s.2.2.2))
def hd_X12_hears_31 (Γ : aC) (v0 : Nat) (v1 : Int32) (v2 : Int32) (s : Int32 × Int32 × Int32 × aH) : Prop := Jd Γ (0, 0) 31 [some (.ref v0), some (.int v1), some (.int v2), some (.int s.1), some (.int s.2.1), some (.int s.2.2.1)] [] s.2.2.2
def ex_X12_hears_31 (Γ : aC) (v0 : Nat) (v1 : Int32) (v2 : Int32) (r : (Int32 × Int32 × aH)) : Prop := (fun r => ∀ (j5 : Option Value), Jd Γ (0, 0) 81 [some (.ref v0), some (.int v1), some (.int v2), some (.int r.1), some (.int r.2.1), j5] [] r.2.2) r
set_option maxRecDepth 20000 in
set_option maxHeartbeats 4000000 in
theorem lw_X12_hears_31 {Γ : aC} {d : Nat} (X : Cx Γ RX12 cX12_hears 6 (some .int) (d, 0, 0)) (hd : 249 ≤ d) (v0 : Nat) (v1 : Int32) (v2 : Int32) : ∀ n s o, lp (lb_X12_hears_31 v0 v1 v2) n s = some o → ex_X12_hears_31 Γ v0 v1 v2 o → hd_X12_hears_31 Γ v0 v1 v2 s := by
  have hd1 : 1 ≤ d := by omega
  refine J_lp _ _ _ ?_
  intro s o hf hk
  unfold lb_X12_hears_31 at hf
  refine r_iload (pc := 31) X dX12_hears_31 rfl ?_
  refine r_aload_n (pc := 33) X dX12_hears_33 rfl ?_
  obtain ⟨x5, ex5, hf⟩ := ob hf
  refine r_getI (pc := 34) X dX12_hears_34 fl_X12_107 rfl ex5 ?_
  refine r_icmp_ge (pc := 37) X 81 dX12_hears_37 (by decide) (fun c15 => ?_) (fun c15 => ?_)
  · rw [if_neg c15] at hf
    obtain rfl := Option.some.inj hf
    exact hk _
  · rw [if_pos c15] at hf
    refine r_iload (pc := 40) X dX12_hears_40 rfl ?_
    refine r_iload_n (pc := 42) X dX12_hears_42 rfl ?_
    refine r_icmp_eq (pc := 43) X 75 dX12_hears_43 (by decide) (fun c14 => ?_) (fun c14 => ?_)
    · rw [if_pos c14] at hf
      obtain ⟨x6, ex6, hf⟩ := ob hf
      refine r_iinc2 (pc := 75) X 1 [some (.ref v0), some (.int v1), some (.int v2), some (.int s.1), some (.int s.2.1), some (.int x6)] dX12_hears_75 (by decide) rfl (by decide) ex6 rfl ?_
      refine r_goto (pc := 78) X 31 dX12_hears_78 (by decide) ?_
      obtain rfl := Option.some.inj hf
      exact hk
    · rw [if_neg c14] at hf
      refine r_aload_n (pc := 46) X dX12_hears_46 rfl ?_
      refine r_iload_n (pc := 47) X dX12_hears_47 rfl ?_
      refine r_iload (pc := 48) X dX12_hears_48 rfl ?_
      refine r_iload_n (pc := 50) X dX12_hears_50 rfl ?_
      obtain ⟨u7, eu7, hf⟩ := ob hf
      obtain ⟨o8, eo8, hf⟩ := ob hf
      refine r_callVI (pc := 51) X [.int v1, .int s.2.2.1, .int v2] dX12_hears_51 ml_X12_337 vo_X12_kinds ⟨Nat.le_refl _, Nat.le_refl _⟩ eu7 (ev_X12_kinds (d := d - 1) (by omega) _ _ _ _ _ _ eo8) hd1 rfl (Nat.le_of_ble_eq_true rfl) rfl ?_
      refine r_iload (pc := 54) X dX12_hears_54 rfl ?_
      refine r_icmp_gt (pc := 56) X 62 dX12_hears_56 (by decide) (fun c13 => ?_) (fun c13 => ?_)
      · rw [if_neg c13] at hf
        refine r_iload (pc := 62) X dX12_hears_62 rfl ?_
        refine r_istore_n (pc := 64) X [some (.ref v0), some (.int v1), some (.int v2), some (.int s.2.2.1), some (.int s.2.1), some (.int s.2.2.1)] dX12_hears_64 (by decide) rfl ?_
        refine r_aload_n (pc := 65) X dX12_hears_65 rfl ?_
        refine r_iload_n (pc := 66) X dX12_hears_66 rfl ?_
        refine r_iload (pc := 67) X dX12_hears_67 rfl ?_
        refine r_iload_n (pc := 69) X dX12_hears_69 rfl ?_
        obtain ⟨u9, eu9, hf⟩ := ob hf
        obtain ⟨o10, eo10, hf⟩ := ob hf
        refine r_callVI (pc := 70) X [.int v1, .int s.2.2.1, .int v2] dX12_hears_70 ml_X12_337 vo_X12_kinds ⟨Nat.le_refl _, Nat.le_refl _⟩ eu9 (ev_X12_kinds (d := d - 1) (by omega) _ _ _ _ _ _ eo10) hd1 rfl (Nat.le_of_ble_eq_true rfl) rfl ?_
        refine r_istore (pc := 73) X [some (.ref v0), some (.int v1), some (.int v2), some (.int s.2.2.1), some (.int o10.1), some (.int s.2.2.1)] dX12_hears_73 (by decide) rfl ?_
        obtain ⟨x11, ex11, hf⟩ := ob hf
        refine r_iinc2 (pc := 75) X 1 [some (.ref v0), some (.int v1), some (.int v2), some (.int s.2.2.1), some (.int o10.1), some (.int x11)] dX12_hears_75 (by decide) rfl (by decide) ex11 rfl ?_
        refine r_goto (pc := 78) X 31 dX12_hears_78 (by decide) ?_
        obtain rfl := Option.some.inj hf
        exact hk
      · rw [if_pos c13] at hf
        refine r_goto (pc := 59) X 75 dX12_hears_59 (by decide) ?_
        obtain ⟨x12, ex12, hf⟩ := ob hf
        refine r_iinc2 (pc := 75) X 1 [some (.ref v0), some (.int v1), some (.int v2), some (.int s.1), some (.int s.2.1), some (.int x12)] dX12_hears_75 (by decide) rfl (by decide) ex12 rfl ?_
        refine r_goto (pc := 78) X 31 dX12_hears_78 (by decide) ?_
        obtain rfl := Option.some.inj hf
        exact hk
def fn_X12_hears (h : aH) (p0 : Nat) (p1 : Int32) (p2 : Int32) : Option (Int32 × aH) :=
  (pI h p0 11 11 0).bind fun h1 =>
  (ck h1 p0 11).bind fun u2 =>
  (fn_X12_isBasin h1 p0 p1).bind fun x3 =>
  if x3 = 0 then
    some ((-1), h1)
  else
    (fn_X12_isSoon h1 p2).bind fun x4 =>
    if x4 = 0 then
      some ((-1), h1)
    else
      (lp (lb_X12_hears_31 p0 p1 p2) lpN ((-2), 0, 0, h1)).bind fun o16 =>
      if o16.1 = (-2) then
        some ((-2), o16.2.2)
      else
        (pI o16.2.2 p0 11 10 0).bind fun h18 =>
        (ck h18 p0 11).bind fun u19 =>
        (fn_X12_tell h18 p0 (Int32.toInt64 o16.2.1)).bind fun h20 =>
        some (o16.1, h20)
set_option maxRecDepth 20000 in
set_option maxHeartbeats 4000000 in
theorem ev_X12_hears {l : Launch} {g : aG} {d : Nat} (hd : 249 ≤ d) (h : aH) (p0 : Nat) (p1 : Int32) (p2 : Int32) (o : Int32 × aH) (hf : fn_X12_hears h p0 p1 p2 = some o) : EvM l g d yX12_hears cX12_hears 6 (some .int) [.ref p0, .int p1, .int p2] h (some (.int o.1), o.2) := by
  refine EvM.of mk_X12_hears (Nat.le_of_ble_eq_true rfl) ?_
  intro Γ hl hg hq X
  have hd1 : 1 ≤ d := by omega
  have hk : RqI Γ o := hq
  unfold fn_X12_hears at hf
  show Jd Γ (0, 0) 0 [some (.ref p0), some (.int p1), some (.int p2), none, none, none] [] h
  refine r_aload_n (pc := 0) X dX12_hears_0 rfl ?_
  refine r_iconst (pc := 1) X 0 dX12_hears_1 (by decide) ?_
  obtain ⟨h1, eh1, hf⟩ := ob hf
  refine r_putI (pc := 2) X dX12_hears_2 fp_X12_100 rfl eh1 ?_
  refine r_aload_n (pc := 5) X dX12_hears_5 rfl ?_
  refine r_iload_n (pc := 6) X dX12_hears_6 rfl ?_
  obtain ⟨u2, eu2, hf⟩ := ob hf
  obtain ⟨x3, ex3, hf⟩ := ob hf
  refine r_callVI (pc := 7) X [.int p1] dX12_hears_7 ml_X12_114 vo_X12_isBasin ⟨Nat.le_refl _, Nat.le_refl _⟩ eu2 (ev_X12_isBasin (d := d - 1) (by omega) _ _ _ _ ex3) hd1 rfl (Nat.le_of_ble_eq_true rfl) rfl ?_
  refine r_if_eq (pc := 10) X 20 dX12_hears_10 (by decide) (fun c23 => ?_) (fun c23 => ?_)
  · rw [if_pos c23] at hf
    refine r_iconst (pc := 20) X (-1) dX12_hears_20 (by decide) ?_
    obtain rfl := Option.some.inj hf
    exact r_iret (pc := 21) X dX12_hears_21 hk
  · rw [if_neg c23] at hf
    refine r_iload_n (pc := 13) X dX12_hears_13 rfl ?_
    obtain ⟨x4, ex4, hf⟩ := ob hf
    refine r_callSI (pc := 14) X [.int p2] dX12_hears_14 ml_X12_321 so_X12_isSoon ⟨Nat.le_refl _, Nat.le_refl _⟩ (ev_X12_isSoon (d := d - 1) (by omega) _ _ _ ex4) hd1 rfl (Nat.le_of_ble_eq_true rfl) rfl ?_
    refine r_if_ne (pc := 17) X 22 dX12_hears_17 (by decide) (fun c22 => ?_) (fun c22 => ?_)
    · rw [if_neg c22] at hf
      refine r_bipush (pc := 22) X (-2) dX12_hears_22 (by decide) ?_
      refine r_istore_n (pc := 24) X [some (.ref p0), some (.int p1), some (.int p2), some (.int (-2)), none, none] dX12_hears_24 (by decide) rfl ?_
      refine r_iconst (pc := 25) X 0 dX12_hears_25 (by decide) ?_
      refine r_istore (pc := 26) X [some (.ref p0), some (.int p1), some (.int p2), some (.int (-2)), some (.int 0), none] dX12_hears_26 (by decide) rfl ?_
      refine r_iconst (pc := 28) X 0 dX12_hears_28 (by decide) ?_
      refine r_istore (pc := 29) X [some (.ref p0), some (.int p1), some (.int p2), some (.int (-2)), some (.int 0), some (.int 0)] dX12_hears_29 (by decide) rfl ?_
      obtain ⟨o16, eo16, hf⟩ := ob hf
      refine (lw_X12_hears_31 X hd _ _ _ lpN _ o16 eo16 ?_)
      intro j17
      refine r_iload_n (pc := 81) X dX12_hears_81 rfl ?_
      refine r_bipush (pc := 82) X (-2) dX12_hears_82 (by decide) ?_
      refine r_icmp_ne (pc := 84) X 90 dX12_hears_84 (by decide) (fun c21 => ?_) (fun c21 => ?_)
      · rw [if_neg c21] at hf
        refine r_aload_n (pc := 90) X dX12_hears_90 rfl ?_
        refine r_iconst (pc := 91) X 0 dX12_hears_91 (by decide) ?_
        obtain ⟨h18, eh18, hf⟩ := ob hf
        refine r_putI (pc := 92) X dX12_hears_92 fp_X12_104 rfl eh18 ?_
        refine r_aload_n (pc := 95) X dX12_hears_95 rfl ?_
        refine r_iload (pc := 96) X dX12_hears_96 rfl ?_
        refine r_i2l (pc := 98) X dX12_hears_98 ?_
        obtain ⟨u19, eu19, hf⟩ := ob hf
        obtain ⟨h20, eh20, hf⟩ := ob hf
        refine r_callVV (pc := 99) X [.long (Int32.toInt64 o16.2.1)] dX12_hears_99 ml_X12_274 vo_X12_tell ⟨Nat.le_refl _, Nat.le_refl _⟩ eu19 (ev_X12_tell (d := d - 1) (by omega) _ _ _ _ eh20) hd1 rfl (Nat.le_of_ble_eq_true rfl) rfl ?_
        refine r_iload_n (pc := 102) X dX12_hears_102 rfl ?_
        obtain rfl := Option.some.inj hf
        exact r_iret (pc := 103) X dX12_hears_103 hk
      · rw [if_pos c21] at hf
        refine r_bipush (pc := 87) X (-2) dX12_hears_87 (by decide) ?_
        obtain rfl := Option.some.inj hf
        exact r_iret (pc := 89) X dX12_hears_89 hk
    · rw [if_pos c22] at hf
      refine r_iconst (pc := 20) X (-1) dX12_hears_20 (by decide) ?_
      obtain rfl := Option.some.inj hf
      exact r_iret (pc := 21) X dX12_hears_21 hk

theorem dX12_drought_0 : decode cX12_drought 0 = .ok (.aload_n 0, 1) := by decide +kernel
theorem dX12_drought_1 : decode cX12_drought 1 = .ok (.iconst 0, 1) := by decide +kernel
theorem dX12_drought_2 : decode cX12_drought 2 = .ok (.putfield 100, 3) := by decide +kernel
theorem dX12_drought_5 : decode cX12_drought 5 = .ok (.aload_n 0, 1) := by decide +kernel
theorem dX12_drought_6 : decode cX12_drought 6 = .ok (.iload_n 1, 1) := by decide +kernel
theorem dX12_drought_7 : decode cX12_drought 7 = .ok (.invokevirtual 114, 3) := by decide +kernel
theorem dX12_drought_10 : decode cX12_drought 10 = .ok (.ifCond .eq 18, 3) := by decide +kernel
theorem dX12_drought_13 : decode cX12_drought 13 = .ok (.aload_n 0, 1) := by decide +kernel
theorem dX12_drought_14 : decode cX12_drought 14 = .ok (.iload_n 2, 1) := by decide +kernel
theorem dX12_drought_15 : decode cX12_drought 15 = .ok (.invokevirtual 114, 3) := by decide +kernel
theorem dX12_drought_18 : decode cX12_drought 18 = .ok (.ifCond .eq 10, 3) := by decide +kernel
theorem dX12_drought_21 : decode cX12_drought 21 = .ok (.iload_n 3, 1) := by decide +kernel
theorem dX12_drought_22 : decode cX12_drought 22 = .ok (.invokestatic 321, 3) := by decide +kernel
theorem dX12_drought_25 : decode cX12_drought 25 = .ok (.ifCond .ne 5, 3) := by decide +kernel
theorem dX12_drought_28 : decode cX12_drought 28 = .ok (.iconst (-1), 1) := by decide +kernel
theorem dX12_drought_29 : decode cX12_drought 29 = .ok (.ireturn, 1) := by decide +kernel
theorem dX12_drought_30 : decode cX12_drought 30 = .ok (.bipush (-2), 2) := by decide +kernel
theorem dX12_drought_32 : decode cX12_drought 32 = .ok (.istore 4, 2) := by decide +kernel
theorem dX12_drought_34 : decode cX12_drought 34 = .ok (.iconst 0, 1) := by decide +kernel
theorem dX12_drought_35 : decode cX12_drought 35 = .ok (.istore 5, 2) := by decide +kernel
theorem dX12_drought_37 : decode cX12_drought 37 = .ok (.iconst 0, 1) := by decide +kernel
theorem dX12_drought_38 : decode cX12_drought 38 = .ok (.istore 6, 2) := by decide +kernel
theorem dX12_drought_40 : decode cX12_drought 40 = .ok (.iload 6, 2) := by decide +kernel
theorem dX12_drought_42 : decode cX12_drought 42 = .ok (.bipush 9, 2) := by decide +kernel
theorem dX12_drought_44 : decode cX12_drought 44 = .ok (.if_icmp .gt 52, 3) := by decide +kernel
theorem dX12_drought_47 : decode cX12_drought 47 = .ok (.aload_n 0, 1) := by decide +kernel
theorem dX12_drought_48 : decode cX12_drought 48 = .ok (.iload_n 1, 1) := by decide +kernel
theorem dX12_drought_49 : decode cX12_drought 49 = .ok (.iload 6, 2) := by decide +kernel
theorem dX12_drought_51 : decode cX12_drought 51 = .ok (.iload_n 2, 1) := by decide +kernel
theorem dX12_drought_52 : decode cX12_drought 52 = .ok (.iload_n 3, 1) := by decide +kernel
theorem dX12_drought_53 : decode cX12_drought 53 = .ok (.invokevirtual 328, 3) := by decide +kernel
theorem dX12_drought_56 : decode cX12_drought 56 = .ok (.aload_n 0, 1) := by decide +kernel
theorem dX12_drought_57 : decode cX12_drought 57 = .ok (.getfield 9, 3) := by decide +kernel
theorem dX12_drought_60 : decode cX12_drought 60 = .ok (.bipush 6, 2) := by decide +kernel
theorem dX12_drought_62 : decode cX12_drought 62 = .ok (.iload_n 2, 1) := by decide +kernel
theorem dX12_drought_63 : decode cX12_drought 63 = .ok (.iadd, 1) := by decide +kernel
theorem dX12_drought_64 : decode cX12_drought 64 = .ok (.iaload, 1) := by decide +kernel
theorem dX12_drought_65 : decode cX12_drought 65 = .ok (.if_icmp .ge 6, 3) := by decide +kernel
theorem dX12_drought_68 : decode cX12_drought 68 = .ok (.goto 22, 3) := by decide +kernel
theorem dX12_drought_71 : decode cX12_drought 71 = .ok (.iload 4, 2) := by decide +kernel
theorem dX12_drought_73 : decode cX12_drought 73 = .ok (.bipush (-2), 2) := by decide +kernel
theorem dX12_drought_75 : decode cX12_drought 75 = .ok (.if_icmp .ne 8, 3) := by decide +kernel
theorem dX12_drought_78 : decode cX12_drought 78 = .ok (.iload 6, 2) := by decide +kernel
theorem dX12_drought_80 : decode cX12_drought 80 = .ok (.goto 5, 3) := by decide +kernel
theorem dX12_drought_83 : decode cX12_drought 83 = .ok (.iload 4, 2) := by decide +kernel
theorem dX12_drought_85 : decode cX12_drought 85 = .ok (.istore 4, 2) := by decide +kernel
theorem dX12_drought_87 : decode cX12_drought 87 = .ok (.iinc 5 1, 3) := by decide +kernel
theorem dX12_drought_90 : decode cX12_drought 90 = .ok (.iinc 6 1, 3) := by decide +kernel
theorem dX12_drought_93 : decode cX12_drought 93 = .ok (.goto (-53), 3) := by decide +kernel
theorem dX12_drought_96 : decode cX12_drought 96 = .ok (.iload 4, 2) := by decide +kernel
theorem dX12_drought_98 : decode cX12_drought 98 = .ok (.bipush (-2), 2) := by decide +kernel
theorem dX12_drought_100 : decode cX12_drought 100 = .ok (.if_icmp .ne 6, 3) := by decide +kernel
theorem dX12_drought_103 : decode cX12_drought 103 = .ok (.bipush (-2), 2) := by decide +kernel
theorem dX12_drought_105 : decode cX12_drought 105 = .ok (.ireturn, 1) := by decide +kernel
theorem dX12_drought_106 : decode cX12_drought 106 = .ok (.aload_n 0, 1) := by decide +kernel
theorem dX12_drought_107 : decode cX12_drought 107 = .ok (.iconst 0, 1) := by decide +kernel
theorem dX12_drought_108 : decode cX12_drought 108 = .ok (.putfield 104, 3) := by decide +kernel
theorem dX12_drought_111 : decode cX12_drought 111 = .ok (.aload_n 0, 1) := by decide +kernel
theorem dX12_drought_112 : decode cX12_drought 112 = .ok (.iload 5, 2) := by decide +kernel
theorem dX12_drought_114 : decode cX12_drought 114 = .ok (.i2l, 1) := by decide +kernel
theorem dX12_drought_115 : decode cX12_drought 115 = .ok (.invokevirtual 274, 3) := by decide +kernel
theorem dX12_drought_118 : decode cX12_drought 118 = .ok (.iload 4, 2) := by decide +kernel
theorem dX12_drought_120 : decode cX12_drought 120 = .ok (.ireturn, 1) := by decide +kernel
def lb_X12_drought_40 (v0 : Nat) (v1 : Int32) (v2 : Int32) (v3 : Int32) (s : Int32 × Int32 × Int32 × aH) : Option ((Int32 × Int32 × Int32 × aH) ⊕ ((Int32 × Int32 × aH))) :=
  if s.2.2.1 ≤ 9 then
    (ck s.2.2.2 v0 11).bind fun u7 =>
    (fn_X12_comesOf s.2.2.2 v0 v1 s.2.2.1 v2 v3).bind fun o8 =>
    (gR o8.2 v0 11 0).bind fun a9 =>
    (aI o8.2 a9 14 (6 + v2)).bind fun x10 =>
    if o8.1 < x10 then
      (some (s.2.2.1 + 1)).bind fun x16 =>
      some (.inl (s.1, s.2.1, x16, o8.2))
    else
      if s.1 = (-2) then
        (some (s.2.1 + 1)).bind fun x13 =>
        (some (s.2.2.1 + 1)).bind fun x14 =>
        some (.inl (s.2.2.1, x13, x14, o8.2))
      else
        (some (s.2.1 + 1)).bind fun x11 =>
        (some (s.2.2.1 + 1)).bind fun x12 =>
        some (.inl (s.1, x11, x12, o8.2))
  else
    some (.inr (s.1, s.2.1, s.2.2.2))
def hd_X12_drought_40 (Γ : aC) (v0 : Nat) (v1 : Int32) (v2 : Int32) (v3 : Int32) (s : Int32 × Int32 × Int32 × aH) : Prop := Jd Γ (0, 0) 40 [some (.ref v0), some (.int v1), some (.int v2), some (.int v3), some (.int s.1), some (.int s.2.1), some (.int s.2.2.1)] [] s.2.2.2
def ex_X12_drought_40 (Γ : aC) (v0 : Nat) (v1 : Int32) (v2 : Int32) (v3 : Int32) (r : (Int32 × Int32 × aH)) : Prop := (fun r => ∀ (j6 : Option Value), Jd Γ (0, 0) 96 [some (.ref v0), some (.int v1), some (.int v2), some (.int v3), some (.int r.1), some (.int r.2.1), j6] [] r.2.2) r
set_option maxRecDepth 20000 in
set_option maxHeartbeats 4000000 in
theorem lw_X12_drought_40 {Γ : aC} {d : Nat} (X : Cx Γ RX12 cX12_drought 7 (some .int) (d, 0, 0)) (hd : 248 ≤ d) (v0 : Nat) (v1 : Int32) (v2 : Int32) (v3 : Int32) : ∀ n s o, lp (lb_X12_drought_40 v0 v1 v2 v3) n s = some o → ex_X12_drought_40 Γ v0 v1 v2 v3 o → hd_X12_drought_40 Γ v0 v1 v2 v3 s := by
  have hd1 : 1 ≤ d := by omega
  refine J_lp _ _ _ ?_
  intro s o hf hk
  unfold lb_X12_drought_40 at hf
  refine r_iload (pc := 40) X dX12_drought_40 rfl ?_
  refine r_bipush (pc := 42) X 9 dX12_drought_42 (by decide) ?_
  refine r_icmp_gt (pc := 44) X 96 dX12_drought_44 (by decide) (fun c18 => ?_) (fun c18 => ?_)
  · rw [if_neg c18] at hf
    obtain rfl := Option.some.inj hf
    exact hk _
  · rw [if_pos c18] at hf
    refine r_aload_n (pc := 47) X dX12_drought_47 rfl ?_
    refine r_iload_n (pc := 48) X dX12_drought_48 rfl ?_
    refine r_iload (pc := 49) X dX12_drought_49 rfl ?_
    refine r_iload_n (pc := 51) X dX12_drought_51 rfl ?_
    refine r_iload_n (pc := 52) X dX12_drought_52 rfl ?_
    obtain ⟨u7, eu7, hf⟩ := ob hf
    obtain ⟨o8, eo8, hf⟩ := ob hf
    refine r_callVI (pc := 53) X [.int v1, .int s.2.2.1, .int v2, .int v3] dX12_drought_53 ml_X12_328 vo_X12_comesOf ⟨Nat.le_refl _, Nat.le_refl _⟩ eu7 (ev_X12_comesOf (d := d - 1) (by omega) _ _ _ _ _ _ _ eo8) hd1 rfl (Nat.le_of_ble_eq_true rfl) rfl ?_
    refine r_aload_n (pc := 56) X dX12_drought_56 rfl ?_
    obtain ⟨a9, ea9, hf⟩ := ob hf
    refine r_getR (pc := 57) X dX12_drought_57 fl_X12_9 rfl ea9 ?_
    refine r_bipush (pc := 60) X 6 dX12_drought_60 (by decide) ?_
    refine r_iload_n (pc := 62) X dX12_drought_62 rfl ?_
    refine r_iadd (pc := 63) X dX12_drought_63 ?_
    obtain ⟨x10, ex10, hf⟩ := ob hf
    refine r_iald (pc := 64) X dX12_drought_64 ex10 ?_
    refine r_icmp_ge (pc := 65) X 71 dX12_drought_65 (by decide) (fun c17 => ?_) (fun c17 => ?_)
    · rw [if_neg c17] at hf
      refine r_iload (pc := 71) X dX12_drought_71 rfl ?_
      refine r_bipush (pc := 73) X (-2) dX12_drought_73 (by decide) ?_
      refine r_icmp_ne (pc := 75) X 83 dX12_drought_75 (by decide) (fun c15 => ?_) (fun c15 => ?_)
      · rw [if_neg c15] at hf
        refine r_iload (pc := 83) X dX12_drought_83 rfl ?_
        refine r_istore (pc := 85) X [some (.ref v0), some (.int v1), some (.int v2), some (.int v3), some (.int s.1), some (.int s.2.1), some (.int s.2.2.1)] dX12_drought_85 (by decide) rfl ?_
        obtain ⟨x11, ex11, hf⟩ := ob hf
        refine r_iinc2 (pc := 87) X 1 [some (.ref v0), some (.int v1), some (.int v2), some (.int v3), some (.int s.1), some (.int x11), some (.int s.2.2.1)] dX12_drought_87 (by decide) rfl (by decide) ex11 rfl ?_
        obtain ⟨x12, ex12, hf⟩ := ob hf
        refine r_iinc2 (pc := 90) X 1 [some (.ref v0), some (.int v1), some (.int v2), some (.int v3), some (.int s.1), some (.int x11), some (.int x12)] dX12_drought_90 (by decide) rfl (by decide) ex12 rfl ?_
        refine r_goto (pc := 93) X 40 dX12_drought_93 (by decide) ?_
        obtain rfl := Option.some.inj hf
        exact hk
      · rw [if_pos c15] at hf
        refine r_iload (pc := 78) X dX12_drought_78 rfl ?_
        refine r_goto (pc := 80) X 85 dX12_drought_80 (by decide) ?_
        refine r_istore (pc := 85) X [some (.ref v0), some (.int v1), some (.int v2), some (.int v3), some (.int s.2.2.1), some (.int s.2.1), some (.int s.2.2.1)] dX12_drought_85 (by decide) rfl ?_
        obtain ⟨x13, ex13, hf⟩ := ob hf
        refine r_iinc2 (pc := 87) X 1 [some (.ref v0), some (.int v1), some (.int v2), some (.int v3), some (.int s.2.2.1), some (.int x13), some (.int s.2.2.1)] dX12_drought_87 (by decide) rfl (by decide) ex13 rfl ?_
        obtain ⟨x14, ex14, hf⟩ := ob hf
        refine r_iinc2 (pc := 90) X 1 [some (.ref v0), some (.int v1), some (.int v2), some (.int v3), some (.int s.2.2.1), some (.int x13), some (.int x14)] dX12_drought_90 (by decide) rfl (by decide) ex14 rfl ?_
        refine r_goto (pc := 93) X 40 dX12_drought_93 (by decide) ?_
        obtain rfl := Option.some.inj hf
        exact hk
    · rw [if_pos c17] at hf
      refine r_goto (pc := 68) X 90 dX12_drought_68 (by decide) ?_
      obtain ⟨x16, ex16, hf⟩ := ob hf
      refine r_iinc2 (pc := 90) X 1 [some (.ref v0), some (.int v1), some (.int v2), some (.int v3), some (.int s.1), some (.int s.2.1), some (.int x16)] dX12_drought_90 (by decide) rfl (by decide) ex16 rfl ?_
      refine r_goto (pc := 93) X 40 dX12_drought_93 (by decide) ?_
      obtain rfl := Option.some.inj hf
      exact hk
def fn_X12_drought (h : aH) (p0 : Nat) (p1 : Int32) (p2 : Int32) (p3 : Int32) : Option (Int32 × aH) :=
  (pI h p0 11 11 0).bind fun h1 =>
  (ck h1 p0 11).bind fun u2 =>
  (fn_X12_isBasin h1 p0 p1).bind fun x3 =>
  if x3 = 0 then
    some ((-1), h1)
  else
    (ck h1 p0 11).bind fun u4 =>
    (fn_X12_isBasin h1 p0 p2).bind fun x5 =>
    if x5 = 0 then
      some ((-1), h1)
    else
      (fn_X12_isSoon h1 p3).bind fun x6 =>
      if x6 = 0 then
        some ((-1), h1)
      else
        (lp (lb_X12_drought_40 p0 p1 p2 p3) lpN ((-2), 0, 0, h1)).bind fun o19 =>
        if o19.1 = (-2) then
          some ((-2), o19.2.2)
        else
          (pI o19.2.2 p0 11 10 0).bind fun h21 =>
          (ck h21 p0 11).bind fun u22 =>
          (fn_X12_tell h21 p0 (Int32.toInt64 o19.2.1)).bind fun h23 =>
          some (o19.1, h23)
set_option maxRecDepth 20000 in
set_option maxHeartbeats 4000000 in
theorem ev_X12_drought {l : Launch} {g : aG} {d : Nat} (hd : 248 ≤ d) (h : aH) (p0 : Nat) (p1 : Int32) (p2 : Int32) (p3 : Int32) (o : Int32 × aH) (hf : fn_X12_drought h p0 p1 p2 p3 = some o) : EvM l g d yX12_drought cX12_drought 7 (some .int) [.ref p0, .int p1, .int p2, .int p3] h (some (.int o.1), o.2) := by
  refine EvM.of mk_X12_drought (Nat.le_of_ble_eq_true rfl) ?_
  intro Γ hl hg hq X
  have hd1 : 1 ≤ d := by omega
  have hk : RqI Γ o := hq
  unfold fn_X12_drought at hf
  show Jd Γ (0, 0) 0 [some (.ref p0), some (.int p1), some (.int p2), some (.int p3), none, none, none] [] h
  refine r_aload_n (pc := 0) X dX12_drought_0 rfl ?_
  refine r_iconst (pc := 1) X 0 dX12_drought_1 (by decide) ?_
  obtain ⟨h1, eh1, hf⟩ := ob hf
  refine r_putI (pc := 2) X dX12_drought_2 fp_X12_100 rfl eh1 ?_
  refine r_aload_n (pc := 5) X dX12_drought_5 rfl ?_
  refine r_iload_n (pc := 6) X dX12_drought_6 rfl ?_
  obtain ⟨u2, eu2, hf⟩ := ob hf
  obtain ⟨x3, ex3, hf⟩ := ob hf
  refine r_callVI (pc := 7) X [.int p1] dX12_drought_7 ml_X12_114 vo_X12_isBasin ⟨Nat.le_refl _, Nat.le_refl _⟩ eu2 (ev_X12_isBasin (d := d - 1) (by omega) _ _ _ _ ex3) hd1 rfl (Nat.le_of_ble_eq_true rfl) rfl ?_
  refine r_if_eq (pc := 10) X 28 dX12_drought_10 (by decide) (fun c27 => ?_) (fun c27 => ?_)
  · rw [if_pos c27] at hf
    refine r_iconst (pc := 28) X (-1) dX12_drought_28 (by decide) ?_
    obtain rfl := Option.some.inj hf
    exact r_iret (pc := 29) X dX12_drought_29 hk
  · rw [if_neg c27] at hf
    refine r_aload_n (pc := 13) X dX12_drought_13 rfl ?_
    refine r_iload_n (pc := 14) X dX12_drought_14 rfl ?_
    obtain ⟨u4, eu4, hf⟩ := ob hf
    obtain ⟨x5, ex5, hf⟩ := ob hf
    refine r_callVI (pc := 15) X [.int p2] dX12_drought_15 ml_X12_114 vo_X12_isBasin ⟨Nat.le_refl _, Nat.le_refl _⟩ eu4 (ev_X12_isBasin (d := d - 1) (by omega) _ _ _ _ ex5) hd1 rfl (Nat.le_of_ble_eq_true rfl) rfl ?_
    refine r_if_eq (pc := 18) X 28 dX12_drought_18 (by decide) (fun c26 => ?_) (fun c26 => ?_)
    · rw [if_pos c26] at hf
      refine r_iconst (pc := 28) X (-1) dX12_drought_28 (by decide) ?_
      obtain rfl := Option.some.inj hf
      exact r_iret (pc := 29) X dX12_drought_29 hk
    · rw [if_neg c26] at hf
      refine r_iload_n (pc := 21) X dX12_drought_21 rfl ?_
      obtain ⟨x6, ex6, hf⟩ := ob hf
      refine r_callSI (pc := 22) X [.int p3] dX12_drought_22 ml_X12_321 so_X12_isSoon ⟨Nat.le_refl _, Nat.le_refl _⟩ (ev_X12_isSoon (d := d - 1) (by omega) _ _ _ ex6) hd1 rfl (Nat.le_of_ble_eq_true rfl) rfl ?_
      refine r_if_ne (pc := 25) X 30 dX12_drought_25 (by decide) (fun c25 => ?_) (fun c25 => ?_)
      · rw [if_neg c25] at hf
        refine r_bipush (pc := 30) X (-2) dX12_drought_30 (by decide) ?_
        refine r_istore (pc := 32) X [some (.ref p0), some (.int p1), some (.int p2), some (.int p3), some (.int (-2)), none, none] dX12_drought_32 (by decide) rfl ?_
        refine r_iconst (pc := 34) X 0 dX12_drought_34 (by decide) ?_
        refine r_istore (pc := 35) X [some (.ref p0), some (.int p1), some (.int p2), some (.int p3), some (.int (-2)), some (.int 0), none] dX12_drought_35 (by decide) rfl ?_
        refine r_iconst (pc := 37) X 0 dX12_drought_37 (by decide) ?_
        refine r_istore (pc := 38) X [some (.ref p0), some (.int p1), some (.int p2), some (.int p3), some (.int (-2)), some (.int 0), some (.int 0)] dX12_drought_38 (by decide) rfl ?_
        obtain ⟨o19, eo19, hf⟩ := ob hf
        refine (lw_X12_drought_40 X hd _ _ _ _ lpN _ o19 eo19 ?_)
        intro j20
        refine r_iload (pc := 96) X dX12_drought_96 rfl ?_
        refine r_bipush (pc := 98) X (-2) dX12_drought_98 (by decide) ?_
        refine r_icmp_ne (pc := 100) X 106 dX12_drought_100 (by decide) (fun c24 => ?_) (fun c24 => ?_)
        · rw [if_neg c24] at hf
          refine r_aload_n (pc := 106) X dX12_drought_106 rfl ?_
          refine r_iconst (pc := 107) X 0 dX12_drought_107 (by decide) ?_
          obtain ⟨h21, eh21, hf⟩ := ob hf
          refine r_putI (pc := 108) X dX12_drought_108 fp_X12_104 rfl eh21 ?_
          refine r_aload_n (pc := 111) X dX12_drought_111 rfl ?_
          refine r_iload (pc := 112) X dX12_drought_112 rfl ?_
          refine r_i2l (pc := 114) X dX12_drought_114 ?_
          obtain ⟨u22, eu22, hf⟩ := ob hf
          obtain ⟨h23, eh23, hf⟩ := ob hf
          refine r_callVV (pc := 115) X [.long (Int32.toInt64 o19.2.1)] dX12_drought_115 ml_X12_274 vo_X12_tell ⟨Nat.le_refl _, Nat.le_refl _⟩ eu22 (ev_X12_tell (d := d - 1) (by omega) _ _ _ _ eh23) hd1 rfl (Nat.le_of_ble_eq_true rfl) rfl ?_
          refine r_iload (pc := 118) X dX12_drought_118 rfl ?_
          obtain rfl := Option.some.inj hf
          exact r_iret (pc := 120) X dX12_drought_120 hk
        · rw [if_pos c24] at hf
          refine r_bipush (pc := 103) X (-2) dX12_drought_103 (by decide) ?_
          obtain rfl := Option.some.inj hf
          exact r_iret (pc := 105) X dX12_drought_105 hk
      · rw [if_pos c25] at hf
        refine r_iconst (pc := 28) X (-1) dX12_drought_28 (by decide) ?_
        obtain rfl := Option.some.inj hf
        exact r_iret (pc := 29) X dX12_drought_29 hk

theorem dX12_saw_0 : decode cX12_saw 0 = .ok (.aload_n 0, 1) := by decide +kernel
theorem dX12_saw_1 : decode cX12_saw 1 = .ok (.iconst 0, 1) := by decide +kernel
theorem dX12_saw_2 : decode cX12_saw 2 = .ok (.putfield 100, 3) := by decide +kernel
theorem dX12_saw_5 : decode cX12_saw 5 = .ok (.aload_n 0, 1) := by decide +kernel
theorem dX12_saw_6 : decode cX12_saw 6 = .ok (.iload_n 1, 1) := by decide +kernel
theorem dX12_saw_7 : decode cX12_saw 7 = .ok (.invokevirtual 114, 3) := by decide +kernel
theorem dX12_saw_10 : decode cX12_saw 10 = .ok (.ifCond .eq 32, 3) := by decide +kernel
theorem dX12_saw_13 : decode cX12_saw 13 = .ok (.iload_n 2, 1) := by decide +kernel
theorem dX12_saw_14 : decode cX12_saw 14 = .ok (.iconst 0, 1) := by decide +kernel
theorem dX12_saw_15 : decode cX12_saw 15 = .ok (.bipush 20, 2) := by decide +kernel
theorem dX12_saw_17 : decode cX12_saw 17 = .ok (.invokestatic 110, 3) := by decide +kernel
theorem dX12_saw_20 : decode cX12_saw 20 = .ok (.ifCond .eq 22, 3) := by decide +kernel
theorem dX12_saw_23 : decode cX12_saw 23 = .ok (.iload_n 3, 1) := by decide +kernel
theorem dX12_saw_24 : decode cX12_saw 24 = .ok (.iconst 0, 1) := by decide +kernel
theorem dX12_saw_25 : decode cX12_saw 25 = .ok (.bipush 9, 2) := by decide +kernel
theorem dX12_saw_27 : decode cX12_saw 27 = .ok (.invokestatic 110, 3) := by decide +kernel
theorem dX12_saw_30 : decode cX12_saw 30 = .ok (.ifCond .eq 12, 3) := by decide +kernel
theorem dX12_saw_33 : decode cX12_saw 33 = .ok (.aload_n 0, 1) := by decide +kernel
theorem dX12_saw_34 : decode cX12_saw 34 = .ok (.getfield 341, 3) := by decide +kernel
theorem dX12_saw_37 : decode cX12_saw 37 = .ok (.bipush 10, 2) := by decide +kernel
theorem dX12_saw_39 : decode cX12_saw 39 = .ok (.if_icmp .ne 5, 3) := by decide +kernel
theorem dX12_saw_42 : decode cX12_saw 42 = .ok (.iconst (-1), 1) := by decide +kernel
theorem dX12_saw_43 : decode cX12_saw 43 = .ok (.ireturn, 1) := by decide +kernel
theorem dX12_saw_44 : decode cX12_saw 44 = .ok (.aload_n 0, 1) := by decide +kernel
theorem dX12_saw_45 : decode cX12_saw 45 = .ok (.getfield 66, 3) := by decide +kernel
theorem dX12_saw_48 : decode cX12_saw 48 = .ok (.aload_n 0, 1) := by decide +kernel
theorem dX12_saw_49 : decode cX12_saw 49 = .ok (.getfield 341, 3) := by decide +kernel
theorem dX12_saw_52 : decode cX12_saw 52 = .ok (.iload_n 1, 1) := by decide +kernel
theorem dX12_saw_53 : decode cX12_saw 53 = .ok (.iastore, 1) := by decide +kernel
theorem dX12_saw_54 : decode cX12_saw 54 = .ok (.aload_n 0, 1) := by decide +kernel
theorem dX12_saw_55 : decode cX12_saw 55 = .ok (.getfield 69, 3) := by decide +kernel
theorem dX12_saw_58 : decode cX12_saw 58 = .ok (.aload_n 0, 1) := by decide +kernel
theorem dX12_saw_59 : decode cX12_saw 59 = .ok (.getfield 341, 3) := by decide +kernel
theorem dX12_saw_62 : decode cX12_saw 62 = .ok (.iload_n 2, 1) := by decide +kernel
theorem dX12_saw_63 : decode cX12_saw 63 = .ok (.iastore, 1) := by decide +kernel
theorem dX12_saw_64 : decode cX12_saw 64 = .ok (.aload_n 0, 1) := by decide +kernel
theorem dX12_saw_65 : decode cX12_saw 65 = .ok (.getfield 72, 3) := by decide +kernel
theorem dX12_saw_68 : decode cX12_saw 68 = .ok (.aload_n 0, 1) := by decide +kernel
theorem dX12_saw_69 : decode cX12_saw 69 = .ok (.getfield 341, 3) := by decide +kernel
theorem dX12_saw_72 : decode cX12_saw 72 = .ok (.iload_n 3, 1) := by decide +kernel
theorem dX12_saw_73 : decode cX12_saw 73 = .ok (.iastore, 1) := by decide +kernel
theorem dX12_saw_74 : decode cX12_saw 74 = .ok (.aload_n 0, 1) := by decide +kernel
theorem dX12_saw_75 : decode cX12_saw 75 = .ok (.dup, 1) := by decide +kernel
theorem dX12_saw_76 : decode cX12_saw 76 = .ok (.getfield 341, 3) := by decide +kernel
theorem dX12_saw_79 : decode cX12_saw 79 = .ok (.iconst 1, 1) := by decide +kernel
theorem dX12_saw_80 : decode cX12_saw 80 = .ok (.iadd, 1) := by decide +kernel
theorem dX12_saw_81 : decode cX12_saw 81 = .ok (.putfield 341, 3) := by decide +kernel
theorem dX12_saw_84 : decode cX12_saw 84 = .ok (.aload_n 0, 1) := by decide +kernel
theorem dX12_saw_85 : decode cX12_saw 85 = .ok (.getfield 341, 3) := by decide +kernel
theorem dX12_saw_88 : decode cX12_saw 88 = .ok (.ireturn, 1) := by decide +kernel
def fn_X12_saw (h : aH) (p0 : Nat) (p1 : Int32) (p2 : Int32) (p3 : Int32) : Option (Int32 × aH) :=
  (pI h p0 11 11 0).bind fun h1 =>
  (ck h1 p0 11).bind fun u2 =>
  (fn_X12_isBasin h1 p0 p1).bind fun x3 =>
  if x3 = 0 then
    some ((-1), h1)
  else
    (fn_X12_in h1 p2 0 20).bind fun x4 =>
    if x4 = 0 then
      some ((-1), h1)
    else
      (fn_X12_in h1 p3 0 9).bind fun x5 =>
      if x5 = 0 then
        some ((-1), h1)
      else
        (gI h1 p0 11 37).bind fun x6 =>
        if x6 = 10 then
          some ((-1), h1)
        else
          (gR h1 p0 11 34).bind fun a7 =>
          (gI h1 p0 11 37).bind fun x8 =>
          (wI h1 a7 x8 p1).bind fun h9 =>
          (gR h9 p0 11 35).bind fun a10 =>
          (gI h9 p0 11 37).bind fun x11 =>
          (wI h9 a10 x11 p2).bind fun h12 =>
          (gR h12 p0 11 36).bind fun a13 =>
          (gI h12 p0 11 37).bind fun x14 =>
          (wI h12 a13 x14 p3).bind fun h15 =>
          (gI h15 p0 11 37).bind fun x16 =>
          (pI h15 p0 11 37 (x16 + 1)).bind fun h17 =>
          (gI h17 p0 11 37).bind fun x18 =>
          some (x18, h17)
set_option maxRecDepth 20000 in
set_option maxHeartbeats 4000000 in
theorem ev_X12_saw {l : Launch} {g : aG} {d : Nat} (hd : 2 ≤ d) (h : aH) (p0 : Nat) (p1 : Int32) (p2 : Int32) (p3 : Int32) (o : Int32 × aH) (hf : fn_X12_saw h p0 p1 p2 p3 = some o) : EvM l g d yX12_saw cX12_saw 4 (some .int) [.ref p0, .int p1, .int p2, .int p3] h (some (.int o.1), o.2) := by
  refine EvM.of mk_X12_saw (Nat.le_of_ble_eq_true rfl) ?_
  intro Γ hl hg hq X
  have hd1 : 1 ≤ d := by omega
  have hk : RqI Γ o := hq
  unfold fn_X12_saw at hf
  show Jd Γ (0, 0) 0 [some (.ref p0), some (.int p1), some (.int p2), some (.int p3)] [] h
  refine r_aload_n (pc := 0) X dX12_saw_0 rfl ?_
  refine r_iconst (pc := 1) X 0 dX12_saw_1 (by decide) ?_
  obtain ⟨h1, eh1, hf⟩ := ob hf
  refine r_putI (pc := 2) X dX12_saw_2 fp_X12_100 rfl eh1 ?_
  refine r_aload_n (pc := 5) X dX12_saw_5 rfl ?_
  refine r_iload_n (pc := 6) X dX12_saw_6 rfl ?_
  obtain ⟨u2, eu2, hf⟩ := ob hf
  obtain ⟨x3, ex3, hf⟩ := ob hf
  refine r_callVI (pc := 7) X [.int p1] dX12_saw_7 ml_X12_114 vo_X12_isBasin ⟨Nat.le_refl _, Nat.le_refl _⟩ eu2 (ev_X12_isBasin (d := d - 1) (by omega) _ _ _ _ ex3) hd1 rfl (Nat.le_of_ble_eq_true rfl) rfl ?_
  refine r_if_eq (pc := 10) X 42 dX12_saw_10 (by decide) (fun c22 => ?_) (fun c22 => ?_)
  · rw [if_pos c22] at hf
    refine r_iconst (pc := 42) X (-1) dX12_saw_42 (by decide) ?_
    obtain rfl := Option.some.inj hf
    exact r_iret (pc := 43) X dX12_saw_43 hk
  · rw [if_neg c22] at hf
    refine r_iload_n (pc := 13) X dX12_saw_13 rfl ?_
    refine r_iconst (pc := 14) X 0 dX12_saw_14 (by decide) ?_
    refine r_bipush (pc := 15) X 20 dX12_saw_15 (by decide) ?_
    obtain ⟨x4, ex4, hf⟩ := ob hf
    refine r_callSI (pc := 17) X [.int p2, .int 0, .int 20] dX12_saw_17 ml_X12_110 so_X12_in ⟨Nat.le_refl _, Nat.le_refl _⟩ (ev_X12_in (d := d - 1) (by omega) _ _ _ _ _ ex4) hd1 rfl (Nat.le_of_ble_eq_true rfl) rfl ?_
    refine r_if_eq (pc := 20) X 42 dX12_saw_20 (by decide) (fun c21 => ?_) (fun c21 => ?_)
    · rw [if_pos c21] at hf
      refine r_iconst (pc := 42) X (-1) dX12_saw_42 (by decide) ?_
      obtain rfl := Option.some.inj hf
      exact r_iret (pc := 43) X dX12_saw_43 hk
    · rw [if_neg c21] at hf
      refine r_iload_n (pc := 23) X dX12_saw_23 rfl ?_
      refine r_iconst (pc := 24) X 0 dX12_saw_24 (by decide) ?_
      refine r_bipush (pc := 25) X 9 dX12_saw_25 (by decide) ?_
      obtain ⟨x5, ex5, hf⟩ := ob hf
      refine r_callSI (pc := 27) X [.int p3, .int 0, .int 9] dX12_saw_27 ml_X12_110 so_X12_in ⟨Nat.le_refl _, Nat.le_refl _⟩ (ev_X12_in (d := d - 1) (by omega) _ _ _ _ _ ex5) hd1 rfl (Nat.le_of_ble_eq_true rfl) rfl ?_
      refine r_if_eq (pc := 30) X 42 dX12_saw_30 (by decide) (fun c20 => ?_) (fun c20 => ?_)
      · rw [if_pos c20] at hf
        refine r_iconst (pc := 42) X (-1) dX12_saw_42 (by decide) ?_
        obtain rfl := Option.some.inj hf
        exact r_iret (pc := 43) X dX12_saw_43 hk
      · rw [if_neg c20] at hf
        refine r_aload_n (pc := 33) X dX12_saw_33 rfl ?_
        obtain ⟨x6, ex6, hf⟩ := ob hf
        refine r_getI (pc := 34) X dX12_saw_34 fl_X12_341 rfl ex6 ?_
        refine r_bipush (pc := 37) X 10 dX12_saw_37 (by decide) ?_
        refine r_icmp_ne (pc := 39) X 44 dX12_saw_39 (by decide) (fun c19 => ?_) (fun c19 => ?_)
        · rw [if_neg c19] at hf
          refine r_aload_n (pc := 44) X dX12_saw_44 rfl ?_
          obtain ⟨a7, ea7, hf⟩ := ob hf
          refine r_getR (pc := 45) X dX12_saw_45 fl_X12_66 rfl ea7 ?_
          refine r_aload_n (pc := 48) X dX12_saw_48 rfl ?_
          obtain ⟨x8, ex8, hf⟩ := ob hf
          refine r_getI (pc := 49) X dX12_saw_49 fl_X12_341 rfl ex8 ?_
          refine r_iload_n (pc := 52) X dX12_saw_52 rfl ?_
          obtain ⟨h9, eh9, hf⟩ := ob hf
          refine r_iast (pc := 53) X dX12_saw_53 eh9 ?_
          refine r_aload_n (pc := 54) X dX12_saw_54 rfl ?_
          obtain ⟨a10, ea10, hf⟩ := ob hf
          refine r_getR (pc := 55) X dX12_saw_55 fl_X12_69 rfl ea10 ?_
          refine r_aload_n (pc := 58) X dX12_saw_58 rfl ?_
          obtain ⟨x11, ex11, hf⟩ := ob hf
          refine r_getI (pc := 59) X dX12_saw_59 fl_X12_341 rfl ex11 ?_
          refine r_iload_n (pc := 62) X dX12_saw_62 rfl ?_
          obtain ⟨h12, eh12, hf⟩ := ob hf
          refine r_iast (pc := 63) X dX12_saw_63 eh12 ?_
          refine r_aload_n (pc := 64) X dX12_saw_64 rfl ?_
          obtain ⟨a13, ea13, hf⟩ := ob hf
          refine r_getR (pc := 65) X dX12_saw_65 fl_X12_72 rfl ea13 ?_
          refine r_aload_n (pc := 68) X dX12_saw_68 rfl ?_
          obtain ⟨x14, ex14, hf⟩ := ob hf
          refine r_getI (pc := 69) X dX12_saw_69 fl_X12_341 rfl ex14 ?_
          refine r_iload_n (pc := 72) X dX12_saw_72 rfl ?_
          obtain ⟨h15, eh15, hf⟩ := ob hf
          refine r_iast (pc := 73) X dX12_saw_73 eh15 ?_
          refine r_aload_n (pc := 74) X dX12_saw_74 rfl ?_
          refine r_dup (pc := 75) X dX12_saw_75 rfl ?_
          obtain ⟨x16, ex16, hf⟩ := ob hf
          refine r_getI (pc := 76) X dX12_saw_76 fl_X12_341 rfl ex16 ?_
          refine r_iconst (pc := 79) X 1 dX12_saw_79 (by decide) ?_
          refine r_iadd (pc := 80) X dX12_saw_80 ?_
          obtain ⟨h17, eh17, hf⟩ := ob hf
          refine r_putI (pc := 81) X dX12_saw_81 fp_X12_341 rfl eh17 ?_
          refine r_aload_n (pc := 84) X dX12_saw_84 rfl ?_
          obtain ⟨x18, ex18, hf⟩ := ob hf
          refine r_getI (pc := 85) X dX12_saw_85 fl_X12_341 rfl ex18 ?_
          obtain rfl := Option.some.inj hf
          exact r_iret (pc := 88) X dX12_saw_88 hk
        · rw [if_pos c19] at hf
          refine r_iconst (pc := 42) X (-1) dX12_saw_42 (by decide) ?_
          obtain rfl := Option.some.inj hf
          exact r_iret (pc := 43) X dX12_saw_43 hk

theorem dX12_forget_0 : decode cX12_forget 0 = .ok (.aload_n 0, 1) := by decide +kernel
theorem dX12_forget_1 : decode cX12_forget 1 = .ok (.iconst 0, 1) := by decide +kernel
theorem dX12_forget_2 : decode cX12_forget 2 = .ok (.putfield 100, 3) := by decide +kernel
theorem dX12_forget_5 : decode cX12_forget 5 = .ok (.aload_n 0, 1) := by decide +kernel
theorem dX12_forget_6 : decode cX12_forget 6 = .ok (.getfield 341, 3) := by decide +kernel
theorem dX12_forget_9 : decode cX12_forget 9 = .ok (.istore_n 1, 1) := by decide +kernel
theorem dX12_forget_10 : decode cX12_forget 10 = .ok (.aload_n 0, 1) := by decide +kernel
theorem dX12_forget_11 : decode cX12_forget 11 = .ok (.iconst 0, 1) := by decide +kernel
theorem dX12_forget_12 : decode cX12_forget 12 = .ok (.putfield 341, 3) := by decide +kernel
theorem dX12_forget_15 : decode cX12_forget 15 = .ok (.iload_n 1, 1) := by decide +kernel
theorem dX12_forget_16 : decode cX12_forget 16 = .ok (.ireturn, 1) := by decide +kernel
def fn_X12_forget (h : aH) (p0 : Nat) : Option (Int32 × aH) :=
  (pI h p0 11 11 0).bind fun h1 =>
  (gI h1 p0 11 37).bind fun x2 =>
  (pI h1 p0 11 37 0).bind fun h3 =>
  some (x2, h3)
set_option maxRecDepth 20000 in
set_option maxHeartbeats 4000000 in
theorem ev_X12_forget {l : Launch} {g : aG} {d : Nat} (hd : 0 ≤ d) (h : aH) (p0 : Nat) (o : Int32 × aH) (hf : fn_X12_forget h p0 = some o) : EvM l g d yX12_forget cX12_forget 2 (some .int) [.ref p0] h (some (.int o.1), o.2) := by
  refine EvM.of mk_X12_forget (Nat.le_of_ble_eq_true rfl) ?_
  intro Γ hl hg hq X
  have hd1 : 0 ≤ d := by omega
  have hk : RqI Γ o := hq
  unfold fn_X12_forget at hf
  show Jd Γ (0, 0) 0 [some (.ref p0), none] [] h
  refine r_aload_n (pc := 0) X dX12_forget_0 rfl ?_
  refine r_iconst (pc := 1) X 0 dX12_forget_1 (by decide) ?_
  obtain ⟨h1, eh1, hf⟩ := ob hf
  refine r_putI (pc := 2) X dX12_forget_2 fp_X12_100 rfl eh1 ?_
  refine r_aload_n (pc := 5) X dX12_forget_5 rfl ?_
  obtain ⟨x2, ex2, hf⟩ := ob hf
  refine r_getI (pc := 6) X dX12_forget_6 fl_X12_341 rfl ex2 ?_
  refine r_istore_n (pc := 9) X [some (.ref p0), some (.int x2)] dX12_forget_9 (by decide) rfl ?_
  refine r_aload_n (pc := 10) X dX12_forget_10 rfl ?_
  refine r_iconst (pc := 11) X 0 dX12_forget_11 (by decide) ?_
  obtain ⟨h3, eh3, hf⟩ := ob hf
  refine r_putI (pc := 12) X dX12_forget_12 fp_X12_341 rfl eh3 ?_
  refine r_iload_n (pc := 15) X dX12_forget_15 rfl ?_
  obtain rfl := Option.some.inj hf
  exact r_iret (pc := 16) X dX12_forget_16 hk

theorem dX12_beginStuck_0 : decode cX12_beginStuck 0 = .ok (.aload_n 0, 1) := by decide +kernel
theorem dX12_beginStuck_1 : decode cX12_beginStuck 1 = .ok (.getfield 9, 3) := by decide +kernel
theorem dX12_beginStuck_4 : decode cX12_beginStuck 4 = .ok (.aload_n 0, 1) := by decide +kernel
theorem dX12_beginStuck_5 : decode cX12_beginStuck 5 = .ok (.getfield 48, 3) := by decide +kernel
theorem dX12_beginStuck_8 : decode cX12_beginStuck 8 = .ok (.iconst 0, 1) := by decide +kernel
theorem dX12_beginStuck_9 : decode cX12_beginStuck 9 = .ok (.invokestatic 242, 3) := by decide +kernel
theorem dX12_beginStuck_12 : decode cX12_beginStuck 12 = .ok (.iload_n 1, 1) := by decide +kernel
theorem dX12_beginStuck_13 : decode cX12_beginStuck 13 = .ok (.iconst (-1), 1) := by decide +kernel
theorem dX12_beginStuck_14 : decode cX12_beginStuck 14 = .ok (.if_icmp .eq 16, 3) := by decide +kernel
theorem dX12_beginStuck_17 : decode cX12_beginStuck 17 = .ok (.aload_n 0, 1) := by decide +kernel
theorem dX12_beginStuck_18 : decode cX12_beginStuck 18 = .ok (.getfield 48, 3) := by decide +kernel
theorem dX12_beginStuck_21 : decode cX12_beginStuck 21 = .ok (.bipush 13, 2) := by decide +kernel
theorem dX12_beginStuck_23 : decode cX12_beginStuck 23 = .ok (.dup2, 1) := by decide +kernel
theorem dX12_beginStuck_24 : decode cX12_beginStuck 24 = .ok (.iaload, 1) := by decide +kernel
theorem dX12_beginStuck_25 : decode cX12_beginStuck 25 = .ok (.iconst 1, 1) := by decide +kernel
theorem dX12_beginStuck_26 : decode cX12_beginStuck 26 = .ok (.iload_n 1, 1) := by decide +kernel
theorem dX12_beginStuck_27 : decode cX12_beginStuck 27 = .ok (.ishl, 1) := by decide +kernel
theorem dX12_beginStuck_28 : decode cX12_beginStuck 28 = .ok (.ior, 1) := by decide +kernel
theorem dX12_beginStuck_29 : decode cX12_beginStuck 29 = .ok (.iastore, 1) := by decide +kernel
theorem dX12_beginStuck_30 : decode cX12_beginStuck 30 = .ok (.return_, 1) := by decide +kernel
def fn_X12_beginStuck (h : aH) (p0 : Nat) (p1 : Int32) : Option (aH) :=
  (gR h p0 11 0).bind fun a1 =>
  (gR h p0 11 26).bind fun a2 =>
  (fn_X12_lay h a1 a2 0).bind fun h3 =>
  if p1 = (-1) then
    some h3
  else
    (gR h3 p0 11 26).bind fun a4 =>
    (aI h3 a4 14 13).bind fun x5 =>
    (wI h3 a4 13 (x5 ||| (1 <<< (p1 &&& 31)))).bind fun h6 =>
    some h6
set_option maxRecDepth 20000 in
set_option maxHeartbeats 4000000 in
theorem ev_X12_beginStuck {l : Launch} {g : aG} {d : Nat} (hd : 1 ≤ d) (h : aH) (p0 : Nat) (p1 : Int32) (o : aH) (hf : fn_X12_beginStuck h p0 p1 = some o) : EvM l g d yX12_beginStuck cX12_beginStuck 2 none [.ref p0, .int p1] h (none, o) := by
  refine EvM.of mk_X12_beginStuck (Nat.le_of_ble_eq_true rfl) ?_
  intro Γ hl hg hq X
  have hd1 : 1 ≤ d := by omega
  have hk : RqV Γ o := hq
  unfold fn_X12_beginStuck at hf
  show Jd Γ (0, 0) 0 [some (.ref p0), some (.int p1)] [] h
  refine r_aload_n (pc := 0) X dX12_beginStuck_0 rfl ?_
  obtain ⟨a1, ea1, hf⟩ := ob hf
  refine r_getR (pc := 1) X dX12_beginStuck_1 fl_X12_9 rfl ea1 ?_
  refine r_aload_n (pc := 4) X dX12_beginStuck_4 rfl ?_
  obtain ⟨a2, ea2, hf⟩ := ob hf
  refine r_getR (pc := 5) X dX12_beginStuck_5 fl_X12_48 rfl ea2 ?_
  refine r_iconst (pc := 8) X 0 dX12_beginStuck_8 (by decide) ?_
  obtain ⟨h3, eh3, hf⟩ := ob hf
  refine r_callSV (pc := 9) X [.ref a1, .ref a2, .int 0] dX12_beginStuck_9 ml_X12_242 so_X12_lay ⟨Nat.le_refl _, Nat.le_refl _⟩ (ev_X12_lay (d := d - 1) (by omega) _ _ _ _ _ eh3) hd1 rfl (Nat.le_of_ble_eq_true rfl) rfl ?_
  refine r_iload_n (pc := 12) X dX12_beginStuck_12 rfl ?_
  refine r_iconst (pc := 13) X (-1) dX12_beginStuck_13 (by decide) ?_
  refine r_icmp_eq (pc := 14) X 30 dX12_beginStuck_14 (by decide) (fun c7 => ?_) (fun c7 => ?_)
  · rw [if_pos c7] at hf
    obtain rfl := Option.some.inj hf
    exact r_vret (pc := 30) X dX12_beginStuck_30 hk
  · rw [if_neg c7] at hf
    refine r_aload_n (pc := 17) X dX12_beginStuck_17 rfl ?_
    obtain ⟨a4, ea4, hf⟩ := ob hf
    refine r_getR (pc := 18) X dX12_beginStuck_18 fl_X12_48 rfl ea4 ?_
    refine r_bipush (pc := 21) X 13 dX12_beginStuck_21 (by decide) ?_
    refine r_dup2 (pc := 23) X dX12_beginStuck_23 rfl rfl ?_
    obtain ⟨x5, ex5, hf⟩ := ob hf
    refine r_iald (pc := 24) X dX12_beginStuck_24 ex5 ?_
    refine r_iconst (pc := 25) X 1 dX12_beginStuck_25 (by decide) ?_
    refine r_iload_n (pc := 26) X dX12_beginStuck_26 rfl ?_
    refine r_ishl (pc := 27) X dX12_beginStuck_27 ?_
    refine r_ior (pc := 28) X dX12_beginStuck_28 ?_
    obtain ⟨h6, eh6, hf⟩ := ob hf
    refine r_iast (pc := 29) X dX12_beginStuck_29 eh6 ?_
    obtain rfl := Option.some.inj hf
    exact r_vret (pc := 30) X dX12_beginStuck_30 hk

theorem dX12_isSeen_0 : decode cX12_isSeen 0 = .ok (.aload_n 0, 1) := by decide +kernel
theorem dX12_isSeen_1 : decode cX12_isSeen 1 = .ok (.iload_n 1, 1) := by decide +kernel
theorem dX12_isSeen_2 : decode cX12_isSeen 2 = .ok (.invokevirtual 344, 3) := by decide +kernel
theorem dX12_isSeen_5 : decode cX12_isSeen 5 = .ok (.iconst 1, 1) := by decide +kernel
theorem dX12_isSeen_6 : decode cX12_isSeen 6 = .ok (.istore_n 2, 1) := by decide +kernel
theorem dX12_isSeen_7 : decode cX12_isSeen 7 = .ok (.iconst 0, 1) := by decide +kernel
theorem dX12_isSeen_8 : decode cX12_isSeen 8 = .ok (.istore_n 3, 1) := by decide +kernel
theorem dX12_isSeen_9 : decode cX12_isSeen 9 = .ok (.iload_n 3, 1) := by decide +kernel
theorem dX12_isSeen_10 : decode cX12_isSeen 10 = .ok (.bipush 20, 2) := by decide +kernel
theorem dX12_isSeen_12 : decode cX12_isSeen 12 = .ok (.if_icmp .gt 78, 3) := by decide +kernel
theorem dX12_isSeen_15 : decode cX12_isSeen 15 = .ok (.iconst 0, 1) := by decide +kernel
theorem dX12_isSeen_16 : decode cX12_isSeen 16 = .ok (.istore 4, 2) := by decide +kernel
theorem dX12_isSeen_18 : decode cX12_isSeen 18 = .ok (.iload 4, 2) := by decide +kernel
theorem dX12_isSeen_20 : decode cX12_isSeen 20 = .ok (.aload_n 0, 1) := by decide +kernel
theorem dX12_isSeen_21 : decode cX12_isSeen 21 = .ok (.getfield 341, 3) := by decide +kernel
theorem dX12_isSeen_24 : decode cX12_isSeen 24 = .ok (.if_icmp .ge 52, 3) := by decide +kernel
theorem dX12_isSeen_27 : decode cX12_isSeen 27 = .ok (.iload_n 2, 1) := by decide +kernel
theorem dX12_isSeen_28 : decode cX12_isSeen 28 = .ok (.ifCond .eq 40, 3) := by decide +kernel
theorem dX12_isSeen_31 : decode cX12_isSeen 31 = .ok (.aload_n 0, 1) := by decide +kernel
theorem dX12_isSeen_32 : decode cX12_isSeen 32 = .ok (.getfield 69, 3) := by decide +kernel
theorem dX12_isSeen_35 : decode cX12_isSeen 35 = .ok (.iload 4, 2) := by decide +kernel
theorem dX12_isSeen_37 : decode cX12_isSeen 37 = .ok (.iaload, 1) := by decide +kernel
theorem dX12_isSeen_38 : decode cX12_isSeen 38 = .ok (.iload_n 3, 1) := by decide +kernel
theorem dX12_isSeen_39 : decode cX12_isSeen 39 = .ok (.if_icmp .ne 25, 3) := by decide +kernel
theorem dX12_isSeen_42 : decode cX12_isSeen 42 = .ok (.aload_n 0, 1) := by decide +kernel
theorem dX12_isSeen_43 : decode cX12_isSeen 43 = .ok (.getfield 48, 3) := by decide +kernel
theorem dX12_isSeen_46 : decode cX12_isSeen 46 = .ok (.aload_n 0, 1) := by decide +kernel
theorem dX12_isSeen_47 : decode cX12_isSeen 47 = .ok (.getfield 66, 3) := by decide +kernel
theorem dX12_isSeen_50 : decode cX12_isSeen 50 = .ok (.iload 4, 2) := by decide +kernel
theorem dX12_isSeen_52 : decode cX12_isSeen 52 = .ok (.iaload, 1) := by decide +kernel
theorem dX12_isSeen_53 : decode cX12_isSeen 53 = .ok (.iaload, 1) := by decide +kernel
theorem dX12_isSeen_54 : decode cX12_isSeen 54 = .ok (.aload_n 0, 1) := by decide +kernel
theorem dX12_isSeen_55 : decode cX12_isSeen 55 = .ok (.getfield 72, 3) := by decide +kernel
theorem dX12_isSeen_58 : decode cX12_isSeen 58 = .ok (.iload 4, 2) := by decide +kernel
theorem dX12_isSeen_60 : decode cX12_isSeen 60 = .ok (.iaload, 1) := by decide +kernel
theorem dX12_isSeen_61 : decode cX12_isSeen 61 = .ok (.if_icmp .ne 7, 3) := by decide +kernel
theorem dX12_isSeen_64 : decode cX12_isSeen 64 = .ok (.iconst 1, 1) := by decide +kernel
theorem dX12_isSeen_65 : decode cX12_isSeen 65 = .ok (.goto 4, 3) := by decide +kernel
theorem dX12_isSeen_68 : decode cX12_isSeen 68 = .ok (.iconst 0, 1) := by decide +kernel
theorem dX12_isSeen_69 : decode cX12_isSeen 69 = .ok (.istore_n 2, 1) := by decide +kernel
theorem dX12_isSeen_70 : decode cX12_isSeen 70 = .ok (.iinc 4 1, 3) := by decide +kernel
theorem dX12_isSeen_73 : decode cX12_isSeen 73 = .ok (.goto (-55), 3) := by decide +kernel
theorem dX12_isSeen_76 : decode cX12_isSeen 76 = .ok (.aload_n 0, 1) := by decide +kernel
theorem dX12_isSeen_77 : decode cX12_isSeen 77 = .ok (.aload_n 0, 1) := by decide +kernel
theorem dX12_isSeen_78 : decode cX12_isSeen 78 = .ok (.getfield 48, 3) := by decide +kernel
theorem dX12_isSeen_81 : decode cX12_isSeen 81 = .ok (.invokevirtual 260, 3) := by decide +kernel
theorem dX12_isSeen_84 : decode cX12_isSeen 84 = .ok (.iinc 3 1, 3) := by decide +kernel
theorem dX12_isSeen_87 : decode cX12_isSeen 87 = .ok (.goto (-78), 3) := by decide +kernel
theorem dX12_isSeen_90 : decode cX12_isSeen 90 = .ok (.iload_n 2, 1) := by decide +kernel
theorem dX12_isSeen_91 : decode cX12_isSeen 91 = .ok (.ireturn, 1) := by decide +kernel
def lb_X12_isSeen_18 (hh : aH) (v0 : Nat) (v3 : Int32) (s : Int32 × Int32) : Option ((Int32 × Int32) ⊕ ((Int32))) :=
  (gI hh v0 11 37).bind fun x4 =>
  if s.2 < x4 then
    if s.1 = 0 then
      (some (s.2 + 1)).bind fun x5 =>
      some (.inl (0, x5))
    else
      (gR hh v0 11 35).bind fun a6 =>
      (aI hh a6 14 s.2).bind fun x7 =>
      if x7 = v3 then
        (gR hh v0 11 26).bind fun a9 =>
        (gR hh v0 11 34).bind fun a10 =>
        (aI hh a10 14 s.2).bind fun x11 =>
        (aI hh a9 14 x11).bind fun x12 =>
        (gR hh v0 11 36).bind fun a13 =>
        (aI hh a13 14 s.2).bind fun x14 =>
        if x12 = x14 then
          (some (s.2 + 1)).bind fun x16 =>
          some (.inl (1, x16))
        else
          (some (s.2 + 1)).bind fun x15 =>
          some (.inl (0, x15))
      else
        (some (s.2 + 1)).bind fun x8 =>
        some (.inl (1, x8))
  else
    some (.inr s.1)
def hd_X12_isSeen_18 (Γ : aC) (hh : aH) (v0 : Nat) (v3 : Int32) (s : Int32 × Int32) : Prop := ∀ (j1 : Option Value), Jd Γ (0, 0) 18 [some (.ref v0), j1, some (.int s.1), some (.int v3), some (.int s.2)] [] hh
def ex_X12_isSeen_18 (Γ : aC) (hh : aH) (v0 : Nat) (v3 : Int32) (r : (Int32)) : Prop := (fun r => ∀ (j1 : Option Value) (j4 : Option Value), Jd Γ (0, 0) 76 [some (.ref v0), j1, some (.int r), some (.int v3), j4] [] hh) r
set_option maxRecDepth 20000 in
set_option maxHeartbeats 4000000 in
theorem lw_X12_isSeen_18 {Γ : aC} {d : Nat} (X : Cx Γ RX12 cX12_isSeen 5 (some .boolean) (d, 0, 0)) (hd : 246 ≤ d) (hh : aH) (v0 : Nat) (v3 : Int32) : ∀ n s o, lp (lb_X12_isSeen_18 hh v0 v3) n s = some o → ex_X12_isSeen_18 Γ hh v0 v3 o → hd_X12_isSeen_18 Γ hh v0 v3 s := by
  have hd1 : 1 ≤ d := by omega
  refine J_lp _ _ _ ?_
  intro s o hf hk j1
  unfold lb_X12_isSeen_18 at hf
  refine r_iload (pc := 18) X dX12_isSeen_18 rfl ?_
  refine r_aload_n (pc := 20) X dX12_isSeen_20 rfl ?_
  obtain ⟨x4, ex4, hf⟩ := ob hf
  refine r_getI (pc := 21) X dX12_isSeen_21 fl_X12_341 rfl ex4 ?_
  refine r_icmp_ge (pc := 24) X 76 dX12_isSeen_24 (by decide) (fun c20 => ?_) (fun c20 => ?_)
  · rw [if_neg c20] at hf
    obtain rfl := Option.some.inj hf
    exact hk _ _
  · rw [if_pos c20] at hf
    refine r_iload_n (pc := 27) X dX12_isSeen_27 rfl ?_
    refine r_if_eq (pc := 28) X 68 dX12_isSeen_28 (by decide) (fun c19 => ?_) (fun c19 => ?_)
    · rw [if_pos c19] at hf
      refine r_iconst (pc := 68) X 0 dX12_isSeen_68 (by decide) ?_
      refine r_fg 1 [some (.ref v0), none, some (.int s.1), some (.int v3), some (.int s.2)] rfl ?_
      refine r_istore_n (pc := 69) X [some (.ref v0), none, some (.int 0), some (.int v3), some (.int s.2)] dX12_isSeen_69 (by decide) rfl ?_
      obtain ⟨x5, ex5, hf⟩ := ob hf
      refine r_iinc2 (pc := 70) X 1 [some (.ref v0), none, some (.int 0), some (.int v3), some (.int x5)] dX12_isSeen_70 (by decide) rfl (by decide) ex5 rfl ?_
      refine r_goto (pc := 73) X 18 dX12_isSeen_73 (by decide) ?_
      obtain rfl := Option.some.inj hf
      exact hk _
    · rw [if_neg c19] at hf
      refine r_aload_n (pc := 31) X dX12_isSeen_31 rfl ?_
      obtain ⟨a6, ea6, hf⟩ := ob hf
      refine r_getR (pc := 32) X dX12_isSeen_32 fl_X12_69 rfl ea6 ?_
      refine r_iload (pc := 35) X dX12_isSeen_35 rfl ?_
      obtain ⟨x7, ex7, hf⟩ := ob hf
      refine r_iald (pc := 37) X dX12_isSeen_37 ex7 ?_
      refine r_iload_n (pc := 38) X dX12_isSeen_38 rfl ?_
      refine r_icmp_ne (pc := 39) X 64 dX12_isSeen_39 (by decide) (fun c18 => ?_) (fun c18 => ?_)
      · rw [if_neg c18] at hf
        refine r_iconst (pc := 64) X 1 dX12_isSeen_64 (by decide) ?_
        refine r_goto (pc := 65) X 69 dX12_isSeen_65 (by decide) ?_
        refine r_fg 1 [some (.ref v0), none, some (.int s.1), some (.int v3), some (.int s.2)] rfl ?_
        refine r_istore_n (pc := 69) X [some (.ref v0), none, some (.int 1), some (.int v3), some (.int s.2)] dX12_isSeen_69 (by decide) rfl ?_
        obtain ⟨x8, ex8, hf⟩ := ob hf
        refine r_iinc2 (pc := 70) X 1 [some (.ref v0), none, some (.int 1), some (.int v3), some (.int x8)] dX12_isSeen_70 (by decide) rfl (by decide) ex8 rfl ?_
        refine r_goto (pc := 73) X 18 dX12_isSeen_73 (by decide) ?_
        obtain rfl := Option.some.inj hf
        exact hk _
      · rw [if_pos c18] at hf
        refine r_aload_n (pc := 42) X dX12_isSeen_42 rfl ?_
        obtain ⟨a9, ea9, hf⟩ := ob hf
        refine r_getR (pc := 43) X dX12_isSeen_43 fl_X12_48 rfl ea9 ?_
        refine r_aload_n (pc := 46) X dX12_isSeen_46 rfl ?_
        obtain ⟨a10, ea10, hf⟩ := ob hf
        refine r_getR (pc := 47) X dX12_isSeen_47 fl_X12_66 rfl ea10 ?_
        refine r_iload (pc := 50) X dX12_isSeen_50 rfl ?_
        obtain ⟨x11, ex11, hf⟩ := ob hf
        refine r_iald (pc := 52) X dX12_isSeen_52 ex11 ?_
        obtain ⟨x12, ex12, hf⟩ := ob hf
        refine r_iald (pc := 53) X dX12_isSeen_53 ex12 ?_
        refine r_aload_n (pc := 54) X dX12_isSeen_54 rfl ?_
        obtain ⟨a13, ea13, hf⟩ := ob hf
        refine r_getR (pc := 55) X dX12_isSeen_55 fl_X12_72 rfl ea13 ?_
        refine r_iload (pc := 58) X dX12_isSeen_58 rfl ?_
        obtain ⟨x14, ex14, hf⟩ := ob hf
        refine r_iald (pc := 60) X dX12_isSeen_60 ex14 ?_
        refine r_icmp_ne (pc := 61) X 68 dX12_isSeen_61 (by decide) (fun c17 => ?_) (fun c17 => ?_)
        · rw [if_neg c17] at hf
          refine r_iconst (pc := 68) X 0 dX12_isSeen_68 (by decide) ?_
          refine r_fg 1 [some (.ref v0), none, some (.int s.1), some (.int v3), some (.int s.2)] rfl ?_
          refine r_istore_n (pc := 69) X [some (.ref v0), none, some (.int 0), some (.int v3), some (.int s.2)] dX12_isSeen_69 (by decide) rfl ?_
          obtain ⟨x15, ex15, hf⟩ := ob hf
          refine r_iinc2 (pc := 70) X 1 [some (.ref v0), none, some (.int 0), some (.int v3), some (.int x15)] dX12_isSeen_70 (by decide) rfl (by decide) ex15 rfl ?_
          refine r_goto (pc := 73) X 18 dX12_isSeen_73 (by decide) ?_
          obtain rfl := Option.some.inj hf
          exact hk _
        · rw [if_pos c17] at hf
          refine r_iconst (pc := 64) X 1 dX12_isSeen_64 (by decide) ?_
          refine r_goto (pc := 65) X 69 dX12_isSeen_65 (by decide) ?_
          refine r_fg 1 [some (.ref v0), none, some (.int s.1), some (.int v3), some (.int s.2)] rfl ?_
          refine r_istore_n (pc := 69) X [some (.ref v0), none, some (.int 1), some (.int v3), some (.int s.2)] dX12_isSeen_69 (by decide) rfl ?_
          obtain ⟨x16, ex16, hf⟩ := ob hf
          refine r_iinc2 (pc := 70) X 1 [some (.ref v0), none, some (.int 1), some (.int v3), some (.int x16)] dX12_isSeen_70 (by decide) rfl (by decide) ex16 rfl ?_
          refine r_goto (pc := 73) X 18 dX12_isSeen_73 (by decide) ?_
          obtain rfl := Option.some.inj hf
          exact hk _
def lb_X12_isSeen_9 (v0 : Nat) (s : Int32 × Int32 × aH) : Option ((Int32 × Int32 × aH) ⊕ ((Int32 × aH))) :=
  if s.2.1 ≤ 20 then
    (lp (lb_X12_isSeen_18 s.2.2 v0 s.2.1) lpN (s.1, 0)).bind fun o21 =>
    (gR s.2.2 v0 11 26).bind fun a24 =>
    (ck s.2.2 v0 11).bind fun u25 =>
    (fn_X12_goHour s.2.2 v0 a24).bind fun h26 =>
    (some (s.2.1 + 1)).bind fun x27 =>
    some (.inl (o21, x27, h26))
  else
    (bz s.1).bind fun x3 =>
    some (.inr (x3, s.2.2))
def hd_X12_isSeen_9 (Γ : aC) (v0 : Nat) (s : Int32 × Int32 × aH) : Prop := ∀ (j1 : Option Value) (j4 : Option Value), Jd Γ (0, 0) 9 [some (.ref v0), j1, some (.int s.1), some (.int s.2.1), j4] [] s.2.2
def ex_X12_isSeen_9 (Γ : aC) (v0 : Nat) (r : (Int32 × aH)) : Prop := (fun r => RqI Γ r) r
set_option maxRecDepth 20000 in
set_option maxHeartbeats 4000000 in
theorem lw_X12_isSeen_9 {Γ : aC} {d : Nat} (X : Cx Γ RX12 cX12_isSeen 5 (some .boolean) (d, 0, 0)) (hd : 246 ≤ d) (v0 : Nat) : ∀ n s o, lp (lb_X12_isSeen_9 v0) n s = some o → ex_X12_isSeen_9 Γ v0 o → hd_X12_isSeen_9 Γ v0 s := by
  have hd1 : 1 ≤ d := by omega
  refine J_lp _ _ _ ?_
  intro s o hf hk j1 j4
  unfold lb_X12_isSeen_9 at hf
  refine r_iload_n (pc := 9) X dX12_isSeen_9 rfl ?_
  refine r_bipush (pc := 10) X 20 dX12_isSeen_10 (by decide) ?_
  refine r_icmp_gt (pc := 12) X 90 dX12_isSeen_12 (by decide) (fun c28 => ?_) (fun c28 => ?_)
  · rw [if_neg c28] at hf
    refine r_iload_n (pc := 90) X dX12_isSeen_90 rfl ?_
    obtain ⟨x3, ex3, hf⟩ := ob hf
    obtain rfl := Option.some.inj hf
    exact r_zretB (pc := 91) X dX12_isSeen_91 ex3 hk
  · rw [if_pos c28] at hf
    refine r_iconst (pc := 15) X 0 dX12_isSeen_15 (by decide) ?_
    refine r_istore (pc := 16) X [some (.ref v0), j1, some (.int s.1), some (.int s.2.1), some (.int 0)] dX12_isSeen_16 (by decide) rfl ?_
    obtain ⟨o21, eo21, hf⟩ := ob hf
    refine (lw_X12_isSeen_18 X hd _ _ _ lpN _ o21 eo21 ?_) _
    intro j22 j23
    refine r_aload_n (pc := 76) X dX12_isSeen_76 rfl ?_
    refine r_aload_n (pc := 77) X dX12_isSeen_77 rfl ?_
    obtain ⟨a24, ea24, hf⟩ := ob hf
    refine r_getR (pc := 78) X dX12_isSeen_78 fl_X12_48 rfl ea24 ?_
    obtain ⟨u25, eu25, hf⟩ := ob hf
    obtain ⟨h26, eh26, hf⟩ := ob hf
    refine r_callVV (pc := 81) X [.ref a24] dX12_isSeen_81 ml_X12_260 vo_X12_goHour ⟨Nat.le_refl _, Nat.le_refl _⟩ eu25 (ev_X12_goHour (d := d - 1) (by omega) _ _ _ _ eh26) hd1 rfl (Nat.le_of_ble_eq_true rfl) rfl ?_
    obtain ⟨x27, ex27, hf⟩ := ob hf
    refine r_iinc2 (pc := 84) X 1 [some (.ref v0), j22, some (.int o21), some (.int x27), j23] dX12_isSeen_84 (by decide) rfl (by decide) ex27 rfl ?_
    refine r_goto (pc := 87) X 9 dX12_isSeen_87 (by decide) ?_
    obtain rfl := Option.some.inj hf
    exact hk _ _
def fn_X12_isSeen (h : aH) (p0 : Nat) (p1 : Int32) : Option (Int32 × aH) :=
  (ck h p0 11).bind fun u1 =>
  (fn_X12_beginStuck h p0 p1).bind fun h2 =>
  (lp (lb_X12_isSeen_9 p0) lpN (1, 0, h2)).bind fun o29 =>
  some o29
set_option maxRecDepth 20000 in
set_option maxHeartbeats 4000000 in
theorem ev_X12_isSeen {l : Launch} {g : aG} {d : Nat} (hd : 246 ≤ d) (h : aH) (p0 : Nat) (p1 : Int32) (o : Int32 × aH) (hf : fn_X12_isSeen h p0 p1 = some o) : EvM l g d yX12_isSeen cX12_isSeen 5 (some .boolean) [.ref p0, .int p1] h (some (.int o.1), o.2) := by
  refine EvM.of mk_X12_isSeen (Nat.le_of_ble_eq_true rfl) ?_
  intro Γ hl hg hq X
  have hd1 : 1 ≤ d := by omega
  have hk : RqI Γ o := hq
  unfold fn_X12_isSeen at hf
  show Jd Γ (0, 0) 0 [some (.ref p0), some (.int p1), none, none, none] [] h
  refine r_aload_n (pc := 0) X dX12_isSeen_0 rfl ?_
  refine r_iload_n (pc := 1) X dX12_isSeen_1 rfl ?_
  obtain ⟨u1, eu1, hf⟩ := ob hf
  obtain ⟨h2, eh2, hf⟩ := ob hf
  refine r_callVV (pc := 2) X [.int p1] dX12_isSeen_2 ml_X12_344 vo_X12_beginStuck ⟨Nat.le_refl _, Nat.le_refl _⟩ eu1 (ev_X12_beginStuck (d := d - 1) (by omega) _ _ _ _ eh2) hd1 rfl (Nat.le_of_ble_eq_true rfl) rfl ?_
  refine r_iconst (pc := 5) X 1 dX12_isSeen_5 (by decide) ?_
  refine r_istore_n (pc := 6) X [some (.ref p0), some (.int p1), some (.int 1), none, none] dX12_isSeen_6 (by decide) rfl ?_
  refine r_iconst (pc := 7) X 0 dX12_isSeen_7 (by decide) ?_
  refine r_istore_n (pc := 8) X [some (.ref p0), some (.int p1), some (.int 1), some (.int 0), none] dX12_isSeen_8 (by decide) rfl ?_
  obtain ⟨o29, eo29, hf⟩ := ob hf
  refine (lw_X12_isSeen_9 X hd _ lpN _ o29 eo29 ?_) _ _
  obtain rfl := Option.some.inj hf
  exact hk

theorem dX12_fitting_0 : decode cX12_fitting 0 = .ok (.iconst 0, 1) := by decide +kernel
theorem dX12_fitting_1 : decode cX12_fitting 1 = .ok (.istore_n 1, 1) := by decide +kernel
theorem dX12_fitting_2 : decode cX12_fitting 2 = .ok (.iconst 0, 1) := by decide +kernel
theorem dX12_fitting_3 : decode cX12_fitting 3 = .ok (.istore_n 2, 1) := by decide +kernel
theorem dX12_fitting_4 : decode cX12_fitting 4 = .ok (.iload_n 2, 1) := by decide +kernel
theorem dX12_fitting_5 : decode cX12_fitting 5 = .ok (.aload_n 0, 1) := by decide +kernel
theorem dX12_fitting_6 : decode cX12_fitting 6 = .ok (.getfield 118, 3) := by decide +kernel
theorem dX12_fitting_9 : decode cX12_fitting 9 = .ok (.if_icmp .ge 41, 3) := by decide +kernel
theorem dX12_fitting_12 : decode cX12_fitting 12 = .ok (.iload_n 1, 1) := by decide +kernel
theorem dX12_fitting_13 : decode cX12_fitting 13 = .ok (.aload_n 0, 1) := by decide +kernel
theorem dX12_fitting_14 : decode cX12_fitting 14 = .ok (.getfield 9, 3) := by decide +kernel
theorem dX12_fitting_17 : decode cX12_fitting 17 = .ok (.bipush 13, 2) := by decide +kernel
theorem dX12_fitting_19 : decode cX12_fitting 19 = .ok (.iaload, 1) := by decide +kernel
theorem dX12_fitting_20 : decode cX12_fitting 20 = .ok (.iload_n 2, 1) := by decide +kernel
theorem dX12_fitting_21 : decode cX12_fitting 21 = .ok (.invokestatic 252, 3) := by decide +kernel
theorem dX12_fitting_24 : decode cX12_fitting 24 = .ok (.ifCond .ne 17, 3) := by decide +kernel
theorem dX12_fitting_27 : decode cX12_fitting 27 = .ok (.aload_n 0, 1) := by decide +kernel
theorem dX12_fitting_28 : decode cX12_fitting 28 = .ok (.iload_n 2, 1) := by decide +kernel
theorem dX12_fitting_29 : decode cX12_fitting 29 = .ok (.invokevirtual 347, 3) := by decide +kernel
theorem dX12_fitting_32 : decode cX12_fitting 32 = .ok (.ifCond .eq 9, 3) := by decide +kernel
theorem dX12_fitting_35 : decode cX12_fitting 35 = .ok (.iconst 1, 1) := by decide +kernel
theorem dX12_fitting_36 : decode cX12_fitting 36 = .ok (.iload_n 2, 1) := by decide +kernel
theorem dX12_fitting_37 : decode cX12_fitting 37 = .ok (.ishl, 1) := by decide +kernel
theorem dX12_fitting_38 : decode cX12_fitting 38 = .ok (.goto 4, 3) := by decide +kernel
theorem dX12_fitting_41 : decode cX12_fitting 41 = .ok (.iconst 0, 1) := by decide +kernel
theorem dX12_fitting_42 : decode cX12_fitting 42 = .ok (.ior, 1) := by decide +kernel
theorem dX12_fitting_43 : decode cX12_fitting 43 = .ok (.istore_n 1, 1) := by decide +kernel
theorem dX12_fitting_44 : decode cX12_fitting 44 = .ok (.iinc 2 1, 3) := by decide +kernel
theorem dX12_fitting_47 : decode cX12_fitting 47 = .ok (.goto (-43), 3) := by decide +kernel
theorem dX12_fitting_50 : decode cX12_fitting 50 = .ok (.iload_n 1, 1) := by decide +kernel
theorem dX12_fitting_51 : decode cX12_fitting 51 = .ok (.ireturn, 1) := by decide +kernel
def lb_X12_fitting_4 (v0 : Nat) (s : Int32 × Int32 × aH) : Option ((Int32 × Int32 × aH) ⊕ ((Int32 × aH))) :=
  (gI s.2.2 v0 11 2).bind fun x1 =>
  if s.2.1 < x1 then
    (gR s.2.2 v0 11 0).bind fun a2 =>
    (aI s.2.2 a2 14 13).bind fun x3 =>
    (fn_X12_has s.2.2 x3 s.2.1).bind fun x4 =>
    if x4 = 0 then
      (ck s.2.2 v0 11).bind fun u7 =>
      (fn_X12_isSeen s.2.2 v0 s.2.1).bind fun o8 =>
      if o8.1 = 0 then
        (some (s.1 ||| 0)).bind fun x9 =>
        (some (s.2.1 + 1)).bind fun x10 =>
        some (.inl (x9, x10, o8.2))
      else
        (some (s.1 ||| (1 <<< (s.2.1 &&& 31)))).bind fun x11 =>
        (some (s.2.1 + 1)).bind fun x12 =>
        some (.inl (x11, x12, o8.2))
    else
      (some (s.1 ||| 0)).bind fun x5 =>
      (some (s.2.1 + 1)).bind fun x6 =>
      some (.inl (x5, x6, s.2.2))
  else
    some (.inr (s.1, s.2.2))
def hd_X12_fitting_4 (Γ : aC) (v0 : Nat) (s : Int32 × Int32 × aH) : Prop := Jd Γ (0, 0) 4 [some (.ref v0), some (.int s.1), some (.int s.2.1)] [] s.2.2
def ex_X12_fitting_4 (Γ : aC) (v0 : Nat) (r : (Int32 × aH)) : Prop := (fun r => RqI Γ r) r
set_option maxRecDepth 20000 in
set_option maxHeartbeats 4000000 in
theorem lw_X12_fitting_4 {Γ : aC} {d : Nat} (X : Cx Γ RX12 cX12_fitting 3 (some .int) (d, 0, 0)) (hd : 247 ≤ d) (v0 : Nat) : ∀ n s o, lp (lb_X12_fitting_4 v0) n s = some o → ex_X12_fitting_4 Γ v0 o → hd_X12_fitting_4 Γ v0 s := by
  have hd1 : 1 ≤ d := by omega
  refine J_lp _ _ _ ?_
  intro s o hf hk
  unfold lb_X12_fitting_4 at hf
  refine r_iload_n (pc := 4) X dX12_fitting_4 rfl ?_
  refine r_aload_n (pc := 5) X dX12_fitting_5 rfl ?_
  obtain ⟨x1, ex1, hf⟩ := ob hf
  refine r_getI (pc := 6) X dX12_fitting_6 fl_X12_118 rfl ex1 ?_
  refine r_icmp_ge (pc := 9) X 50 dX12_fitting_9 (by decide) (fun c15 => ?_) (fun c15 => ?_)
  · rw [if_neg c15] at hf
    refine r_iload_n (pc := 50) X dX12_fitting_50 rfl ?_
    obtain rfl := Option.some.inj hf
    exact r_iret (pc := 51) X dX12_fitting_51 hk
  · rw [if_pos c15] at hf
    refine r_iload_n (pc := 12) X dX12_fitting_12 rfl ?_
    refine r_aload_n (pc := 13) X dX12_fitting_13 rfl ?_
    obtain ⟨a2, ea2, hf⟩ := ob hf
    refine r_getR (pc := 14) X dX12_fitting_14 fl_X12_9 rfl ea2 ?_
    refine r_bipush (pc := 17) X 13 dX12_fitting_17 (by decide) ?_
    obtain ⟨x3, ex3, hf⟩ := ob hf
    refine r_iald (pc := 19) X dX12_fitting_19 ex3 ?_
    refine r_iload_n (pc := 20) X dX12_fitting_20 rfl ?_
    obtain ⟨x4, ex4, hf⟩ := ob hf
    refine r_callSI (pc := 21) X [.int x3, .int s.2.1] dX12_fitting_21 ml_X12_252 so_X12_has ⟨Nat.le_refl _, Nat.le_refl _⟩ (ev_X12_has (d := d - 1) (by omega) _ _ _ _ ex4) hd1 rfl (Nat.le_of_ble_eq_true rfl) rfl ?_
    refine r_if_ne (pc := 24) X 41 dX12_fitting_24 (by decide) (fun c14 => ?_) (fun c14 => ?_)
    · rw [if_neg c14] at hf
      refine r_iconst (pc := 41) X 0 dX12_fitting_41 (by decide) ?_
      refine r_ior (pc := 42) X dX12_fitting_42 ?_
      obtain ⟨x5, ex5, hf⟩ := ob hf
      refine r_nmI ex5 ?_
      refine r_istore_n (pc := 43) X [some (.ref v0), some (.int x5), some (.int s.2.1)] dX12_fitting_43 (by decide) rfl ?_
      obtain ⟨x6, ex6, hf⟩ := ob hf
      refine r_iinc2 (pc := 44) X 1 [some (.ref v0), some (.int x5), some (.int x6)] dX12_fitting_44 (by decide) rfl (by decide) ex6 rfl ?_
      refine r_goto (pc := 47) X 4 dX12_fitting_47 (by decide) ?_
      obtain rfl := Option.some.inj hf
      exact hk
    · rw [if_pos c14] at hf
      refine r_aload_n (pc := 27) X dX12_fitting_27 rfl ?_
      refine r_iload_n (pc := 28) X dX12_fitting_28 rfl ?_
      obtain ⟨u7, eu7, hf⟩ := ob hf
      obtain ⟨o8, eo8, hf⟩ := ob hf
      refine r_callVI (pc := 29) X [.int s.2.1] dX12_fitting_29 ml_X12_347 vo_X12_isSeen ⟨Nat.le_refl _, Nat.le_refl _⟩ eu7 (ev_X12_isSeen (d := d - 1) (by omega) _ _ _ _ eo8) hd1 rfl (Nat.le_of_ble_eq_true rfl) rfl ?_
      refine r_if_eq (pc := 32) X 41 dX12_fitting_32 (by decide) (fun c13 => ?_) (fun c13 => ?_)
      · rw [if_pos c13] at hf
        refine r_iconst (pc := 41) X 0 dX12_fitting_41 (by decide) ?_
        refine r_ior (pc := 42) X dX12_fitting_42 ?_
        obtain ⟨x9, ex9, hf⟩ := ob hf
        refine r_nmI ex9 ?_
        refine r_istore_n (pc := 43) X [some (.ref v0), some (.int x9), some (.int s.2.1)] dX12_fitting_43 (by decide) rfl ?_
        obtain ⟨x10, ex10, hf⟩ := ob hf
        refine r_iinc2 (pc := 44) X 1 [some (.ref v0), some (.int x9), some (.int x10)] dX12_fitting_44 (by decide) rfl (by decide) ex10 rfl ?_
        refine r_goto (pc := 47) X 4 dX12_fitting_47 (by decide) ?_
        obtain rfl := Option.some.inj hf
        exact hk
      · rw [if_neg c13] at hf
        refine r_iconst (pc := 35) X 1 dX12_fitting_35 (by decide) ?_
        refine r_iload_n (pc := 36) X dX12_fitting_36 rfl ?_
        refine r_ishl (pc := 37) X dX12_fitting_37 ?_
        refine r_goto (pc := 38) X 42 dX12_fitting_38 (by decide) ?_
        refine r_ior (pc := 42) X dX12_fitting_42 ?_
        obtain ⟨x11, ex11, hf⟩ := ob hf
        refine r_nmI ex11 ?_
        refine r_istore_n (pc := 43) X [some (.ref v0), some (.int x11), some (.int s.2.1)] dX12_fitting_43 (by decide) rfl ?_
        obtain ⟨x12, ex12, hf⟩ := ob hf
        refine r_iinc2 (pc := 44) X 1 [some (.ref v0), some (.int x11), some (.int x12)] dX12_fitting_44 (by decide) rfl (by decide) ex12 rfl ?_
        refine r_goto (pc := 47) X 4 dX12_fitting_47 (by decide) ?_
        obtain rfl := Option.some.inj hf
        exact hk
def fn_X12_fitting (h : aH) (p0 : Nat) : Option (Int32 × aH) :=
  (lp (lb_X12_fitting_4 p0) lpN (0, 0, h)).bind fun o16 =>
  some o16
set_option maxRecDepth 20000 in
set_option maxHeartbeats 4000000 in
theorem ev_X12_fitting {l : Launch} {g : aG} {d : Nat} (hd : 247 ≤ d) (h : aH) (p0 : Nat) (o : Int32 × aH) (hf : fn_X12_fitting h p0 = some o) : EvM l g d yX12_fitting cX12_fitting 3 (some .int) [.ref p0] h (some (.int o.1), o.2) := by
  refine EvM.of mk_X12_fitting (Nat.le_of_ble_eq_true rfl) ?_
  intro Γ hl hg hq X
  have hd1 : 1 ≤ d := by omega
  have hk : RqI Γ o := hq
  unfold fn_X12_fitting at hf
  show Jd Γ (0, 0) 0 [some (.ref p0), none, none] [] h
  refine r_iconst (pc := 0) X 0 dX12_fitting_0 (by decide) ?_
  refine r_istore_n (pc := 1) X [some (.ref p0), some (.int 0), none] dX12_fitting_1 (by decide) rfl ?_
  refine r_iconst (pc := 2) X 0 dX12_fitting_2 (by decide) ?_
  refine r_istore_n (pc := 3) X [some (.ref p0), some (.int 0), some (.int 0)] dX12_fitting_3 (by decide) rfl ?_
  obtain ⟨o16, eo16, hf⟩ := ob hf
  refine (lw_X12_fitting_4 X hd _ lpN _ o16 eo16 ?_)
  obtain rfl := Option.some.inj hf
  exact hk

theorem dX12_fits_0 : decode cX12_fits 0 = .ok (.aload_n 0, 1) := by decide +kernel
theorem dX12_fits_1 : decode cX12_fits 1 = .ok (.iconst 0, 1) := by decide +kernel
theorem dX12_fits_2 : decode cX12_fits 2 = .ok (.putfield 100, 3) := by decide +kernel
theorem dX12_fits_5 : decode cX12_fits 5 = .ok (.aload_n 0, 1) := by decide +kernel
theorem dX12_fits_6 : decode cX12_fits 6 = .ok (.invokevirtual 350, 3) := by decide +kernel
theorem dX12_fits_9 : decode cX12_fits 9 = .ok (.istore_n 1, 1) := by decide +kernel
theorem dX12_fits_10 : decode cX12_fits 10 = .ok (.aload_n 0, 1) := by decide +kernel
theorem dX12_fits_11 : decode cX12_fits 11 = .ok (.iconst 0, 1) := by decide +kernel
theorem dX12_fits_12 : decode cX12_fits 12 = .ok (.putfield 104, 3) := by decide +kernel
theorem dX12_fits_15 : decode cX12_fits 15 = .ok (.aload_n 0, 1) := by decide +kernel
theorem dX12_fits_16 : decode cX12_fits 16 = .ok (.iload_n 1, 1) := by decide +kernel
theorem dX12_fits_17 : decode cX12_fits 17 = .ok (.invokestatic 332, 3) := by decide +kernel
theorem dX12_fits_20 : decode cX12_fits 20 = .ok (.i2l, 1) := by decide +kernel
theorem dX12_fits_21 : decode cX12_fits 21 = .ok (.invokevirtual 274, 3) := by decide +kernel
theorem dX12_fits_24 : decode cX12_fits 24 = .ok (.aload_n 0, 1) := by decide +kernel
theorem dX12_fits_25 : decode cX12_fits 25 = .ok (.aload_n 0, 1) := by decide +kernel
theorem dX12_fits_26 : decode cX12_fits 26 = .ok (.iconst (-1), 1) := by decide +kernel
theorem dX12_fits_27 : decode cX12_fits 27 = .ok (.invokevirtual 347, 3) := by decide +kernel
theorem dX12_fits_30 : decode cX12_fits 30 = .ok (.ifCond .eq 7, 3) := by decide +kernel
theorem dX12_fits_33 : decode cX12_fits 33 = .ok (.lconst 1, 1) := by decide +kernel
theorem dX12_fits_34 : decode cX12_fits 34 = .ok (.goto 4, 3) := by decide +kernel
theorem dX12_fits_37 : decode cX12_fits 37 = .ok (.lconst 0, 1) := by decide +kernel
theorem dX12_fits_38 : decode cX12_fits 38 = .ok (.invokevirtual 274, 3) := by decide +kernel
theorem dX12_fits_41 : decode cX12_fits 41 = .ok (.iload_n 1, 1) := by decide +kernel
theorem dX12_fits_42 : decode cX12_fits 42 = .ok (.ireturn, 1) := by decide +kernel
def fn_X12_fits (h : aH) (p0 : Nat) : Option (Int32 × aH) :=
  (pI h p0 11 11 0).bind fun h1 =>
  (ck h1 p0 11).bind fun u2 =>
  (fn_X12_fitting h1 p0).bind fun o3 =>
  (pI o3.2 p0 11 10 0).bind fun h4 =>
  (fn_J6_bitCount_0f7a4 h4 o3.1).bind fun x5 =>
  (ck h4 p0 11).bind fun u6 =>
  (fn_X12_tell h4 p0 (Int32.toInt64 x5)).bind fun h7 =>
  (ck h7 p0 11).bind fun u8 =>
  (fn_X12_isSeen h7 p0 (-1)).bind fun o9 =>
  ((
    if o9.1 = 0 then
      some 0
    else
      some 1
  ) : Option (Int64)).bind fun t10 =>
  (ck o9.2 p0 11).bind fun u11 =>
  (fn_X12_tell o9.2 p0 t10).bind fun h12 =>
  some (o3.1, h12)
set_option maxRecDepth 20000 in
set_option maxHeartbeats 4000000 in
theorem ev_X12_fits {l : Launch} {g : aG} {d : Nat} (hd : 248 ≤ d) (h : aH) (p0 : Nat) (o : Int32 × aH) (hf : fn_X12_fits h p0 = some o) : EvM l g d yX12_fits cX12_fits 2 (some .int) [.ref p0] h (some (.int o.1), o.2) := by
  refine EvM.of mk_X12_fits (Nat.le_of_ble_eq_true rfl) ?_
  intro Γ hl hg hq X
  have hd1 : 1 ≤ d := by omega
  have hk : RqI Γ o := hq
  unfold fn_X12_fits at hf
  show Jd Γ (0, 0) 0 [some (.ref p0), none] [] h
  refine r_aload_n (pc := 0) X dX12_fits_0 rfl ?_
  refine r_iconst (pc := 1) X 0 dX12_fits_1 (by decide) ?_
  obtain ⟨h1, eh1, hf⟩ := ob hf
  refine r_putI (pc := 2) X dX12_fits_2 fp_X12_100 rfl eh1 ?_
  refine r_aload_n (pc := 5) X dX12_fits_5 rfl ?_
  obtain ⟨u2, eu2, hf⟩ := ob hf
  obtain ⟨o3, eo3, hf⟩ := ob hf
  refine r_callVI (pc := 6) X [] dX12_fits_6 ml_X12_350 vo_X12_fitting ⟨Nat.le_refl _, Nat.le_refl _⟩ eu2 (ev_X12_fitting (d := d - 1) (by omega) _ _ _ eo3) hd1 rfl (Nat.le_of_ble_eq_true rfl) rfl ?_
  refine r_istore_n (pc := 9) X [some (.ref p0), some (.int o3.1)] dX12_fits_9 (by decide) rfl ?_
  refine r_aload_n (pc := 10) X dX12_fits_10 rfl ?_
  refine r_iconst (pc := 11) X 0 dX12_fits_11 (by decide) ?_
  obtain ⟨h4, eh4, hf⟩ := ob hf
  refine r_putI (pc := 12) X dX12_fits_12 fp_X12_104 rfl eh4 ?_
  refine r_aload_n (pc := 15) X dX12_fits_15 rfl ?_
  refine r_iload_n (pc := 16) X dX12_fits_16 rfl ?_
  obtain ⟨x5, ex5, hf⟩ := ob hf
  refine r_callSI (pc := 17) X [.int o3.1] dX12_fits_17 ml_X12_332 so_J6_bitCount_0f7a4 ⟨Nat.le_refl _, Nat.le_refl _⟩ (ev_J6_bitCount_0f7a4 (d := d - 1) (by omega) _ _ _ ex5) hd1 rfl (Nat.le_of_ble_eq_true rfl) rfl ?_
  refine r_i2l (pc := 20) X dX12_fits_20 ?_
  obtain ⟨u6, eu6, hf⟩ := ob hf
  obtain ⟨h7, eh7, hf⟩ := ob hf
  refine r_callVV (pc := 21) X [.long (Int32.toInt64 x5)] dX12_fits_21 ml_X12_274 vo_X12_tell ⟨Nat.le_refl _, Nat.le_refl _⟩ eu6 (ev_X12_tell (d := d - 1) (by omega) _ _ _ _ eh7) hd1 rfl (Nat.le_of_ble_eq_true rfl) rfl ?_
  refine r_aload_n (pc := 24) X dX12_fits_24 rfl ?_
  refine r_aload_n (pc := 25) X dX12_fits_25 rfl ?_
  refine r_iconst (pc := 26) X (-1) dX12_fits_26 (by decide) ?_
  obtain ⟨u8, eu8, hf⟩ := ob hf
  obtain ⟨o9, eo9, hf⟩ := ob hf
  refine r_callVI (pc := 27) X [.int (-1)] dX12_fits_27 ml_X12_347 vo_X12_isSeen ⟨Nat.le_refl _, Nat.le_refl _⟩ eu8 (ev_X12_isSeen (d := d - 1) (by omega) _ _ _ _ eo9) hd1 rfl (Nat.le_of_ble_eq_true rfl) rfl ?_
  obtain ⟨t10, et10, hf⟩ := ob hf
  have Jt10 : Jd Γ (0, 0) 38 [some (.ref p0), some (.int o3.1)] [.long t10, .ref p0] o9.2 := by
    obtain ⟨u11, eu11, hf⟩ := ob hf
    obtain ⟨h12, eh12, hf⟩ := ob hf
    refine r_callVV (pc := 38) X [.long t10] dX12_fits_38 ml_X12_274 vo_X12_tell ⟨Nat.le_refl _, Nat.le_refl _⟩ eu11 (ev_X12_tell (d := d - 1) (by omega) _ _ _ _ eh12) hd1 rfl (Nat.le_of_ble_eq_true rfl) rfl ?_
    refine r_iload_n (pc := 41) X dX12_fits_41 rfl ?_
    obtain rfl := Option.some.inj hf
    exact r_iret (pc := 42) X dX12_fits_42 hk
  refine r_if_eq (pc := 30) X 37 dX12_fits_30 (by decide) (fun c13 => ?_) (fun c13 => ?_)
  · rw [if_pos c13] at et10
    refine r_lconst (pc := 37) X 0 dX12_fits_37 (by decide) ?_
    obtain rfl := Option.some.inj et10
    exact Jt10
  · rw [if_neg c13] at et10
    refine r_lconst (pc := 33) X 1 dX12_fits_33 (by decide) ?_
    refine r_goto (pc := 34) X 38 dX12_fits_34 (by decide) ?_
    obtain rfl := Option.some.inj et10
    exact Jt10

theorem dX12_cellOf_0 : decode cX12_cellOf 0 = .ok (.bipush 21, 2) := by decide +kernel
theorem dX12_cellOf_2 : decode cX12_cellOf 2 = .ok (.iload_n 0, 1) := by decide +kernel
theorem dX12_cellOf_3 : decode cX12_cellOf 3 = .ok (.imul, 1) := by decide +kernel
theorem dX12_cellOf_4 : decode cX12_cellOf 4 = .ok (.iload_n 1, 1) := by decide +kernel
theorem dX12_cellOf_5 : decode cX12_cellOf 5 = .ok (.iadd, 1) := by decide +kernel
theorem dX12_cellOf_6 : decode cX12_cellOf 6 = .ok (.bipush 10, 2) := by decide +kernel
theorem dX12_cellOf_8 : decode cX12_cellOf 8 = .ok (.imul, 1) := by decide +kernel
theorem dX12_cellOf_9 : decode cX12_cellOf 9 = .ok (.ireturn, 1) := by decide +kernel
def fn_X12_cellOf (h : aH) (p0 : Int32) (p1 : Int32) : Option (Int32) :=
  some (((21 * p0) + p1) * 10)
set_option maxRecDepth 20000 in
set_option maxHeartbeats 4000000 in
theorem ev_X12_cellOf {l : Launch} {g : aG} {d : Nat} (hd : 0 ≤ d) (h : aH) (p0 : Int32) (p1 : Int32) (o : Int32) (hf : fn_X12_cellOf h p0 p1 = some o) : EvM l g d yX12_cellOf cX12_cellOf 2 (some .int) [.int p0, .int p1] h (some (.int o), h) := by
  refine EvM.of mk_X12_cellOf (Nat.le_of_ble_eq_true rfl) ?_
  intro Γ hl hg hq X
  have hd1 : 0 ≤ d := by omega
  have hk : RpI h Γ o := hq
  unfold fn_X12_cellOf at hf
  show Jd Γ (0, 0) 0 [some (.int p0), some (.int p1)] [] h
  refine r_bipush (pc := 0) X 21 dX12_cellOf_0 (by decide) ?_
  refine r_iload_n (pc := 2) X dX12_cellOf_2 rfl ?_
  refine r_imul (pc := 3) X dX12_cellOf_3 ?_
  refine r_iload_n (pc := 4) X dX12_cellOf_4 rfl ?_
  refine r_iadd (pc := 5) X dX12_cellOf_5 ?_
  refine r_bipush (pc := 6) X 10 dX12_cellOf_6 (by decide) ?_
  refine r_imul (pc := 8) X dX12_cellOf_8 ?_
  obtain rfl := Option.some.inj hf
  exact r_iret (pc := 9) X dX12_cellOf_9 hk

theorem dX12_looks_0 : decode cX12_looks 0 = .ok (.aload_n 0, 1) := by decide +kernel
theorem dX12_looks_1 : decode cX12_looks 1 = .ok (.iconst 0, 1) := by decide +kernel
theorem dX12_looks_2 : decode cX12_looks 2 = .ok (.putfield 100, 3) := by decide +kernel
theorem dX12_looks_5 : decode cX12_looks 5 = .ok (.aload_n 0, 1) := by decide +kernel
theorem dX12_looks_6 : decode cX12_looks 6 = .ok (.invokevirtual 350, 3) := by decide +kernel
theorem dX12_looks_9 : decode cX12_looks 9 = .ok (.istore_n 1, 1) := by decide +kernel
theorem dX12_looks_10 : decode cX12_looks 10 = .ok (.iload_n 1, 1) := by decide +kernel
theorem dX12_looks_11 : decode cX12_looks 11 = .ok (.ifCond .eq 10, 3) := by decide +kernel
theorem dX12_looks_14 : decode cX12_looks 14 = .ok (.aload_n 0, 1) := by decide +kernel
theorem dX12_looks_15 : decode cX12_looks 15 = .ok (.getfield 107, 3) := by decide +kernel
theorem dX12_looks_18 : decode cX12_looks 18 = .ok (.ifCond .ne 6, 3) := by decide +kernel
theorem dX12_looks_21 : decode cX12_looks 21 = .ok (.bipush (-2), 2) := by decide +kernel
theorem dX12_looks_23 : decode cX12_looks 23 = .ok (.ireturn, 1) := by decide +kernel
theorem dX12_looks_24 : decode cX12_looks 24 = .ok (.iconst 0, 1) := by decide +kernel
theorem dX12_looks_25 : decode cX12_looks 25 = .ok (.istore_n 2, 1) := by decide +kernel
theorem dX12_looks_26 : decode cX12_looks 26 = .ok (.iload_n 2, 1) := by decide +kernel
theorem dX12_looks_27 : decode cX12_looks 27 = .ok (.sipush 1260, 3) := by decide +kernel
theorem dX12_looks_30 : decode cX12_looks 30 = .ok (.if_icmp .ge 16, 3) := by decide +kernel
theorem dX12_looks_33 : decode cX12_looks 33 = .ok (.aload_n 0, 1) := by decide +kernel
theorem dX12_looks_34 : decode cX12_looks 34 = .ok (.getfield 75, 3) := by decide +kernel
theorem dX12_looks_37 : decode cX12_looks 37 = .ok (.iload_n 2, 1) := by decide +kernel
theorem dX12_looks_38 : decode cX12_looks 38 = .ok (.iconst 0, 1) := by decide +kernel
theorem dX12_looks_39 : decode cX12_looks 39 = .ok (.iastore, 1) := by decide +kernel
theorem dX12_looks_40 : decode cX12_looks 40 = .ok (.iinc 2 1, 3) := by decide +kernel
theorem dX12_looks_43 : decode cX12_looks 43 = .ok (.goto (-17), 3) := by decide +kernel
theorem dX12_looks_46 : decode cX12_looks 46 = .ok (.iconst 0, 1) := by decide +kernel
theorem dX12_looks_47 : decode cX12_looks 47 = .ok (.istore_n 2, 1) := by decide +kernel
theorem dX12_looks_48 : decode cX12_looks 48 = .ok (.iload_n 2, 1) := by decide +kernel
theorem dX12_looks_49 : decode cX12_looks 49 = .ok (.aload_n 0, 1) := by decide +kernel
theorem dX12_looks_50 : decode cX12_looks 50 = .ok (.getfield 118, 3) := by decide +kernel
theorem dX12_looks_53 : decode cX12_looks 53 = .ok (.if_icmp .ge 88, 3) := by decide +kernel
theorem dX12_looks_56 : decode cX12_looks 56 = .ok (.iload_n 1, 1) := by decide +kernel
theorem dX12_looks_57 : decode cX12_looks 57 = .ok (.iload_n 2, 1) := by decide +kernel
theorem dX12_looks_58 : decode cX12_looks 58 = .ok (.invokestatic 252, 3) := by decide +kernel
theorem dX12_looks_61 : decode cX12_looks 61 = .ok (.ifCond .ne 6, 3) := by decide +kernel
theorem dX12_looks_64 : decode cX12_looks 64 = .ok (.goto 71, 3) := by decide +kernel
theorem dX12_looks_67 : decode cX12_looks 67 = .ok (.aload_n 0, 1) := by decide +kernel
theorem dX12_looks_68 : decode cX12_looks 68 = .ok (.iload_n 2, 1) := by decide +kernel
theorem dX12_looks_69 : decode cX12_looks 69 = .ok (.invokevirtual 344, 3) := by decide +kernel
theorem dX12_looks_72 : decode cX12_looks 72 = .ok (.iconst 0, 1) := by decide +kernel
theorem dX12_looks_73 : decode cX12_looks 73 = .ok (.istore_n 3, 1) := by decide +kernel
theorem dX12_looks_74 : decode cX12_looks 74 = .ok (.iload_n 3, 1) := by decide +kernel
theorem dX12_looks_75 : decode cX12_looks 75 = .ok (.bipush 20, 2) := by decide +kernel
theorem dX12_looks_77 : decode cX12_looks 77 = .ok (.if_icmp .gt 58, 3) := by decide +kernel
theorem dX12_looks_80 : decode cX12_looks 80 = .ok (.iconst 0, 1) := by decide +kernel
theorem dX12_looks_81 : decode cX12_looks 81 = .ok (.istore 4, 2) := by decide +kernel
theorem dX12_looks_83 : decode cX12_looks 83 = .ok (.iload 4, 2) := by decide +kernel
theorem dX12_looks_85 : decode cX12_looks 85 = .ok (.aload_n 0, 1) := by decide +kernel
theorem dX12_looks_86 : decode cX12_looks 86 = .ok (.getfield 107, 3) := by decide +kernel
theorem dX12_looks_89 : decode cX12_looks 89 = .ok (.if_icmp .ge 32, 3) := by decide +kernel
theorem dX12_looks_92 : decode cX12_looks 92 = .ok (.aload_n 0, 1) := by decide +kernel
theorem dX12_looks_93 : decode cX12_looks 93 = .ok (.getfield 75, 3) := by decide +kernel
theorem dX12_looks_96 : decode cX12_looks 96 = .ok (.iload 4, 2) := by decide +kernel
theorem dX12_looks_98 : decode cX12_looks 98 = .ok (.iload_n 3, 1) := by decide +kernel
theorem dX12_looks_99 : decode cX12_looks 99 = .ok (.invokestatic 353, 3) := by decide +kernel
theorem dX12_looks_102 : decode cX12_looks 102 = .ok (.aload_n 0, 1) := by decide +kernel
theorem dX12_looks_103 : decode cX12_looks 103 = .ok (.getfield 48, 3) := by decide +kernel
theorem dX12_looks_106 : decode cX12_looks 106 = .ok (.iload 4, 2) := by decide +kernel
theorem dX12_looks_108 : decode cX12_looks 108 = .ok (.iaload, 1) := by decide +kernel
theorem dX12_looks_109 : decode cX12_looks 109 = .ok (.iadd, 1) := by decide +kernel
theorem dX12_looks_110 : decode cX12_looks 110 = .ok (.dup2, 1) := by decide +kernel
theorem dX12_looks_111 : decode cX12_looks 111 = .ok (.iaload, 1) := by decide +kernel
theorem dX12_looks_112 : decode cX12_looks 112 = .ok (.iconst 1, 1) := by decide +kernel
theorem dX12_looks_113 : decode cX12_looks 113 = .ok (.iadd, 1) := by decide +kernel
theorem dX12_looks_114 : decode cX12_looks 114 = .ok (.iastore, 1) := by decide +kernel
theorem dX12_looks_115 : decode cX12_looks 115 = .ok (.iinc 4 1, 3) := by decide +kernel
theorem dX12_looks_118 : decode cX12_looks 118 = .ok (.goto (-35), 3) := by decide +kernel
theorem dX12_looks_121 : decode cX12_looks 121 = .ok (.aload_n 0, 1) := by decide +kernel
theorem dX12_looks_122 : decode cX12_looks 122 = .ok (.aload_n 0, 1) := by decide +kernel
theorem dX12_looks_123 : decode cX12_looks 123 = .ok (.getfield 48, 3) := by decide +kernel
theorem dX12_looks_126 : decode cX12_looks 126 = .ok (.invokevirtual 260, 3) := by decide +kernel
theorem dX12_looks_129 : decode cX12_looks 129 = .ok (.iinc 3 1, 3) := by decide +kernel
theorem dX12_looks_132 : decode cX12_looks 132 = .ok (.goto (-58), 3) := by decide +kernel
theorem dX12_looks_135 : decode cX12_looks 135 = .ok (.iinc 2 1, 3) := by decide +kernel
theorem dX12_looks_138 : decode cX12_looks 138 = .ok (.goto (-90), 3) := by decide +kernel
theorem dX12_looks_141 : decode cX12_looks 141 = .ok (.iconst (-1), 1) := by decide +kernel
theorem dX12_looks_142 : decode cX12_looks 142 = .ok (.istore_n 2, 1) := by decide +kernel
theorem dX12_looks_143 : decode cX12_looks 143 = .ok (.ldc_w 356, 3) := by decide +kernel
theorem dX12_looks_146 : decode cX12_looks 146 = .ok (.istore_n 3, 1) := by decide +kernel
theorem dX12_looks_147 : decode cX12_looks 147 = .ok (.iconst 0, 1) := by decide +kernel
theorem dX12_looks_148 : decode cX12_looks 148 = .ok (.istore 4, 2) := by decide +kernel
theorem dX12_looks_150 : decode cX12_looks 150 = .ok (.iload 4, 2) := by decide +kernel
theorem dX12_looks_152 : decode cX12_looks 152 = .ok (.aload_n 0, 1) := by decide +kernel
theorem dX12_looks_153 : decode cX12_looks 153 = .ok (.getfield 107, 3) := by decide +kernel
theorem dX12_looks_156 : decode cX12_looks 156 = .ok (.if_icmp .ge 87, 3) := by decide +kernel
theorem dX12_looks_159 : decode cX12_looks 159 = .ok (.iconst 0, 1) := by decide +kernel
theorem dX12_looks_160 : decode cX12_looks 160 = .ok (.istore 5, 2) := by decide +kernel
theorem dX12_looks_162 : decode cX12_looks 162 = .ok (.iload 5, 2) := by decide +kernel
theorem dX12_looks_164 : decode cX12_looks 164 = .ok (.bipush 20, 2) := by decide +kernel
theorem dX12_looks_166 : decode cX12_looks 166 = .ok (.if_icmp .gt 71, 3) := by decide +kernel
theorem dX12_looks_169 : decode cX12_looks 169 = .ok (.iconst 0, 1) := by decide +kernel
theorem dX12_looks_170 : decode cX12_looks 170 = .ok (.istore 6, 2) := by decide +kernel
theorem dX12_looks_172 : decode cX12_looks 172 = .ok (.iconst 0, 1) := by decide +kernel
theorem dX12_looks_173 : decode cX12_looks 173 = .ok (.istore 7, 2) := by decide +kernel
theorem dX12_looks_175 : decode cX12_looks 175 = .ok (.iload 7, 2) := by decide +kernel
theorem dX12_looks_177 : decode cX12_looks 177 = .ok (.bipush 9, 2) := by decide +kernel
theorem dX12_looks_179 : decode cX12_looks 179 = .ok (.if_icmp .gt 31, 3) := by decide +kernel
theorem dX12_looks_182 : decode cX12_looks 182 = .ok (.iload 6, 2) := by decide +kernel
theorem dX12_looks_184 : decode cX12_looks 184 = .ok (.aload_n 0, 1) := by decide +kernel
theorem dX12_looks_185 : decode cX12_looks 185 = .ok (.getfield 75, 3) := by decide +kernel
theorem dX12_looks_188 : decode cX12_looks 188 = .ok (.iload 4, 2) := by decide +kernel
theorem dX12_looks_190 : decode cX12_looks 190 = .ok (.iload 5, 2) := by decide +kernel
theorem dX12_looks_192 : decode cX12_looks 192 = .ok (.invokestatic 353, 3) := by decide +kernel
theorem dX12_looks_195 : decode cX12_looks 195 = .ok (.iload 7, 2) := by decide +kernel
theorem dX12_looks_197 : decode cX12_looks 197 = .ok (.iadd, 1) := by decide +kernel
theorem dX12_looks_198 : decode cX12_looks 198 = .ok (.iaload, 1) := by decide +kernel
theorem dX12_looks_199 : decode cX12_looks 199 = .ok (.invokestatic 223, 3) := by decide +kernel
theorem dX12_looks_202 : decode cX12_looks 202 = .ok (.istore 6, 2) := by decide +kernel
theorem dX12_looks_204 : decode cX12_looks 204 = .ok (.iinc 7 1, 3) := by decide +kernel
theorem dX12_looks_207 : decode cX12_looks 207 = .ok (.goto (-32), 3) := by decide +kernel
theorem dX12_looks_210 : decode cX12_looks 210 = .ok (.iload 6, 2) := by decide +kernel
theorem dX12_looks_212 : decode cX12_looks 212 = .ok (.iload_n 3, 1) := by decide +kernel
theorem dX12_looks_213 : decode cX12_looks 213 = .ok (.if_icmp .lt 6, 3) := by decide +kernel
theorem dX12_looks_216 : decode cX12_looks 216 = .ok (.goto 15, 3) := by decide +kernel
theorem dX12_looks_219 : decode cX12_looks 219 = .ok (.bipush 21, 2) := by decide +kernel
theorem dX12_looks_221 : decode cX12_looks 221 = .ok (.iload 4, 2) := by decide +kernel
theorem dX12_looks_223 : decode cX12_looks 223 = .ok (.imul, 1) := by decide +kernel
theorem dX12_looks_224 : decode cX12_looks 224 = .ok (.iload 5, 2) := by decide +kernel
theorem dX12_looks_226 : decode cX12_looks 226 = .ok (.iadd, 1) := by decide +kernel
theorem dX12_looks_227 : decode cX12_looks 227 = .ok (.istore_n 2, 1) := by decide +kernel
theorem dX12_looks_228 : decode cX12_looks 228 = .ok (.iload 6, 2) := by decide +kernel
theorem dX12_looks_230 : decode cX12_looks 230 = .ok (.istore_n 3, 1) := by decide +kernel
theorem dX12_looks_231 : decode cX12_looks 231 = .ok (.iinc 5 1, 3) := by decide +kernel
theorem dX12_looks_234 : decode cX12_looks 234 = .ok (.goto (-72), 3) := by decide +kernel
theorem dX12_looks_237 : decode cX12_looks 237 = .ok (.iinc 4 1, 3) := by decide +kernel
theorem dX12_looks_240 : decode cX12_looks 240 = .ok (.goto (-90), 3) := by decide +kernel
theorem dX12_looks_243 : decode cX12_looks 243 = .ok (.aload_n 0, 1) := by decide +kernel
theorem dX12_looks_244 : decode cX12_looks 244 = .ok (.iconst 0, 1) := by decide +kernel
theorem dX12_looks_245 : decode cX12_looks 245 = .ok (.putfield 104, 3) := by decide +kernel
theorem dX12_looks_248 : decode cX12_looks 248 = .ok (.aload_n 0, 1) := by decide +kernel
theorem dX12_looks_249 : decode cX12_looks 249 = .ok (.iload_n 3, 1) := by decide +kernel
theorem dX12_looks_250 : decode cX12_looks 250 = .ok (.i2l, 1) := by decide +kernel
theorem dX12_looks_251 : decode cX12_looks 251 = .ok (.invokevirtual 274, 3) := by decide +kernel
theorem dX12_looks_254 : decode cX12_looks 254 = .ok (.iload_n 2, 1) := by decide +kernel
theorem dX12_looks_255 : decode cX12_looks 255 = .ok (.ireturn, 1) := by decide +kernel
def lb_X12_looks_26 (v0 : Nat) (v1 : Int32) (s : Int32 × aH) : Option ((Int32 × aH) ⊕ ((aH))) :=
  if s.1 < 1260 then
    (gR s.2 v0 11 38).bind fun a5 =>
    (wI s.2 a5 s.1 0).bind fun h6 =>
    (some (s.1 + 1)).bind fun x7 =>
    some (.inl (x7, h6))
  else
    some (.inr s.2)
def hd_X12_looks_26 (Γ : aC) (v0 : Nat) (v1 : Int32) (s : Int32 × aH) : Prop := ∀ (j3 : Option Value) (j4 : Option Value) (j5 : Option Value) (j6 : Option Value) (j7 : Option Value), Jd Γ (0, 0) 26 [some (.ref v0), some (.int v1), some (.int s.1), j3, j4, j5, j6, j7] [] s.2
def ex_X12_looks_26 (Γ : aC) (v0 : Nat) (v1 : Int32) (r : (aH)) : Prop := (fun r => ∀ (j2 : Option Value) (j3 : Option Value) (j4 : Option Value) (j5 : Option Value) (j6 : Option Value) (j7 : Option Value), Jd Γ (0, 0) 46 [some (.ref v0), some (.int v1), j2, j3, j4, j5, j6, j7] [] r) r
set_option maxRecDepth 20000 in
set_option maxHeartbeats 4000000 in
theorem lw_X12_looks_26 {Γ : aC} {d : Nat} (X : Cx Γ RX12 cX12_looks 8 (some .int) (d, 0, 0)) (hd : 248 ≤ d) (v0 : Nat) (v1 : Int32) : ∀ n s o, lp (lb_X12_looks_26 v0 v1) n s = some o → ex_X12_looks_26 Γ v0 v1 o → hd_X12_looks_26 Γ v0 v1 s := by
  have hd1 : 1 ≤ d := by omega
  refine J_lp _ _ _ ?_
  intro s o hf hk j3 j4 j5 j6 j7
  unfold lb_X12_looks_26 at hf
  refine r_iload_n (pc := 26) X dX12_looks_26 rfl ?_
  refine r_sipush (pc := 27) X 1260 dX12_looks_27 (by decide) ?_
  refine r_icmp_ge (pc := 30) X 46 dX12_looks_30 (by decide) (fun c8 => ?_) (fun c8 => ?_)
  · rw [if_neg c8] at hf
    obtain rfl := Option.some.inj hf
    exact hk _ _ _ _ _ _
  · rw [if_pos c8] at hf
    refine r_aload_n (pc := 33) X dX12_looks_33 rfl ?_
    obtain ⟨a5, ea5, hf⟩ := ob hf
    refine r_getR (pc := 34) X dX12_looks_34 fl_X12_75 rfl ea5 ?_
    refine r_iload_n (pc := 37) X dX12_looks_37 rfl ?_
    refine r_iconst (pc := 38) X 0 dX12_looks_38 (by decide) ?_
    obtain ⟨h6, eh6, hf⟩ := ob hf
    refine r_iast (pc := 39) X dX12_looks_39 eh6 ?_
    obtain ⟨x7, ex7, hf⟩ := ob hf
    refine r_iinc2 (pc := 40) X 1 [some (.ref v0), some (.int v1), some (.int x7), j3, j4, j5, j6, j7] dX12_looks_40 (by decide) rfl (by decide) ex7 rfl ?_
    refine r_goto (pc := 43) X 26 dX12_looks_43 (by decide) ?_
    obtain rfl := Option.some.inj hf
    exact hk _ _ _ _ _
def lb_X12_looks_83 (v0 : Nat) (v1 : Int32) (v2 : Int32) (v3 : Int32) (s : Int32 × aH) : Option ((Int32 × aH) ⊕ ((aH))) :=
  (gI s.2 v0 11 1).bind fun x20 =>
  if s.1 < x20 then
    (gR s.2 v0 11 38).bind fun a21 =>
    (fn_X12_cellOf s.2 s.1 v3).bind fun x22 =>
    (gR s.2 v0 11 26).bind fun a23 =>
    (aI s.2 a23 14 s.1).bind fun x24 =>
    (some (x22 + x24)).bind fun x25 =>
    (aI s.2 a21 14 x25).bind fun x26 =>
    (wI s.2 a21 x25 (x26 + 1)).bind fun h27 =>
    (some (s.1 + 1)).bind fun x28 =>
    some (.inl (x28, h27))
  else
    some (.inr s.2)
def hd_X12_looks_83 (Γ : aC) (v0 : Nat) (v1 : Int32) (v2 : Int32) (v3 : Int32) (s : Int32 × aH) : Prop := ∀ (j5 : Option Value) (j6 : Option Value) (j7 : Option Value), Jd Γ (0, 0) 83 [some (.ref v0), some (.int v1), some (.int v2), some (.int v3), some (.int s.1), j5, j6, j7] [] s.2
def ex_X12_looks_83 (Γ : aC) (v0 : Nat) (v1 : Int32) (v2 : Int32) (v3 : Int32) (r : (aH)) : Prop := (fun r => ∀ (j4 : Option Value) (j5 : Option Value) (j6 : Option Value) (j7 : Option Value), Jd Γ (0, 0) 121 [some (.ref v0), some (.int v1), some (.int v2), some (.int v3), j4, j5, j6, j7] [] r) r
set_option maxRecDepth 20000 in
set_option maxHeartbeats 4000000 in
theorem lw_X12_looks_83 {Γ : aC} {d : Nat} (X : Cx Γ RX12 cX12_looks 8 (some .int) (d, 0, 0)) (hd : 248 ≤ d) (v0 : Nat) (v1 : Int32) (v2 : Int32) (v3 : Int32) : ∀ n s o, lp (lb_X12_looks_83 v0 v1 v2 v3) n s = some o → ex_X12_looks_83 Γ v0 v1 v2 v3 o → hd_X12_looks_83 Γ v0 v1 v2 v3 s := by
  have hd1 : 1 ≤ d := by omega
  refine J_lp _ _ _ ?_
  intro s o hf hk j5 j6 j7
  unfold lb_X12_looks_83 at hf
  refine r_iload (pc := 83) X dX12_looks_83 rfl ?_
  refine r_aload_n (pc := 85) X dX12_looks_85 rfl ?_
  obtain ⟨x20, ex20, hf⟩ := ob hf
  refine r_getI (pc := 86) X dX12_looks_86 fl_X12_107 rfl ex20 ?_
  refine r_icmp_ge (pc := 89) X 121 dX12_looks_89 (by decide) (fun c29 => ?_) (fun c29 => ?_)
  · rw [if_neg c29] at hf
    obtain rfl := Option.some.inj hf
    exact hk _ _ _ _
  · rw [if_pos c29] at hf
    refine r_aload_n (pc := 92) X dX12_looks_92 rfl ?_
    obtain ⟨a21, ea21, hf⟩ := ob hf
    refine r_getR (pc := 93) X dX12_looks_93 fl_X12_75 rfl ea21 ?_
    refine r_iload (pc := 96) X dX12_looks_96 rfl ?_
    refine r_iload_n (pc := 98) X dX12_looks_98 rfl ?_
    obtain ⟨x22, ex22, hf⟩ := ob hf
    refine r_callSI (pc := 99) X [.int s.1, .int v3] dX12_looks_99 ml_X12_353 so_X12_cellOf ⟨Nat.le_refl _, Nat.le_refl _⟩ (ev_X12_cellOf (d := d - 1) (by omega) _ _ _ _ ex22) hd1 rfl (Nat.le_of_ble_eq_true rfl) rfl ?_
    refine r_aload_n (pc := 102) X dX12_looks_102 rfl ?_
    obtain ⟨a23, ea23, hf⟩ := ob hf
    refine r_getR (pc := 103) X dX12_looks_103 fl_X12_48 rfl ea23 ?_
    refine r_iload (pc := 106) X dX12_looks_106 rfl ?_
    obtain ⟨x24, ex24, hf⟩ := ob hf
    refine r_iald (pc := 108) X dX12_looks_108 ex24 ?_
    refine r_iadd (pc := 109) X dX12_looks_109 ?_
    obtain ⟨x25, ex25, hf⟩ := ob hf
    refine r_nmI ex25 ?_
    refine r_dup2 (pc := 110) X dX12_looks_110 rfl rfl ?_
    obtain ⟨x26, ex26, hf⟩ := ob hf
    refine r_iald (pc := 111) X dX12_looks_111 ex26 ?_
    refine r_iconst (pc := 112) X 1 dX12_looks_112 (by decide) ?_
    refine r_iadd (pc := 113) X dX12_looks_113 ?_
    obtain ⟨h27, eh27, hf⟩ := ob hf
    refine r_iast (pc := 114) X dX12_looks_114 eh27 ?_
    obtain ⟨x28, ex28, hf⟩ := ob hf
    refine r_iinc2 (pc := 115) X 1 [some (.ref v0), some (.int v1), some (.int v2), some (.int v3), some (.int x28), j5, j6, j7] dX12_looks_115 (by decide) rfl (by decide) ex28 rfl ?_
    refine r_goto (pc := 118) X 83 dX12_looks_118 (by decide) ?_
    obtain rfl := Option.some.inj hf
    exact hk _ _ _
def lb_X12_looks_74 (v0 : Nat) (v1 : Int32) (v2 : Int32) (s : Int32 × aH) : Option ((Int32 × aH) ⊕ ((aH))) :=
  if s.1 ≤ 20 then
    (lp (lb_X12_looks_83 v0 v1 v2 s.1) lpN (0, s.2)).bind fun o30 =>
    (gR o30 v0 11 26).bind fun a35 =>
    (ck o30 v0 11).bind fun u36 =>
    (fn_X12_goHour o30 v0 a35).bind fun h37 =>
    (some (s.1 + 1)).bind fun x38 =>
    some (.inl (x38, h37))
  else
    some (.inr s.2)
def hd_X12_looks_74 (Γ : aC) (v0 : Nat) (v1 : Int32) (v2 : Int32) (s : Int32 × aH) : Prop := ∀ (j4 : Option Value) (j5 : Option Value) (j6 : Option Value) (j7 : Option Value), Jd Γ (0, 0) 74 [some (.ref v0), some (.int v1), some (.int v2), some (.int s.1), j4, j5, j6, j7] [] s.2
def ex_X12_looks_74 (Γ : aC) (v0 : Nat) (v1 : Int32) (v2 : Int32) (r : (aH)) : Prop := (fun r => ∀ (j3 : Option Value) (j4 : Option Value) (j5 : Option Value) (j6 : Option Value) (j7 : Option Value), Jd Γ (0, 0) 135 [some (.ref v0), some (.int v1), some (.int v2), j3, j4, j5, j6, j7] [] r) r
set_option maxRecDepth 20000 in
set_option maxHeartbeats 4000000 in
theorem lw_X12_looks_74 {Γ : aC} {d : Nat} (X : Cx Γ RX12 cX12_looks 8 (some .int) (d, 0, 0)) (hd : 248 ≤ d) (v0 : Nat) (v1 : Int32) (v2 : Int32) : ∀ n s o, lp (lb_X12_looks_74 v0 v1 v2) n s = some o → ex_X12_looks_74 Γ v0 v1 v2 o → hd_X12_looks_74 Γ v0 v1 v2 s := by
  have hd1 : 1 ≤ d := by omega
  refine J_lp _ _ _ ?_
  intro s o hf hk j4 j5 j6 j7
  unfold lb_X12_looks_74 at hf
  refine r_iload_n (pc := 74) X dX12_looks_74 rfl ?_
  refine r_bipush (pc := 75) X 20 dX12_looks_75 (by decide) ?_
  refine r_icmp_gt (pc := 77) X 135 dX12_looks_77 (by decide) (fun c39 => ?_) (fun c39 => ?_)
  · rw [if_neg c39] at hf
    obtain rfl := Option.some.inj hf
    exact hk _ _ _ _ _
  · rw [if_pos c39] at hf
    refine r_iconst (pc := 80) X 0 dX12_looks_80 (by decide) ?_
    refine r_istore (pc := 81) X [some (.ref v0), some (.int v1), some (.int v2), some (.int s.1), some (.int 0), j5, j6, j7] dX12_looks_81 (by decide) rfl ?_
    obtain ⟨o30, eo30, hf⟩ := ob hf
    refine (lw_X12_looks_83 X hd _ _ _ _ lpN _ o30 eo30 ?_) _ _ _
    intro j31 j32 j33 j34
    refine r_aload_n (pc := 121) X dX12_looks_121 rfl ?_
    refine r_aload_n (pc := 122) X dX12_looks_122 rfl ?_
    obtain ⟨a35, ea35, hf⟩ := ob hf
    refine r_getR (pc := 123) X dX12_looks_123 fl_X12_48 rfl ea35 ?_
    obtain ⟨u36, eu36, hf⟩ := ob hf
    obtain ⟨h37, eh37, hf⟩ := ob hf
    refine r_callVV (pc := 126) X [.ref a35] dX12_looks_126 ml_X12_260 vo_X12_goHour ⟨Nat.le_refl _, Nat.le_refl _⟩ eu36 (ev_X12_goHour (d := d - 1) (by omega) _ _ _ _ eh37) hd1 rfl (Nat.le_of_ble_eq_true rfl) rfl ?_
    obtain ⟨x38, ex38, hf⟩ := ob hf
    refine r_iinc2 (pc := 129) X 1 [some (.ref v0), some (.int v1), some (.int v2), some (.int x38), j31, j32, j33, j34] dX12_looks_129 (by decide) rfl (by decide) ex38 rfl ?_
    refine r_goto (pc := 132) X 74 dX12_looks_132 (by decide) ?_
    obtain rfl := Option.some.inj hf
    exact hk _ _ _ _
def lb_X12_looks_48 (v0 : Nat) (v1 : Int32) (s : Int32 × aH) : Option ((Int32 × aH) ⊕ ((aH))) :=
  (gI s.2 v0 11 2).bind fun x16 =>
  if s.1 < x16 then
    (fn_X12_has s.2 v1 s.1).bind fun x17 =>
    if x17 = 0 then
      (some (s.1 + 1)).bind fun x47 =>
      some (.inl (x47, s.2))
    else
      (ck s.2 v0 11).bind fun u18 =>
      (fn_X12_beginStuck s.2 v0 s.1).bind fun h19 =>
      (lp (lb_X12_looks_74 v0 v1 s.1) lpN (0, h19)).bind fun o40 =>
      (some (s.1 + 1)).bind fun x46 =>
      some (.inl (x46, o40))
  else
    some (.inr s.2)
def hd_X12_looks_48 (Γ : aC) (v0 : Nat) (v1 : Int32) (s : Int32 × aH) : Prop := ∀ (j3 : Option Value) (j4 : Option Value) (j5 : Option Value) (j6 : Option Value) (j7 : Option Value), Jd Γ (0, 0) 48 [some (.ref v0), some (.int v1), some (.int s.1), j3, j4, j5, j6, j7] [] s.2
def ex_X12_looks_48 (Γ : aC) (v0 : Nat) (v1 : Int32) (r : (aH)) : Prop := (fun r => ∀ (j2 : Option Value) (j3 : Option Value) (j4 : Option Value) (j5 : Option Value) (j6 : Option Value) (j7 : Option Value), Jd Γ (0, 0) 141 [some (.ref v0), some (.int v1), j2, j3, j4, j5, j6, j7] [] r) r
set_option maxRecDepth 20000 in
set_option maxHeartbeats 4000000 in
theorem lw_X12_looks_48 {Γ : aC} {d : Nat} (X : Cx Γ RX12 cX12_looks 8 (some .int) (d, 0, 0)) (hd : 248 ≤ d) (v0 : Nat) (v1 : Int32) : ∀ n s o, lp (lb_X12_looks_48 v0 v1) n s = some o → ex_X12_looks_48 Γ v0 v1 o → hd_X12_looks_48 Γ v0 v1 s := by
  have hd1 : 1 ≤ d := by omega
  refine J_lp _ _ _ ?_
  intro s o hf hk j3 j4 j5 j6 j7
  unfold lb_X12_looks_48 at hf
  refine r_iload_n (pc := 48) X dX12_looks_48 rfl ?_
  refine r_aload_n (pc := 49) X dX12_looks_49 rfl ?_
  obtain ⟨x16, ex16, hf⟩ := ob hf
  refine r_getI (pc := 50) X dX12_looks_50 fl_X12_118 rfl ex16 ?_
  refine r_icmp_ge (pc := 53) X 141 dX12_looks_53 (by decide) (fun c49 => ?_) (fun c49 => ?_)
  · rw [if_neg c49] at hf
    obtain rfl := Option.some.inj hf
    exact hk _ _ _ _ _ _
  · rw [if_pos c49] at hf
    refine r_iload_n (pc := 56) X dX12_looks_56 rfl ?_
    refine r_iload_n (pc := 57) X dX12_looks_57 rfl ?_
    obtain ⟨x17, ex17, hf⟩ := ob hf
    refine r_callSI (pc := 58) X [.int v1, .int s.1] dX12_looks_58 ml_X12_252 so_X12_has ⟨Nat.le_refl _, Nat.le_refl _⟩ (ev_X12_has (d := d - 1) (by omega) _ _ _ _ ex17) hd1 rfl (Nat.le_of_ble_eq_true rfl) rfl ?_
    refine r_if_ne (pc := 61) X 67 dX12_looks_61 (by decide) (fun c48 => ?_) (fun c48 => ?_)
    · rw [if_neg c48] at hf
      refine r_aload_n (pc := 67) X dX12_looks_67 rfl ?_
      refine r_iload_n (pc := 68) X dX12_looks_68 rfl ?_
      obtain ⟨u18, eu18, hf⟩ := ob hf
      obtain ⟨h19, eh19, hf⟩ := ob hf
      refine r_callVV (pc := 69) X [.int s.1] dX12_looks_69 ml_X12_344 vo_X12_beginStuck ⟨Nat.le_refl _, Nat.le_refl _⟩ eu18 (ev_X12_beginStuck (d := d - 1) (by omega) _ _ _ _ eh19) hd1 rfl (Nat.le_of_ble_eq_true rfl) rfl ?_
      refine r_iconst (pc := 72) X 0 dX12_looks_72 (by decide) ?_
      refine r_istore_n (pc := 73) X [some (.ref v0), some (.int v1), some (.int s.1), some (.int 0), j4, j5, j6, j7] dX12_looks_73 (by decide) rfl ?_
      obtain ⟨o40, eo40, hf⟩ := ob hf
      refine (lw_X12_looks_74 X hd _ _ _ lpN _ o40 eo40 ?_) _ _ _ _
      intro j41 j42 j43 j44 j45
      obtain ⟨x46, ex46, hf⟩ := ob hf
      refine r_iinc2 (pc := 135) X 1 [some (.ref v0), some (.int v1), some (.int x46), j41, j42, j43, j44, j45] dX12_looks_135 (by decide) rfl (by decide) ex46 rfl ?_
      refine r_goto (pc := 138) X 48 dX12_looks_138 (by decide) ?_
      obtain rfl := Option.some.inj hf
      exact hk _ _ _ _ _
    · rw [if_pos c48] at hf
      refine r_goto (pc := 64) X 135 dX12_looks_64 (by decide) ?_
      obtain ⟨x47, ex47, hf⟩ := ob hf
      refine r_iinc2 (pc := 135) X 1 [some (.ref v0), some (.int v1), some (.int x47), j3, j4, j5, j6, j7] dX12_looks_135 (by decide) rfl (by decide) ex47 rfl ?_
      refine r_goto (pc := 138) X 48 dX12_looks_138 (by decide) ?_
      obtain rfl := Option.some.inj hf
      exact hk _ _ _ _ _
def lb_X12_looks_175 (hh : aH) (v0 : Nat) (v2 : Int32) (v3 : Int32) (v4 : Int32) (v5 : Int32) (s : Int32 × Int32) : Option ((Int32 × Int32) ⊕ ((Int32))) :=
  if s.2 ≤ 9 then
    (gR hh v0 11 38).bind fun a58 =>
    (fn_X12_cellOf hh v4 v5).bind fun x59 =>
    (aI hh a58 14 (x59 + s.2)).bind fun x60 =>
    (some (mx s.1 x60)).bind fun x61 =>
    (some (s.2 + 1)).bind fun x62 =>
    some (.inl (x61, x62))
  else
    some (.inr s.1)
def hd_X12_looks_175 (Γ : aC) (hh : aH) (v0 : Nat) (v2 : Int32) (v3 : Int32) (v4 : Int32) (v5 : Int32) (s : Int32 × Int32) : Prop := ∀ (j1 : Option Value), Jd Γ (0, 0) 175 [some (.ref v0), j1, some (.int v2), some (.int v3), some (.int v4), some (.int v5), some (.int s.1), some (.int s.2)] [] hh
def ex_X12_looks_175 (Γ : aC) (hh : aH) (v0 : Nat) (v2 : Int32) (v3 : Int32) (v4 : Int32) (v5 : Int32) (r : (Int32)) : Prop := (fun r => ∀ (j1 : Option Value) (j7 : Option Value), Jd Γ (0, 0) 210 [some (.ref v0), j1, some (.int v2), some (.int v3), some (.int v4), some (.int v5), some (.int r), j7] [] hh) r
set_option maxRecDepth 20000 in
set_option maxHeartbeats 4000000 in
theorem lw_X12_looks_175 {Γ : aC} {d : Nat} (X : Cx Γ RX12 cX12_looks 8 (some .int) (d, 0, 0)) (hd : 248 ≤ d) (hh : aH) (v0 : Nat) (v2 : Int32) (v3 : Int32) (v4 : Int32) (v5 : Int32) : ∀ n s o, lp (lb_X12_looks_175 hh v0 v2 v3 v4 v5) n s = some o → ex_X12_looks_175 Γ hh v0 v2 v3 v4 v5 o → hd_X12_looks_175 Γ hh v0 v2 v3 v4 v5 s := by
  have hd1 : 1 ≤ d := by omega
  refine J_lp _ _ _ ?_
  intro s o hf hk j1
  unfold lb_X12_looks_175 at hf
  refine r_iload (pc := 175) X dX12_looks_175 rfl ?_
  refine r_bipush (pc := 177) X 9 dX12_looks_177 (by decide) ?_
  refine r_icmp_gt (pc := 179) X 210 dX12_looks_179 (by decide) (fun c63 => ?_) (fun c63 => ?_)
  · rw [if_neg c63] at hf
    obtain rfl := Option.some.inj hf
    exact hk _ _
  · rw [if_pos c63] at hf
    refine r_iload (pc := 182) X dX12_looks_182 rfl ?_
    refine r_aload_n (pc := 184) X dX12_looks_184 rfl ?_
    obtain ⟨a58, ea58, hf⟩ := ob hf
    refine r_getR (pc := 185) X dX12_looks_185 fl_X12_75 rfl ea58 ?_
    refine r_iload (pc := 188) X dX12_looks_188 rfl ?_
    refine r_iload (pc := 190) X dX12_looks_190 rfl ?_
    obtain ⟨x59, ex59, hf⟩ := ob hf
    refine r_callSI (pc := 192) X [.int v4, .int v5] dX12_looks_192 ml_X12_353 so_X12_cellOf ⟨Nat.le_refl _, Nat.le_refl _⟩ (ev_X12_cellOf (d := d - 1) (by omega) _ _ _ _ ex59) hd1 rfl (Nat.le_of_ble_eq_true rfl) rfl ?_
    refine r_iload (pc := 195) X dX12_looks_195 rfl ?_
    refine r_iadd (pc := 197) X dX12_looks_197 ?_
    obtain ⟨x60, ex60, hf⟩ := ob hf
    refine r_iald (pc := 198) X dX12_looks_198 ex60 ?_
    refine r_max (pc := 199) X dX12_looks_199 ml_X12_223 ⟨Nat.le_refl _, Nat.le_refl _⟩ hd1 (Nat.le_of_ble_eq_true rfl) ?_
    obtain ⟨x61, ex61, hf⟩ := ob hf
    refine r_nmI ex61 ?_
    refine r_istore (pc := 202) X [some (.ref v0), j1, some (.int v2), some (.int v3), some (.int v4), some (.int v5), some (.int x61), some (.int s.2)] dX12_looks_202 (by decide) rfl ?_
    obtain ⟨x62, ex62, hf⟩ := ob hf
    refine r_iinc2 (pc := 204) X 1 [some (.ref v0), j1, some (.int v2), some (.int v3), some (.int v4), some (.int v5), some (.int x61), some (.int x62)] dX12_looks_204 (by decide) rfl (by decide) ex62 rfl ?_
    refine r_goto (pc := 207) X 175 dX12_looks_207 (by decide) ?_
    obtain rfl := Option.some.inj hf
    exact hk _
def lb_X12_looks_162 (hh : aH) (v0 : Nat) (v4 : Int32) (s : Int32 × Int32 × Int32) : Option ((Int32 × Int32 × Int32) ⊕ ((Int32 × Int32))) :=
  if s.2.2 ≤ 20 then
    (lp (lb_X12_looks_175 hh v0 s.1 s.2.1 v4 s.2.2) lpN (0, 0)).bind fun o64 =>
    if o64 < s.2.1 then
      (some ((21 * v4) + s.2.2)).bind fun x67 =>
      (some (s.2.2 + 1)).bind fun x68 =>
      some (.inl (x67, o64, x68))
    else
      (some (s.2.2 + 1)).bind fun x69 =>
      some (.inl (s.1, s.2.1, x69))
  else
    some (.inr (s.1, s.2.1))
def hd_X12_looks_162 (Γ : aC) (hh : aH) (v0 : Nat) (v4 : Int32) (s : Int32 × Int32 × Int32) : Prop := ∀ (j1 : Option Value) (j6 : Option Value) (j7 : Option Value), Jd Γ (0, 0) 162 [some (.ref v0), j1, some (.int s.1), some (.int s.2.1), some (.int v4), some (.int s.2.2), j6, j7] [] hh
def ex_X12_looks_162 (Γ : aC) (hh : aH) (v0 : Nat) (v4 : Int32) (r : (Int32 × Int32)) : Prop := (fun r => ∀ (j1 : Option Value) (j5 : Option Value) (j6 : Option Value) (j7 : Option Value), Jd Γ (0, 0) 237 [some (.ref v0), j1, some (.int r.1), some (.int r.2), some (.int v4), j5, j6, j7] [] hh) r
set_option maxRecDepth 20000 in
set_option maxHeartbeats 4000000 in
theorem lw_X12_looks_162 {Γ : aC} {d : Nat} (X : Cx Γ RX12 cX12_looks 8 (some .int) (d, 0, 0)) (hd : 248 ≤ d) (hh : aH) (v0 : Nat) (v4 : Int32) : ∀ n s o, lp (lb_X12_looks_162 hh v0 v4) n s = some o → ex_X12_looks_162 Γ hh v0 v4 o → hd_X12_looks_162 Γ hh v0 v4 s := by
  have hd1 : 1 ≤ d := by omega
  refine J_lp _ _ _ ?_
  intro s o hf hk j1 j6 j7
  unfold lb_X12_looks_162 at hf
  refine r_iload (pc := 162) X dX12_looks_162 rfl ?_
  refine r_bipush (pc := 164) X 20 dX12_looks_164 (by decide) ?_
  refine r_icmp_gt (pc := 166) X 237 dX12_looks_166 (by decide) (fun c71 => ?_) (fun c71 => ?_)
  · rw [if_neg c71] at hf
    obtain rfl := Option.some.inj hf
    exact hk _ _ _ _
  · rw [if_pos c71] at hf
    refine r_iconst (pc := 169) X 0 dX12_looks_169 (by decide) ?_
    refine r_istore (pc := 170) X [some (.ref v0), j1, some (.int s.1), some (.int s.2.1), some (.int v4), some (.int s.2.2), some (.int 0), j7] dX12_looks_170 (by decide) rfl ?_
    refine r_iconst (pc := 172) X 0 dX12_looks_172 (by decide) ?_
    refine r_istore (pc := 173) X [some (.ref v0), j1, some (.int s.1), some (.int s.2.1), some (.int v4), some (.int s.2.2), some (.int 0), some (.int 0)] dX12_looks_173 (by decide) rfl ?_
    obtain ⟨o64, eo64, hf⟩ := ob hf
    refine (lw_X12_looks_175 X hd _ _ _ _ _ _ lpN _ o64 eo64 ?_) _
    intro j65 j66
    refine r_iload (pc := 210) X dX12_looks_210 rfl ?_
    refine r_iload_n (pc := 212) X dX12_looks_212 rfl ?_
    refine r_icmp_lt (pc := 213) X 219 dX12_looks_213 (by decide) (fun c70 => ?_) (fun c70 => ?_)
    · rw [if_pos c70] at hf
      refine r_bipush (pc := 219) X 21 dX12_looks_219 (by decide) ?_
      refine r_iload (pc := 221) X dX12_looks_221 rfl ?_
      refine r_imul (pc := 223) X dX12_looks_223 ?_
      refine r_iload (pc := 224) X dX12_looks_224 rfl ?_
      refine r_iadd (pc := 226) X dX12_looks_226 ?_
      obtain ⟨x67, ex67, hf⟩ := ob hf
      refine r_nmI ex67 ?_
      refine r_fg 1 [some (.ref v0), none, some (.int s.1), some (.int s.2.1), some (.int v4), some (.int s.2.2), some (.int o64), j66] rfl ?_
      refine r_istore_n (pc := 227) X [some (.ref v0), none, some (.int x67), some (.int s.2.1), some (.int v4), some (.int s.2.2), some (.int o64), j66] dX12_looks_227 (by decide) rfl ?_
      refine r_iload (pc := 228) X dX12_looks_228 rfl ?_
      refine r_istore_n (pc := 230) X [some (.ref v0), none, some (.int x67), some (.int o64), some (.int v4), some (.int s.2.2), some (.int o64), j66] dX12_looks_230 (by decide) rfl ?_
      obtain ⟨x68, ex68, hf⟩ := ob hf
      refine r_iinc2 (pc := 231) X 1 [some (.ref v0), none, some (.int x67), some (.int o64), some (.int v4), some (.int x68), some (.int o64), j66] dX12_looks_231 (by decide) rfl (by decide) ex68 rfl ?_
      refine r_goto (pc := 234) X 162 dX12_looks_234 (by decide) ?_
      obtain rfl := Option.some.inj hf
      exact hk _ _ _
    · rw [if_neg c70] at hf
      refine r_goto (pc := 216) X 231 dX12_looks_216 (by decide) ?_
      obtain ⟨x69, ex69, hf⟩ := ob hf
      refine r_iinc2 (pc := 231) X 1 [some (.ref v0), j65, some (.int s.1), some (.int s.2.1), some (.int v4), some (.int x69), some (.int o64), j66] dX12_looks_231 (by decide) rfl (by decide) ex69 rfl ?_
      refine r_goto (pc := 234) X 162 dX12_looks_234 (by decide) ?_
      obtain rfl := Option.some.inj hf
      exact hk _ _ _
def lb_X12_looks_150 (hh : aH) (v0 : Nat) (s : Int32 × Int32 × Int32) : Option ((Int32 × Int32 × Int32) ⊕ ((Int32 × Int32))) :=
  (gI hh v0 11 1).bind fun x57 =>
  if s.2.2 < x57 then
    (lp (lb_X12_looks_162 hh v0 s.2.2) lpN (s.1, s.2.1, 0)).bind fun o72 =>
    (some (s.2.2 + 1)).bind fun x77 =>
    some (.inl (o72.1, o72.2, x77))
  else
    some (.inr (s.1, s.2.1))
def hd_X12_looks_150 (Γ : aC) (hh : aH) (v0 : Nat) (s : Int32 × Int32 × Int32) : Prop := ∀ (j1 : Option Value) (j5 : Option Value) (j6 : Option Value) (j7 : Option Value), Jd Γ (0, 0) 150 [some (.ref v0), j1, some (.int s.1), some (.int s.2.1), some (.int s.2.2), j5, j6, j7] [] hh
def ex_X12_looks_150 (Γ : aC) (hh : aH) (v0 : Nat) (r : (Int32 × Int32)) : Prop := (fun r => ∀ (j1 : Option Value) (j4 : Option Value) (j5 : Option Value) (j6 : Option Value) (j7 : Option Value), Jd Γ (0, 0) 243 [some (.ref v0), j1, some (.int r.1), some (.int r.2), j4, j5, j6, j7] [] hh) r
set_option maxRecDepth 20000 in
set_option maxHeartbeats 4000000 in
theorem lw_X12_looks_150 {Γ : aC} {d : Nat} (X : Cx Γ RX12 cX12_looks 8 (some .int) (d, 0, 0)) (hd : 248 ≤ d) (hh : aH) (v0 : Nat) : ∀ n s o, lp (lb_X12_looks_150 hh v0) n s = some o → ex_X12_looks_150 Γ hh v0 o → hd_X12_looks_150 Γ hh v0 s := by
  have hd1 : 1 ≤ d := by omega
  refine J_lp _ _ _ ?_
  intro s o hf hk j1 j5 j6 j7
  unfold lb_X12_looks_150 at hf
  refine r_iload (pc := 150) X dX12_looks_150 rfl ?_
  refine r_aload_n (pc := 152) X dX12_looks_152 rfl ?_
  obtain ⟨x57, ex57, hf⟩ := ob hf
  refine r_getI (pc := 153) X dX12_looks_153 fl_X12_107 rfl ex57 ?_
  refine r_icmp_ge (pc := 156) X 243 dX12_looks_156 (by decide) (fun c78 => ?_) (fun c78 => ?_)
  · rw [if_neg c78] at hf
    obtain rfl := Option.some.inj hf
    exact hk _ _ _ _ _
  · rw [if_pos c78] at hf
    refine r_iconst (pc := 159) X 0 dX12_looks_159 (by decide) ?_
    refine r_istore (pc := 160) X [some (.ref v0), j1, some (.int s.1), some (.int s.2.1), some (.int s.2.2), some (.int 0), j6, j7] dX12_looks_160 (by decide) rfl ?_
    obtain ⟨o72, eo72, hf⟩ := ob hf
    refine (lw_X12_looks_162 X hd _ _ _ lpN _ o72 eo72 ?_) _ _ _
    intro j73 j74 j75 j76
    obtain ⟨x77, ex77, hf⟩ := ob hf
    refine r_iinc2 (pc := 237) X 1 [some (.ref v0), j73, some (.int o72.1), some (.int o72.2), some (.int x77), j74, j75, j76] dX12_looks_237 (by decide) rfl (by decide) ex77 rfl ?_
    refine r_goto (pc := 240) X 150 dX12_looks_240 (by decide) ?_
    obtain rfl := Option.some.inj hf
    exact hk _ _ _ _
def fn_X12_looks (h : aH) (p0 : Nat) : Option (Int32 × aH) :=
  (pI h p0 11 11 0).bind fun h1 =>
  (ck h1 p0 11).bind fun u2 =>
  (fn_X12_fitting h1 p0).bind fun o3 =>
  if o3.1 = 0 then
    some ((-2), o3.2)
  else
    (gI o3.2 p0 11 1).bind fun x4 =>
    if x4 = 0 then
      some ((-2), o3.2)
    else
      (lp (lb_X12_looks_26 p0 o3.1) lpN (0, o3.2)).bind fun o9 =>
      (lp (lb_X12_looks_48 p0 o3.1) lpN (0, o9)).bind fun o50 =>
      (lp (lb_X12_looks_150 o50 p0) lpN ((-1), 1000000, 0)).bind fun o79 =>
      (pI o50 p0 11 10 0).bind fun h85 =>
      (ck h85 p0 11).bind fun u86 =>
      (fn_X12_tell h85 p0 (Int32.toInt64 o79.2)).bind fun h87 =>
      some (o79.1, h87)
set_option maxRecDepth 20000 in
set_option maxHeartbeats 4000000 in
theorem ev_X12_looks {l : Launch} {g : aG} {d : Nat} (hd : 248 ≤ d) (h : aH) (p0 : Nat) (o : Int32 × aH) (hf : fn_X12_looks h p0 = some o) : EvM l g d yX12_looks cX12_looks 8 (some .int) [.ref p0] h (some (.int o.1), o.2) := by
  refine EvM.of mk_X12_looks (Nat.le_of_ble_eq_true rfl) ?_
  intro Γ hl hg hq X
  have hd1 : 1 ≤ d := by omega
  have hk : RqI Γ o := hq
  unfold fn_X12_looks at hf
  show Jd Γ (0, 0) 0 [some (.ref p0), none, none, none, none, none, none, none] [] h
  refine r_aload_n (pc := 0) X dX12_looks_0 rfl ?_
  refine r_iconst (pc := 1) X 0 dX12_looks_1 (by decide) ?_
  obtain ⟨h1, eh1, hf⟩ := ob hf
  refine r_putI (pc := 2) X dX12_looks_2 fp_X12_100 rfl eh1 ?_
  refine r_aload_n (pc := 5) X dX12_looks_5 rfl ?_
  obtain ⟨u2, eu2, hf⟩ := ob hf
  obtain ⟨o3, eo3, hf⟩ := ob hf
  refine r_callVI (pc := 6) X [] dX12_looks_6 ml_X12_350 vo_X12_fitting ⟨Nat.le_refl _, Nat.le_refl _⟩ eu2 (ev_X12_fitting (d := d - 1) (by omega) _ _ _ eo3) hd1 rfl (Nat.le_of_ble_eq_true rfl) rfl ?_
  refine r_istore_n (pc := 9) X [some (.ref p0), some (.int o3.1), none, none, none, none, none, none] dX12_looks_9 (by decide) rfl ?_
  refine r_iload_n (pc := 10) X dX12_looks_10 rfl ?_
  refine r_if_eq (pc := 11) X 21 dX12_looks_11 (by decide) (fun c89 => ?_) (fun c89 => ?_)
  · rw [if_pos c89] at hf
    refine r_bipush (pc := 21) X (-2) dX12_looks_21 (by decide) ?_
    obtain rfl := Option.some.inj hf
    exact r_iret (pc := 23) X dX12_looks_23 hk
  · rw [if_neg c89] at hf
    refine r_aload_n (pc := 14) X dX12_looks_14 rfl ?_
    obtain ⟨x4, ex4, hf⟩ := ob hf
    refine r_getI (pc := 15) X dX12_looks_15 fl_X12_107 rfl ex4 ?_
    refine r_if_ne (pc := 18) X 24 dX12_looks_18 (by decide) (fun c88 => ?_) (fun c88 => ?_)
    · rw [if_neg c88] at hf
      refine r_iconst (pc := 24) X 0 dX12_looks_24 (by decide) ?_
      refine r_istore_n (pc := 25) X [some (.ref p0), some (.int o3.1), some (.int 0), none, none, none, none, none] dX12_looks_25 (by decide) rfl ?_
      obtain ⟨o9, eo9, hf⟩ := ob hf
      refine (lw_X12_looks_26 X hd _ _ lpN _ o9 eo9 ?_) _ _ _ _ _
      intro j10 j11 j12 j13 j14 j15
      refine r_iconst (pc := 46) X 0 dX12_looks_46 (by decide) ?_
      refine r_istore_n (pc := 47) X [some (.ref p0), some (.int o3.1), some (.int 0), j11, j12, j13, j14, j15] dX12_looks_47 (by decide) rfl ?_
      obtain ⟨o50, eo50, hf⟩ := ob hf
      refine (lw_X12_looks_48 X hd _ _ lpN _ o50 eo50 ?_) _ _ _ _ _
      intro j51 j52 j53 j54 j55 j56
      refine r_iconst (pc := 141) X (-1) dX12_looks_141 (by decide) ?_
      refine r_istore_n (pc := 142) X [some (.ref p0), some (.int o3.1), some (.int (-1)), j52, j53, j54, j55, j56] dX12_looks_142 (by decide) rfl ?_
      refine r_ldcw (pc := 143) X 1000000 dX12_looks_143 kc_X12_356 ?_
      refine r_istore_n (pc := 146) X [some (.ref p0), some (.int o3.1), some (.int (-1)), some (.int 1000000), j53, j54, j55, j56] dX12_looks_146 (by decide) rfl ?_
      refine r_iconst (pc := 147) X 0 dX12_looks_147 (by decide) ?_
      refine r_istore (pc := 148) X [some (.ref p0), some (.int o3.1), some (.int (-1)), some (.int 1000000), some (.int 0), j54, j55, j56] dX12_looks_148 (by decide) rfl ?_
      obtain ⟨o79, eo79, hf⟩ := ob hf
      refine (lw_X12_looks_150 X hd _ _ lpN _ o79 eo79 ?_) _ _ _ _
      intro j80 j81 j82 j83 j84
      refine r_aload_n (pc := 243) X dX12_looks_243 rfl ?_
      refine r_iconst (pc := 244) X 0 dX12_looks_244 (by decide) ?_
      obtain ⟨h85, eh85, hf⟩ := ob hf
      refine r_putI (pc := 245) X dX12_looks_245 fp_X12_104 rfl eh85 ?_
      refine r_aload_n (pc := 248) X dX12_looks_248 rfl ?_
      refine r_iload_n (pc := 249) X dX12_looks_249 rfl ?_
      refine r_i2l (pc := 250) X dX12_looks_250 ?_
      obtain ⟨u86, eu86, hf⟩ := ob hf
      obtain ⟨h87, eh87, hf⟩ := ob hf
      refine r_callVV (pc := 251) X [.long (Int32.toInt64 o79.2)] dX12_looks_251 ml_X12_274 vo_X12_tell ⟨Nat.le_refl _, Nat.le_refl _⟩ eu86 (ev_X12_tell (d := d - 1) (by omega) _ _ _ _ eh87) hd1 rfl (Nat.le_of_ble_eq_true rfl) rfl ?_
      refine r_iload_n (pc := 254) X dX12_looks_254 rfl ?_
      obtain rfl := Option.some.inj hf
      exact r_iret (pc := 255) X dX12_looks_255 hk
    · rw [if_pos c88] at hf
      refine r_bipush (pc := 21) X (-2) dX12_looks_21 (by decide) ?_
      obtain rfl := Option.some.inj hf
      exact r_iret (pc := 23) X dX12_looks_23 hk
