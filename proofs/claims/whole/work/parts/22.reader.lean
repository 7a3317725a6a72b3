theorem dX5_standsAsDigit_0 : decode cX5_standsAsDigit 0 = .ok (.aload_n 0, 1) := by decide +kernel
theorem dX5_standsAsDigit_1 : decode cX5_standsAsDigit 1 = .ok (.getfield 45, 3) := by decide +kernel
theorem dX5_standsAsDigit_4 : decode cX5_standsAsDigit 4 = .ok (.ifCond .eq 28, 3) := by decide +kernel
theorem dX5_standsAsDigit_7 : decode cX5_standsAsDigit 7 = .ok (.aload_n 0, 1) := by decide +kernel
theorem dX5_standsAsDigit_8 : decode cX5_standsAsDigit 8 = .ok (.iconst 0, 1) := by decide +kernel
theorem dX5_standsAsDigit_9 : decode cX5_standsAsDigit 9 = .ok (.putfield 45, 3) := by decide +kernel
theorem dX5_standsAsDigit_12 : decode cX5_standsAsDigit 12 = .ok (.aload_n 0, 1) := by decide +kernel
theorem dX5_standsAsDigit_13 : decode cX5_standsAsDigit 13 = .ok (.iconst 1, 1) := by decide +kernel
theorem dX5_standsAsDigit_14 : decode cX5_standsAsDigit 14 = .ok (.putfield 42, 3) := by decide +kernel
theorem dX5_standsAsDigit_17 : decode cX5_standsAsDigit 17 = .ok (.aload_n 0, 1) := by decide +kernel
theorem dX5_standsAsDigit_18 : decode cX5_standsAsDigit 18 = .ok (.iload_n 2, 1) := by decide +kernel
theorem dX5_standsAsDigit_19 : decode cX5_standsAsDigit 19 = .ok (.putfield 70, 3) := by decide +kernel
theorem dX5_standsAsDigit_22 : decode cX5_standsAsDigit 22 = .ok (.aload_n 1, 1) := by decide +kernel
theorem dX5_standsAsDigit_23 : decode cX5_standsAsDigit 23 = .ok (.aload_n 0, 1) := by decide +kernel
theorem dX5_standsAsDigit_24 : decode cX5_standsAsDigit 24 = .ok (.getfield 70, 3) := by decide +kernel
theorem dX5_standsAsDigit_27 : decode cX5_standsAsDigit 27 = .ok (.invokevirtual 73, 3) := by decide +kernel
theorem dX5_standsAsDigit_30 : decode cX5_standsAsDigit 30 = .ok (.iconst 1, 1) := by decide +kernel
theorem dX5_standsAsDigit_31 : decode cX5_standsAsDigit 31 = .ok (.ireturn, 1) := by decide +kernel
theorem dX5_standsAsDigit_32 : decode cX5_standsAsDigit 32 = .ok (.aload_n 0, 1) := by decide +kernel
theorem dX5_standsAsDigit_33 : decode cX5_standsAsDigit 33 = .ok (.getfield 42, 3) := by decide +kernel
theorem dX5_standsAsDigit_36 : decode cX5_standsAsDigit 36 = .ok (.ifCond .eq 11, 3) := by decide +kernel
theorem dX5_standsAsDigit_39 : decode cX5_standsAsDigit 39 = .ok (.aload_n 0, 1) := by decide +kernel
theorem dX5_standsAsDigit_40 : decode cX5_standsAsDigit 40 = .ok (.getfield 42, 3) := by decide +kernel
theorem dX5_standsAsDigit_43 : decode cX5_standsAsDigit 43 = .ok (.iconst 3, 1) := by decide +kernel
theorem dX5_standsAsDigit_44 : decode cX5_standsAsDigit 44 = .ok (.if_icmp .ne 5, 3) := by decide +kernel
theorem dX5_standsAsDigit_47 : decode cX5_standsAsDigit 47 = .ok (.iconst 0, 1) := by decide +kernel
theorem dX5_standsAsDigit_48 : decode cX5_standsAsDigit 48 = .ok (.ireturn, 1) := by decide +kernel
theorem dX5_standsAsDigit_49 : decode cX5_standsAsDigit 49 = .ok (.aload_n 0, 1) := by decide +kernel
theorem dX5_standsAsDigit_50 : decode cX5_standsAsDigit 50 = .ok (.dup, 1) := by decide +kernel
theorem dX5_standsAsDigit_51 : decode cX5_standsAsDigit 51 = .ok (.getfield 42, 3) := by decide +kernel
theorem dX5_standsAsDigit_54 : decode cX5_standsAsDigit 54 = .ok (.iconst 1, 1) := by decide +kernel
theorem dX5_standsAsDigit_55 : decode cX5_standsAsDigit 55 = .ok (.iadd, 1) := by decide +kernel
theorem dX5_standsAsDigit_56 : decode cX5_standsAsDigit 56 = .ok (.putfield 42, 3) := by decide +kernel
theorem dX5_standsAsDigit_59 : decode cX5_standsAsDigit 59 = .ok (.aload_n 0, 1) := by decide +kernel
theorem dX5_standsAsDigit_60 : decode cX5_standsAsDigit 60 = .ok (.aload_n 0, 1) := by decide +kernel
theorem dX5_standsAsDigit_61 : decode cX5_standsAsDigit 61 = .ok (.getfield 70, 3) := by decide +kernel
theorem dX5_standsAsDigit_64 : decode cX5_standsAsDigit 64 = .ok (.bipush 10, 2) := by decide +kernel
theorem dX5_standsAsDigit_66 : decode cX5_standsAsDigit 66 = .ok (.imul, 1) := by decide +kernel
theorem dX5_standsAsDigit_67 : decode cX5_standsAsDigit 67 = .ok (.iload_n 2, 1) := by decide +kernel
theorem dX5_standsAsDigit_68 : decode cX5_standsAsDigit 68 = .ok (.iadd, 1) := by decide +kernel
theorem dX5_standsAsDigit_69 : decode cX5_standsAsDigit 69 = .ok (.putfield 70, 3) := by decide +kernel
theorem dX5_standsAsDigit_72 : decode cX5_standsAsDigit 72 = .ok (.aload_n 1, 1) := by decide +kernel
theorem dX5_standsAsDigit_73 : decode cX5_standsAsDigit 73 = .ok (.aload_n 0, 1) := by decide +kernel
theorem dX5_standsAsDigit_74 : decode cX5_standsAsDigit 74 = .ok (.getfield 70, 3) := by decide +kernel
theorem dX5_standsAsDigit_77 : decode cX5_standsAsDigit 77 = .ok (.invokevirtual 77, 3) := by decide +kernel
theorem dX5_standsAsDigit_80 : decode cX5_standsAsDigit 80 = .ok (.iconst 1, 1) := by decide +kernel
theorem dX5_standsAsDigit_81 : decode cX5_standsAsDigit 81 = .ok (.ireturn, 1) := by decide +kernel
def fn_X5_standsAsDigit (h : aH) (p0 : Nat) (p1 : Nat) (p2 : Int32) : Option (Int32 × aH) :=
  (gI h p0 4 7).bind fun x1 =>
  if x1 = 0 then
    (gI h p0 4 5).bind fun x2 =>
    if x2 = 0 then
      some (0, h)
    else
      (gI h p0 4 5).bind fun x3 =>
      if x3 = 3 then
        some (0, h)
      else
        (gI h p0 4 5).bind fun x4 =>
        (pI h p0 4 5 (x4 + 1)).bind fun h5 =>
        (gI h5 p0 4 6).bind fun x6 =>
        (pI h5 p0 4 6 ((x6 * 10) + p2)).bind fun h7 =>
        (gI h7 p0 4 6).bind fun x8 =>
        (ck h7 p1 3).bind fun u9 =>
        (fn_X4_changeLast h7 p1 x8).bind fun h10 =>
        some (1, h10)
  else
    (pZ h p0 4 7 0).bind fun h13 =>
    (pI h13 p0 4 5 1).bind fun h14 =>
    (pI h14 p0 4 6 p2).bind fun h15 =>
    (gI h15 p0 4 6).bind fun x16 =>
    (ck h15 p1 3).bind fun u17 =>
    (fn_X4_add h15 p1 x16).bind fun h18 =>
    some (1, h18)
set_option maxRecDepth 20000 in
set_option maxHeartbeats 4000000 in
theorem ev_X5_standsAsDigit {l : Launch} {g : aG} {d : Nat} (hd : 1 ≤ d) (h : aH) (p0 : Nat) (p1 : Nat) (p2 : Int32) (o : Int32 × aH) (hf : fn_X5_standsAsDigit h p0 p1 p2 = some o) : EvM l g d yX5_standsAsDigit cX5_standsAsDigit 3 (some .boolean) [.ref p0, .ref p1, .int p2] h (some (.int o.1), o.2) := by
  refine EvM.of mk_X5_standsAsDigit (Nat.le_of_ble_eq_true rfl) ?_
  intro Γ hl hg hq X
  have hd1 : 1 ≤ d := by omega
  have hk : RqI Γ o := hq
  unfold fn_X5_standsAsDigit at hf
  show Jd Γ (0, 0) 0 [some (.ref p0), some (.ref p1), some (.int p2)] [] h
  refine r_aload_n (pc := 0) X dX5_standsAsDigit_0 rfl ?_
  obtain ⟨x1, ex1, hf⟩ := ob hf
  refine r_getI (pc := 1) X dX5_standsAsDigit_1 fl_X5_45 rfl ex1 ?_
  refine r_if_eq (pc := 4) X 32 dX5_standsAsDigit_4 (by decide) (fun c19 => ?_) (fun c19 => ?_)
  · rw [if_pos c19] at hf
    refine r_aload_n (pc := 32) X dX5_standsAsDigit_32 rfl ?_
    obtain ⟨x2, ex2, hf⟩ := ob hf
    refine r_getI (pc := 33) X dX5_standsAsDigit_33 fl_X5_42 rfl ex2 ?_
    refine r_if_eq (pc := 36) X 47 dX5_standsAsDigit_36 (by decide) (fun c12 => ?_) (fun c12 => ?_)
    · rw [if_pos c12] at hf
      refine r_iconst (pc := 47) X 0 dX5_standsAsDigit_47 (by decide) ?_
      obtain rfl := Option.some.inj hf
      exact r_zret (pc := 48) X dX5_standsAsDigit_48 (Or.inl rfl) hk
    · rw [if_neg c12] at hf
      refine r_aload_n (pc := 39) X dX5_standsAsDigit_39 rfl ?_
      obtain ⟨x3, ex3, hf⟩ := ob hf
      refine r_getI (pc := 40) X dX5_standsAsDigit_40 fl_X5_42 rfl ex3 ?_
      refine r_iconst (pc := 43) X 3 dX5_standsAsDigit_43 (by decide) ?_
      refine r_icmp_ne (pc := 44) X 49 dX5_standsAsDigit_44 (by decide) (fun c11 => ?_) (fun c11 => ?_)
      · rw [if_neg c11] at hf
        refine r_aload_n (pc := 49) X dX5_standsAsDigit_49 rfl ?_
        refine r_dup (pc := 50) X dX5_standsAsDigit_50 rfl ?_
        obtain ⟨x4, ex4, hf⟩ := ob hf
        refine r_getI (pc := 51) X dX5_standsAsDigit_51 fl_X5_42 rfl ex4 ?_
        refine r_iconst (pc := 54) X 1 dX5_standsAsDigit_54 (by decide) ?_
        refine r_iadd (pc := 55) X dX5_standsAsDigit_55 ?_
        obtain ⟨h5, eh5, hf⟩ := ob hf
        refine r_putI (pc := 56) X dX5_standsAsDigit_56 fp_X5_42 rfl eh5 ?_
        refine r_aload_n (pc := 59) X dX5_standsAsDigit_59 rfl ?_
        refine r_aload_n (pc := 60) X dX5_standsAsDigit_60 rfl ?_
        obtain ⟨x6, ex6, hf⟩ := ob hf
        refine r_getI (pc := 61) X dX5_standsAsDigit_61 fl_X5_70 rfl ex6 ?_
        refine r_bipush (pc := 64) X 10 dX5_standsAsDigit_64 (by decide) ?_
        refine r_imul (pc := 66) X dX5_standsAsDigit_66 ?_
        refine r_iload_n (pc := 67) X dX5_standsAsDigit_67 rfl ?_
        refine r_iadd (pc := 68) X dX5_standsAsDigit_68 ?_
        obtain ⟨h7, eh7, hf⟩ := ob hf
        refine r_putI (pc := 69) X dX5_standsAsDigit_69 fp_X5_70 rfl eh7 ?_
        refine r_aload_n (pc := 72) X dX5_standsAsDigit_72 rfl ?_
        refine r_aload_n (pc := 73) X dX5_standsAsDigit_73 rfl ?_
        obtain ⟨x8, ex8, hf⟩ := ob hf
        refine r_getI (pc := 74) X dX5_standsAsDigit_74 fl_X5_70 rfl ex8 ?_
        obtain ⟨u9, eu9, hf⟩ := ob hf
        obtain ⟨h10, eh10, hf⟩ := ob hf
        refine r_callVV (pc := 77) X [.int x8] dX5_standsAsDigit_77 ml_X5_77 vo_X4_changeLast ⟨Nat.le_refl _, Nat.le_refl _⟩ eu9 (ev_X4_changeLast (d := d - 1) (by omega) _ _ _ _ eh10) hd1 rfl (Nat.le_of_ble_eq_true rfl) rfl ?_
        refine r_iconst (pc := 80) X 1 dX5_standsAsDigit_80 (by decide) ?_
        obtain rfl := Option.some.inj hf
        exact r_zret (pc := 81) X dX5_standsAsDigit_81 (Or.inr rfl) hk
      · rw [if_pos c11] at hf
        refine r_iconst (pc := 47) X 0 dX5_standsAsDigit_47 (by decide) ?_
        obtain rfl := Option.some.inj hf
        exact r_zret (pc := 48) X dX5_standsAsDigit_48 (Or.inl rfl) hk
  · rw [if_neg c19] at hf
    refine r_aload_n (pc := 7) X dX5_standsAsDigit_7 rfl ?_
    refine r_iconst (pc := 8) X 0 dX5_standsAsDigit_8 (by decide) ?_
    obtain ⟨h13, eh13, hf⟩ := ob hf
    refine r_putZ (pc := 9) X dX5_standsAsDigit_9 fp_X5_45 rfl eh13 ?_
    refine r_aload_n (pc := 12) X dX5_standsAsDigit_12 rfl ?_
    refine r_iconst (pc := 13) X 1 dX5_standsAsDigit_13 (by decide) ?_
    obtain ⟨h14, eh14, hf⟩ := ob hf
    refine r_putI (pc := 14) X dX5_standsAsDigit_14 fp_X5_42 rfl eh14 ?_
    refine r_aload_n (pc := 17) X dX5_standsAsDigit_17 rfl ?_
    refine r_iload_n (pc := 18) X dX5_standsAsDigit_18 rfl ?_
    obtain ⟨h15, eh15, hf⟩ := ob hf
    refine r_putI (pc := 19) X dX5_standsAsDigit_19 fp_X5_70 rfl eh15 ?_
    refine r_aload_n (pc := 22) X dX5_standsAsDigit_22 rfl ?_
    refine r_aload_n (pc := 23) X dX5_standsAsDigit_23 rfl ?_
    obtain ⟨x16, ex16, hf⟩ := ob hf
    refine r_getI (pc := 24) X dX5_standsAsDigit_24 fl_X5_70 rfl ex16 ?_
    obtain ⟨u17, eu17, hf⟩ := ob hf
    obtain ⟨h18, eh18, hf⟩ := ob hf
    refine r_callVV (pc := 27) X [.int x16] dX5_standsAsDigit_27 ml_X5_73 vo_X4_add ⟨Nat.le_refl _, Nat.le_refl _⟩ eu17 (ev_X4_add (d := d - 1) (by omega) _ _ _ _ eh18) hd1 rfl (Nat.le_of_ble_eq_true rfl) rfl ?_
    refine r_iconst (pc := 30) X 1 dX5_standsAsDigit_30 (by decide) ?_
    obtain rfl := Option.some.inj hf
    exact r_zret (pc := 31) X dX5_standsAsDigit_31 (Or.inr rfl) hk

theorem dX5_hold_0 : decode cX5_hold 0 = .ok (.aload_n 0, 1) := by decide +kernel
theorem dX5_hold_1 : decode cX5_hold 1 = .ok (.getfield 33, 3) := by decide +kernel
theorem dX5_hold_4 : decode cX5_hold 4 = .ok (.bipush 40, 2) := by decide +kernel
theorem dX5_hold_6 : decode cX5_hold 6 = .ok (.if_icmp .ge 23, 3) := by decide +kernel
theorem dX5_hold_9 : decode cX5_hold 9 = .ok (.aload_n 0, 1) := by decide +kernel
theorem dX5_hold_10 : decode cX5_hold 10 = .ok (.getfield 15, 3) := by decide +kernel
theorem dX5_hold_13 : decode cX5_hold 13 = .ok (.aload_n 0, 1) := by decide +kernel
theorem dX5_hold_14 : decode cX5_hold 14 = .ok (.getfield 33, 3) := by decide +kernel
theorem dX5_hold_17 : decode cX5_hold 17 = .ok (.iload_n 1, 1) := by decide +kernel
theorem dX5_hold_18 : decode cX5_hold 18 = .ok (.iastore, 1) := by decide +kernel
theorem dX5_hold_19 : decode cX5_hold 19 = .ok (.aload_n 0, 1) := by decide +kernel
theorem dX5_hold_20 : decode cX5_hold 20 = .ok (.dup, 1) := by decide +kernel
theorem dX5_hold_21 : decode cX5_hold 21 = .ok (.getfield 33, 3) := by decide +kernel
theorem dX5_hold_24 : decode cX5_hold 24 = .ok (.iconst 1, 1) := by decide +kernel
theorem dX5_hold_25 : decode cX5_hold 25 = .ok (.iadd, 1) := by decide +kernel
theorem dX5_hold_26 : decode cX5_hold 26 = .ok (.putfield 33, 3) := by decide +kernel
theorem dX5_hold_29 : decode cX5_hold 29 = .ok (.return_, 1) := by decide +kernel
def fn_X5_hold (h : aH) (p0 : Nat) (p1 : Int32) : Option (aH) :=
  (gI h p0 4 2).bind fun x1 =>
  if x1 < 40 then
    (gR h p0 4 1).bind fun a2 =>
    (gI h p0 4 2).bind fun x3 =>
    (wI h a2 x3 p1).bind fun h4 =>
    (gI h4 p0 4 2).bind fun x5 =>
    (pI h4 p0 4 2 (x5 + 1)).bind fun h6 =>
    some h6
  else
    some h
set_option maxRecDepth 20000 in
set_option maxHeartbeats 4000000 in
theorem ev_X5_hold {l : Launch} {g : aG} {d : Nat} (hd : 0 ≤ d) (h : aH) (p0 : Nat) (p1 : Int32) (o : aH) (hf : fn_X5_hold h p0 p1 = some o) : EvM l g d yX5_hold cX5_hold 2 none [.ref p0, .int p1] h (none, o) := by
  refine EvM.of mk_X5_hold (Nat.le_of_ble_eq_true rfl) ?_
  intro Γ hl hg hq X
  have hd1 : 0 ≤ d := by omega
  have hk : RqV Γ o := hq
  unfold fn_X5_hold at hf
  show Jd Γ (0, 0) 0 [some (.ref p0), some (.int p1)] [] h
  refine r_aload_n (pc := 0) X dX5_hold_0 rfl ?_
  obtain ⟨x1, ex1, hf⟩ := ob hf
  refine r_getI (pc := 1) X dX5_hold_1 fl_X5_33 rfl ex1 ?_
  refine r_bipush (pc := 4) X 40 dX5_hold_4 (by decide) ?_
  refine r_icmp_ge (pc := 6) X 29 dX5_hold_6 (by decide) (fun c7 => ?_) (fun c7 => ?_)
  · rw [if_neg c7] at hf
    obtain rfl := Option.some.inj hf
    exact r_vret (pc := 29) X dX5_hold_29 hk
  · rw [if_pos c7] at hf
    refine r_aload_n (pc := 9) X dX5_hold_9 rfl ?_
    obtain ⟨a2, ea2, hf⟩ := ob hf
    refine r_getR (pc := 10) X dX5_hold_10 fl_X5_15 rfl ea2 ?_
    refine r_aload_n (pc := 13) X dX5_hold_13 rfl ?_
    obtain ⟨x3, ex3, hf⟩ := ob hf
    refine r_getI (pc := 14) X dX5_hold_14 fl_X5_33 rfl ex3 ?_
    refine r_iload_n (pc := 17) X dX5_hold_17 rfl ?_
    obtain ⟨h4, eh4, hf⟩ := ob hf
    refine r_iast (pc := 18) X dX5_hold_18 eh4 ?_
    refine r_aload_n (pc := 19) X dX5_hold_19 rfl ?_
    refine r_dup (pc := 20) X dX5_hold_20 rfl ?_
    obtain ⟨x5, ex5, hf⟩ := ob hf
    refine r_getI (pc := 21) X dX5_hold_21 fl_X5_33 rfl ex5 ?_
    refine r_iconst (pc := 24) X 1 dX5_hold_24 (by decide) ?_
    refine r_iadd (pc := 25) X dX5_hold_25 ?_
    obtain ⟨h6, eh6, hf⟩ := ob hf
    refine r_putI (pc := 26) X dX5_hold_26 fp_X5_33 rfl eh6 ?_
    obtain rfl := Option.some.inj hf
    exact r_vret (pc := 29) X dX5_hold_29 hk

theorem dX5_opens_0 : decode cX5_opens 0 = .ok (.aload_n 0, 1) := by decide +kernel
theorem dX5_opens_1 : decode cX5_opens 1 = .ok (.getfield 36, 3) := by decide +kernel
theorem dX5_opens_4 : decode cX5_opens 4 = .ok (.iconst 4, 1) := by decide +kernel
theorem dX5_opens_5 : decode cX5_opens 5 = .ok (.if_icmp .ne 5, 3) := by decide +kernel
theorem dX5_opens_8 : decode cX5_opens 8 = .ok (.iconst 0, 1) := by decide +kernel
theorem dX5_opens_9 : decode cX5_opens 9 = .ok (.ireturn, 1) := by decide +kernel
theorem dX5_opens_10 : decode cX5_opens 10 = .ok (.aload_n 0, 1) := by decide +kernel
theorem dX5_opens_11 : decode cX5_opens 11 = .ok (.dup, 1) := by decide +kernel
theorem dX5_opens_12 : decode cX5_opens 12 = .ok (.getfield 36, 3) := by decide +kernel
theorem dX5_opens_15 : decode cX5_opens 15 = .ok (.iconst 1, 1) := by decide +kernel
theorem dX5_opens_16 : decode cX5_opens 16 = .ok (.iadd, 1) := by decide +kernel
theorem dX5_opens_17 : decode cX5_opens 17 = .ok (.putfield 36, 3) := by decide +kernel
theorem dX5_opens_20 : decode cX5_opens 20 = .ok (.aload_n 0, 1) := by decide +kernel
theorem dX5_opens_21 : decode cX5_opens 21 = .ok (.dup, 1) := by decide +kernel
theorem dX5_opens_22 : decode cX5_opens 22 = .ok (.getfield 39, 3) := by decide +kernel
theorem dX5_opens_25 : decode cX5_opens 25 = .ok (.iconst 1, 1) := by decide +kernel
theorem dX5_opens_26 : decode cX5_opens 26 = .ok (.aload_n 0, 1) := by decide +kernel
theorem dX5_opens_27 : decode cX5_opens 27 = .ok (.getfield 36, 3) := by decide +kernel
theorem dX5_opens_30 : decode cX5_opens 30 = .ok (.ishl, 1) := by decide +kernel
theorem dX5_opens_31 : decode cX5_opens 31 = .ok (.iconst (-1), 1) := by decide +kernel
theorem dX5_opens_32 : decode cX5_opens 32 = .ok (.ixor, 1) := by decide +kernel
theorem dX5_opens_33 : decode cX5_opens 33 = .ok (.iand, 1) := by decide +kernel
theorem dX5_opens_34 : decode cX5_opens 34 = .ok (.putfield 39, 3) := by decide +kernel
theorem dX5_opens_37 : decode cX5_opens 37 = .ok (.aload_n 0, 1) := by decide +kernel
theorem dX5_opens_38 : decode cX5_opens 38 = .ok (.sipush 2040, 3) := by decide +kernel
theorem dX5_opens_41 : decode cX5_opens 41 = .ok (.invokevirtual 80, 3) := by decide +kernel
theorem dX5_opens_44 : decode cX5_opens 44 = .ok (.iconst 1, 1) := by decide +kernel
theorem dX5_opens_45 : decode cX5_opens 45 = .ok (.ireturn, 1) := by decide +kernel
def fn_X5_opens (h : aH) (p0 : Nat) : Option (Int32 × aH) :=
  (gI h p0 4 3).bind fun x1 =>
  if x1 = 4 then
    some (0, h)
  else
    (gI h p0 4 3).bind fun x2 =>
    (pI h p0 4 3 (x2 + 1)).bind fun h3 =>
    (gI h3 p0 4 4).bind fun x4 =>
    (gI h3 p0 4 3).bind fun x5 =>
    (pI h3 p0 4 4 (x4 &&& ((1 <<< (x5 &&& 31)) ^^^ (-1)))).bind fun h6 =>
    (ck h6 p0 4).bind fun u7 =>
    (fn_X5_hold h6 p0 2040).bind fun h8 =>
    some (1, h8)
set_option maxRecDepth 20000 in
set_option maxHeartbeats 4000000 in
theorem ev_X5_opens {l : Launch} {g : aG} {d : Nat} (hd : 1 ≤ d) (h : aH) (p0 : Nat) (o : Int32 × aH) (hf : fn_X5_opens h p0 = some o) : EvM l g d yX5_opens cX5_opens 1 (some .boolean) [.ref p0] h (some (.int o.1), o.2) := by
  refine EvM.of mk_X5_opens (Nat.le_of_ble_eq_true rfl) ?_
  intro Γ hl hg hq X
  have hd1 : 1 ≤ d := by omega
  have hk : RqI Γ o := hq
  unfold fn_X5_opens at hf
  show Jd Γ (0, 0) 0 [some (.ref p0)] [] h
  refine r_aload_n (pc := 0) X dX5_opens_0 rfl ?_
  obtain ⟨x1, ex1, hf⟩ := ob hf
  refine r_getI (pc := 1) X dX5_opens_1 fl_X5_36 rfl ex1 ?_
  refine r_iconst (pc := 4) X 4 dX5_opens_4 (by decide) ?_
  refine r_icmp_ne (pc := 5) X 10 dX5_opens_5 (by decide) (fun c9 => ?_) (fun c9 => ?_)
  · rw [if_neg c9] at hf
    refine r_aload_n (pc := 10) X dX5_opens_10 rfl ?_
    refine r_dup (pc := 11) X dX5_opens_11 rfl ?_
    obtain ⟨x2, ex2, hf⟩ := ob hf
    refine r_getI (pc := 12) X dX5_opens_12 fl_X5_36 rfl ex2 ?_
    refine r_iconst (pc := 15) X 1 dX5_opens_15 (by decide) ?_
    refine r_iadd (pc := 16) X dX5_opens_16 ?_
    obtain ⟨h3, eh3, hf⟩ := ob hf
    refine r_putI (pc := 17) X dX5_opens_17 fp_X5_36 rfl eh3 ?_
    refine r_aload_n (pc := 20) X dX5_opens_20 rfl ?_
    refine r_dup (pc := 21) X dX5_opens_21 rfl ?_
    obtain ⟨x4, ex4, hf⟩ := ob hf
    refine r_getI (pc := 22) X dX5_opens_22 fl_X5_39 rfl ex4 ?_
    refine r_iconst (pc := 25) X 1 dX5_opens_25 (by decide) ?_
    refine r_aload_n (pc := 26) X dX5_opens_26 rfl ?_
    obtain ⟨x5, ex5, hf⟩ := ob hf
    refine r_getI (pc := 27) X dX5_opens_27 fl_X5_36 rfl ex5 ?_
    refine r_ishl (pc := 30) X dX5_opens_30 ?_
    refine r_iconst (pc := 31) X (-1) dX5_opens_31 (by decide) ?_
    refine r_ixor (pc := 32) X dX5_opens_32 ?_
    refine r_iand (pc := 33) X dX5_opens_33 ?_
    obtain ⟨h6, eh6, hf⟩ := ob hf
    refine r_putI (pc := 34) X dX5_opens_34 fp_X5_39 rfl eh6 ?_
    refine r_aload_n (pc := 37) X dX5_opens_37 rfl ?_
    refine r_sipush (pc := 38) X 2040 dX5_opens_38 (by decide) ?_
    obtain ⟨u7, eu7, hf⟩ := ob hf
    obtain ⟨h8, eh8, hf⟩ := ob hf
    refine r_callVV (pc := 41) X [.int 2040] dX5_opens_41 ml_X5_80 vo_X5_hold ⟨Nat.le_refl _, Nat.le_refl _⟩ eu7 (ev_X5_hold (d := d - 1) (by omega) _ _ _ _ eh8) hd1 rfl (Nat.le_of_ble_eq_true rfl) rfl ?_
    refine r_iconst (pc := 44) X 1 dX5_opens_44 (by decide) ?_
    obtain rfl := Option.some.inj hf
    exact r_zret (pc := 45) X dX5_opens_45 (Or.inr rfl) hk
  · rw [if_pos c9] at hf
    refine r_iconst (pc := 8) X 0 dX5_opens_8 (by decide) ?_
    obtain rfl := Option.some.inj hf
    exact r_zret (pc := 9) X dX5_opens_9 (Or.inl rfl) hk

theorem dX5_thingOf_0 : decode cX5_thingOf 0 = .ok (.iload_n 0, 1) := by decide +kernel
theorem dX5_thingOf_1 : decode cX5_thingOf 1 = .ok (.tableswitch 110 97 116 #[95, 97, 110, 110, 110, 110, 110, 110, 110, 110, 101, 110, 99, 107, 110, 110, 110, 110, 103, 105], 95) := by decide +kernel
theorem dX5_thingOf_96 : decode cX5_thingOf 96 = .ok (.iconst 0, 1) := by decide +kernel
theorem dX5_thingOf_97 : decode cX5_thingOf 97 = .ok (.ireturn, 1) := by decide +kernel
theorem dX5_thingOf_98 : decode cX5_thingOf 98 = .ok (.iconst 1, 1) := by decide +kernel
theorem dX5_thingOf_99 : decode cX5_thingOf 99 = .ok (.ireturn, 1) := by decide +kernel
theorem dX5_thingOf_100 : decode cX5_thingOf 100 = .ok (.iconst 2, 1) := by decide +kernel
theorem dX5_thingOf_101 : decode cX5_thingOf 101 = .ok (.ireturn, 1) := by decide +kernel
theorem dX5_thingOf_102 : decode cX5_thingOf 102 = .ok (.iconst 3, 1) := by decide +kernel
theorem dX5_thingOf_103 : decode cX5_thingOf 103 = .ok (.ireturn, 1) := by decide +kernel
theorem dX5_thingOf_104 : decode cX5_thingOf 104 = .ok (.iconst 4, 1) := by decide +kernel
theorem dX5_thingOf_105 : decode cX5_thingOf 105 = .ok (.ireturn, 1) := by decide +kernel
theorem dX5_thingOf_106 : decode cX5_thingOf 106 = .ok (.iconst 5, 1) := by decide +kernel
theorem dX5_thingOf_107 : decode cX5_thingOf 107 = .ok (.ireturn, 1) := by decide +kernel
theorem dX5_thingOf_108 : decode cX5_thingOf 108 = .ok (.bipush 6, 2) := by decide +kernel
theorem dX5_thingOf_110 : decode cX5_thingOf 110 = .ok (.ireturn, 1) := by decide +kernel
theorem dX5_thingOf_111 : decode cX5_thingOf 111 = .ok (.iconst (-1), 1) := by decide +kernel
theorem dX5_thingOf_112 : decode cX5_thingOf 112 = .ok (.ireturn, 1) := by decide +kernel
def fn_X5_thingOf (h : aH) (p0 : Int32) : Option (Int32) :=
  if p0 = 97 then
    some 0
  else
  if p0 = 98 then
    some 1
  else
  if p0 = 99 then
    some (-1)
  else
  if p0 = 100 then
    some (-1)
  else
  if p0 = 101 then
    some (-1)
  else
  if p0 = 102 then
    some (-1)
  else
  if p0 = 103 then
    some (-1)
  else
  if p0 = 104 then
    some (-1)
  else
  if p0 = 105 then
    some (-1)
  else
  if p0 = 106 then
    some (-1)
  else
  if p0 = 107 then
    some 3
  else
  if p0 = 108 then
    some (-1)
  else
  if p0 = 109 then
    some 2
  else
  if p0 = 110 then
    some 6
  else
  if p0 = 111 then
    some (-1)
  else
  if p0 = 112 then
    some (-1)
  else
  if p0 = 113 then
    some (-1)
  else
  if p0 = 114 then
    some (-1)
  else
  if p0 = 115 then
    some 4
  else
  if p0 = 116 then
    some 5
  else
  some (-1)
set_option maxRecDepth 20000 in
set_option maxHeartbeats 4000000 in
theorem ev_X5_thingOf {l : Launch} {g : aG} {d : Nat} (hd : 0 ≤ d) (h : aH) (p0 : Int32) (o : Int32) (hf : fn_X5_thingOf h p0 = some o) : EvM l g d yX5_thingOf cX5_thingOf 1 (some .int) [.int p0] h (some (.int o), h) := by
  refine EvM.of mk_X5_thingOf (Nat.le_of_ble_eq_true rfl) ?_
  intro Γ hl hg hq X
  have hd1 : 0 ≤ d := by omega
  have hk : RpI h Γ o := hq
  unfold fn_X5_thingOf at hf
  show Jd Γ (0, 0) 0 [some (.int p0)] [] h
  refine r_iload_n (pc := 0) X dX5_thingOf_0 rfl ?_
  by_cases c1 : p0 = 97
  · rw [if_pos c1] at hf
    refine r_tableIn (pc := 1) X 96 dX5_thingOf_1 (by rw [c1] <;> decide) (by rw [c1] <;> decide) (by rw [c1] <;> rfl) (by decide) ?_
    refine r_iconst (pc := 96) X 0 dX5_thingOf_96 (by decide) ?_
    obtain rfl := Option.some.inj hf
    exact r_iret (pc := 97) X dX5_thingOf_97 hk
  rw [if_neg c1] at hf
  by_cases c2 : p0 = 98
  · rw [if_pos c2] at hf
    refine r_tableIn (pc := 1) X 98 dX5_thingOf_1 (by rw [c2] <;> decide) (by rw [c2] <;> decide) (by rw [c2] <;> rfl) (by decide) ?_
    refine r_iconst (pc := 98) X 1 dX5_thingOf_98 (by decide) ?_
    obtain rfl := Option.some.inj hf
    exact r_iret (pc := 99) X dX5_thingOf_99 hk
  rw [if_neg c2] at hf
  by_cases c3 : p0 = 99
  · rw [if_pos c3] at hf
    refine r_tableIn (pc := 1) X 111 dX5_thingOf_1 (by rw [c3] <;> decide) (by rw [c3] <;> decide) (by rw [c3] <;> rfl) (by decide) ?_
    refine r_iconst (pc := 111) X (-1) dX5_thingOf_111 (by decide) ?_
    obtain rfl := Option.some.inj hf
    exact r_iret (pc := 112) X dX5_thingOf_112 hk
  rw [if_neg c3] at hf
  by_cases c4 : p0 = 100
  · rw [if_pos c4] at hf
    refine r_tableIn (pc := 1) X 111 dX5_thingOf_1 (by rw [c4] <;> decide) (by rw [c4] <;> decide) (by rw [c4] <;> rfl) (by decide) ?_
    refine r_iconst (pc := 111) X (-1) dX5_thingOf_111 (by decide) ?_
    obtain rfl := Option.some.inj hf
    exact r_iret (pc := 112) X dX5_thingOf_112 hk
  rw [if_neg c4] at hf
  by_cases c5 : p0 = 101
  · rw [if_pos c5] at hf
    refine r_tableIn (pc := 1) X 111 dX5_thingOf_1 (by rw [c5] <;> decide) (by rw [c5] <;> decide) (by rw [c5] <;> rfl) (by decide) ?_
    refine r_iconst (pc := 111) X (-1) dX5_thingOf_111 (by decide) ?_
    obtain rfl := Option.some.inj hf
    exact r_iret (pc := 112) X dX5_thingOf_112 hk
  rw [if_neg c5] at hf
  by_cases c6 : p0 = 102
  · rw [if_pos c6] at hf
    refine r_tableIn (pc := 1) X 111 dX5_thingOf_1 (by rw [c6] <;> decide) (by rw [c6] <;> decide) (by rw [c6] <;> rfl) (by decide) ?_
    refine r_iconst (pc := 111) X (-1) dX5_thingOf_111 (by decide) ?_
    obtain rfl := Option.some.inj hf
    exact r_iret (pc := 112) X dX5_thingOf_112 hk
  rw [if_neg c6] at hf
  by_cases c7 : p0 = 103
  · rw [if_pos c7] at hf
    refine r_tableIn (pc := 1) X 111 dX5_thingOf_1 (by rw [c7] <;> decide) (by rw [c7] <;> decide) (by rw [c7] <;> rfl) (by decide) ?_
    refine r_iconst (pc := 111) X (-1) dX5_thingOf_111 (by decide) ?_
    obtain rfl := Option.some.inj hf
    exact r_iret (pc := 112) X dX5_thingOf_112 hk
  rw [if_neg c7] at hf
  by_cases c8 : p0 = 104
  · rw [if_pos c8] at hf
    refine r_tableIn (pc := 1) X 111 dX5_thingOf_1 (by rw [c8] <;> decide) (by rw [c8] <;> decide) (by rw [c8] <;> rfl) (by decide) ?_
    refine r_iconst (pc := 111) X (-1) dX5_thingOf_111 (by decide) ?_
    obtain rfl := Option.some.inj hf
    exact r_iret (pc := 112) X dX5_thingOf_112 hk
  rw [if_neg c8] at hf
  by_cases c9 : p0 = 105
  · rw [if_pos c9] at hf
    refine r_tableIn (pc := 1) X 111 dX5_thingOf_1 (by rw [c9] <;> decide) (by rw [c9] <;> decide) (by rw [c9] <;> rfl) (by decide) ?_
    refine r_iconst (pc := 111) X (-1) dX5_thingOf_111 (by decide) ?_
    obtain rfl := Option.some.inj hf
    exact r_iret (pc := 112) X dX5_thingOf_112 hk
  rw [if_neg c9] at hf
  by_cases c10 : p0 = 106
  · rw [if_pos c10] at hf
    refine r_tableIn (pc := 1) X 111 dX5_thingOf_1 (by rw [c10] <;> decide) (by rw [c10] <;> decide) (by rw [c10] <;> rfl) (by decide) ?_
    refine r_iconst (pc := 111) X (-1) dX5_thingOf_111 (by decide) ?_
    obtain rfl := Option.some.inj hf
    exact r_iret (pc := 112) X dX5_thingOf_112 hk
  rw [if_neg c10] at hf
  by_cases c11 : p0 = 107
  · rw [if_pos c11] at hf
    refine r_tableIn (pc := 1) X 102 dX5_thingOf_1 (by rw [c11] <;> decide) (by rw [c11] <;> decide) (by rw [c11] <;> rfl) (by decide) ?_
    refine r_iconst (pc := 102) X 3 dX5_thingOf_102 (by decide) ?_
    obtain rfl := Option.some.inj hf
    exact r_iret (pc := 103) X dX5_thingOf_103 hk
  rw [if_neg c11] at hf
  by_cases c12 : p0 = 108
  · rw [if_pos c12] at hf
    refine r_tableIn (pc := 1) X 111 dX5_thingOf_1 (by rw [c12] <;> decide) (by rw [c12] <;> decide) (by rw [c12] <;> rfl) (by decide) ?_
    refine r_iconst (pc := 111) X (-1) dX5_thingOf_111 (by decide) ?_
    obtain rfl := Option.some.inj hf
    exact r_iret (pc := 112) X dX5_thingOf_112 hk
  rw [if_neg c12] at hf
  by_cases c13 : p0 = 109
  · rw [if_pos c13] at hf
    refine r_tableIn (pc := 1) X 100 dX5_thingOf_1 (by rw [c13] <;> decide) (by rw [c13] <;> decide) (by rw [c13] <;> rfl) (by decide) ?_
    refine r_iconst (pc := 100) X 2 dX5_thingOf_100 (by decide) ?_
    obtain rfl := Option.some.inj hf
    exact r_iret (pc := 101) X dX5_thingOf_101 hk
  rw [if_neg c13] at hf
  by_cases c14 : p0 = 110
  · rw [if_pos c14] at hf
    refine r_tableIn (pc := 1) X 108 dX5_thingOf_1 (by rw [c14] <;> decide) (by rw [c14] <;> decide) (by rw [c14] <;> rfl) (by decide) ?_
    refine r_bipush (pc := 108) X 6 dX5_thingOf_108 (by decide) ?_
    obtain rfl := Option.some.inj hf
    exact r_iret (pc := 110) X dX5_thingOf_110 hk
  rw [if_neg c14] at hf
  by_cases c15 : p0 = 111
  · rw [if_pos c15] at hf
    refine r_tableIn (pc := 1) X 111 dX5_thingOf_1 (by rw [c15] <;> decide) (by rw [c15] <;> decide) (by rw [c15] <;> rfl) (by decide) ?_
    refine r_iconst (pc := 111) X (-1) dX5_thingOf_111 (by decide) ?_
    obtain rfl := Option.some.inj hf
    exact r_iret (pc := 112) X dX5_thingOf_112 hk
  rw [if_neg c15] at hf
  by_cases c16 : p0 = 112
  · rw [if_pos c16] at hf
    refine r_tableIn (pc := 1) X 111 dX5_thingOf_1 (by rw [c16] <;> decide) (by rw [c16] <;> decide) (by rw [c16] <;> rfl) (by decide) ?_
    refine r_iconst (pc := 111) X (-1) dX5_thingOf_111 (by decide) ?_
    obtain rfl := Option.some.inj hf
    exact r_iret (pc := 112) X dX5_thingOf_112 hk
  rw [if_neg c16] at hf
  by_cases c17 : p0 = 113
  · rw [if_pos c17] at hf
    refine r_tableIn (pc := 1) X 111 dX5_thingOf_1 (by rw [c17] <;> decide) (by rw [c17] <;> decide) (by rw [c17] <;> rfl) (by decide) ?_
    refine r_iconst (pc := 111) X (-1) dX5_thingOf_111 (by decide) ?_
    obtain rfl := Option.some.inj hf
    exact r_iret (pc := 112) X dX5_thingOf_112 hk
  rw [if_neg c17] at hf
  by_cases c18 : p0 = 114
  · rw [if_pos c18] at hf
    refine r_tableIn (pc := 1) X 111 dX5_thingOf_1 (by rw [c18] <;> decide) (by rw [c18] <;> decide) (by rw [c18] <;> rfl) (by decide) ?_
    refine r_iconst (pc := 111) X (-1) dX5_thingOf_111 (by decide) ?_
    obtain rfl := Option.some.inj hf
    exact r_iret (pc := 112) X dX5_thingOf_112 hk
  rw [if_neg c18] at hf
  by_cases c19 : p0 = 115
  · rw [if_pos c19] at hf
    refine r_tableIn (pc := 1) X 104 dX5_thingOf_1 (by rw [c19] <;> decide) (by rw [c19] <;> decide) (by rw [c19] <;> rfl) (by decide) ?_
    refine r_iconst (pc := 104) X 4 dX5_thingOf_104 (by decide) ?_
    obtain rfl := Option.some.inj hf
    exact r_iret (pc := 105) X dX5_thingOf_105 hk
  rw [if_neg c19] at hf
  by_cases c20 : p0 = 116
  · rw [if_pos c20] at hf
    refine r_tableIn (pc := 1) X 106 dX5_thingOf_1 (by rw [c20] <;> decide) (by rw [c20] <;> decide) (by rw [c20] <;> rfl) (by decide) ?_
    refine r_iconst (pc := 106) X 5 dX5_thingOf_106 (by decide) ?_
    obtain rfl := Option.some.inj hf
    exact r_iret (pc := 107) X dX5_thingOf_107 hk
  rw [if_neg c20] at hf
  have nc1 := lv_neT c1 (show (97 : Int32).toInt = 97 from by decide)
  have nc2 := lv_neT c2 (show (98 : Int32).toInt = 98 from by decide)
  have nc3 := lv_neT c3 (show (99 : Int32).toInt = 99 from by decide)
  have nc4 := lv_neT c4 (show (100 : Int32).toInt = 100 from by decide)
  have nc5 := lv_neT c5 (show (101 : Int32).toInt = 101 from by decide)
  have nc6 := lv_neT c6 (show (102 : Int32).toInt = 102 from by decide)
  have nc7 := lv_neT c7 (show (103 : Int32).toInt = 103 from by decide)
  have nc8 := lv_neT c8 (show (104 : Int32).toInt = 104 from by decide)
  have nc9 := lv_neT c9 (show (105 : Int32).toInt = 105 from by decide)
  have nc10 := lv_neT c10 (show (106 : Int32).toInt = 106 from by decide)
  have nc11 := lv_neT c11 (show (107 : Int32).toInt = 107 from by decide)
  have nc12 := lv_neT c12 (show (108 : Int32).toInt = 108 from by decide)
  have nc13 := lv_neT c13 (show (109 : Int32).toInt = 109 from by decide)
  have nc14 := lv_neT c14 (show (110 : Int32).toInt = 110 from by decide)
  have nc15 := lv_neT c15 (show (111 : Int32).toInt = 111 from by decide)
  have nc16 := lv_neT c16 (show (112 : Int32).toInt = 112 from by decide)
  have nc17 := lv_neT c17 (show (113 : Int32).toInt = 113 from by decide)
  have nc18 := lv_neT c18 (show (114 : Int32).toInt = 114 from by decide)
  have nc19 := lv_neT c19 (show (115 : Int32).toInt = 115 from by decide)
  have nc20 := lv_neT c20 (show (116 : Int32).toInt = 116 from by decide)
  refine r_tableOut (pc := 1) X 111 dX5_thingOf_1 (by omega) (by decide) ?_
  refine r_iconst (pc := 111) X (-1) dX5_thingOf_111 (by decide) ?_
  obtain rfl := Option.some.inj hf
  exact r_iret (pc := 112) X dX5_thingOf_112 hk

theorem dX5_standsAheadOfThing_0 : decode cX5_standsAheadOfThing 0 = .ok (.iload_n 2, 1) := by decide +kernel
theorem dX5_standsAheadOfThing_1 : decode cX5_standsAheadOfThing 1 = .ok (.bipush 45, 2) := by decide +kernel
theorem dX5_standsAheadOfThing_3 : decode cX5_standsAheadOfThing 3 = .ok (.if_icmp .ne 12, 3) := by decide +kernel
theorem dX5_standsAheadOfThing_6 : decode cX5_standsAheadOfThing 6 = .ok (.aload_n 0, 1) := by decide +kernel
theorem dX5_standsAheadOfThing_7 : decode cX5_standsAheadOfThing 7 = .ok (.sipush 3000, 3) := by decide +kernel
theorem dX5_standsAheadOfThing_10 : decode cX5_standsAheadOfThing 10 = .ok (.invokevirtual 80, 3) := by decide +kernel
theorem dX5_standsAheadOfThing_13 : decode cX5_standsAheadOfThing 13 = .ok (.iconst 1, 1) := by decide +kernel
theorem dX5_standsAheadOfThing_14 : decode cX5_standsAheadOfThing 14 = .ok (.ireturn, 1) := by decide +kernel
theorem dX5_standsAheadOfThing_15 : decode cX5_standsAheadOfThing 15 = .ok (.iload_n 2, 1) := by decide +kernel
theorem dX5_standsAheadOfThing_16 : decode cX5_standsAheadOfThing 16 = .ok (.bipush 40, 2) := by decide +kernel
theorem dX5_standsAheadOfThing_18 : decode cX5_standsAheadOfThing 18 = .ok (.if_icmp .ne 8, 3) := by decide +kernel
theorem dX5_standsAheadOfThing_21 : decode cX5_standsAheadOfThing 21 = .ok (.aload_n 0, 1) := by decide +kernel
theorem dX5_standsAheadOfThing_22 : decode cX5_standsAheadOfThing 22 = .ok (.invokevirtual 83, 3) := by decide +kernel
theorem dX5_standsAheadOfThing_25 : decode cX5_standsAheadOfThing 25 = .ok (.ireturn, 1) := by decide +kernel
theorem dX5_standsAheadOfThing_26 : decode cX5_standsAheadOfThing 26 = .ok (.iload_n 2, 1) := by decide +kernel
theorem dX5_standsAheadOfThing_27 : decode cX5_standsAheadOfThing 27 = .ok (.invokestatic 87, 3) := by decide +kernel
theorem dX5_standsAheadOfThing_30 : decode cX5_standsAheadOfThing 30 = .ok (.istore_n 3, 1) := by decide +kernel
theorem dX5_standsAheadOfThing_31 : decode cX5_standsAheadOfThing 31 = .ok (.iload_n 3, 1) := by decide +kernel
theorem dX5_standsAheadOfThing_32 : decode cX5_standsAheadOfThing 32 = .ok (.iconst (-1), 1) := by decide +kernel
theorem dX5_standsAheadOfThing_33 : decode cX5_standsAheadOfThing 33 = .ok (.if_icmp .ne 5, 3) := by decide +kernel
theorem dX5_standsAheadOfThing_36 : decode cX5_standsAheadOfThing 36 = .ok (.iconst 0, 1) := by decide +kernel
theorem dX5_standsAheadOfThing_37 : decode cX5_standsAheadOfThing 37 = .ok (.ireturn, 1) := by decide +kernel
theorem dX5_standsAheadOfThing_38 : decode cX5_standsAheadOfThing 38 = .ok (.aload_n 1, 1) := by decide +kernel
theorem dX5_standsAheadOfThing_39 : decode cX5_standsAheadOfThing 39 = .ok (.sipush 1000, 3) := by decide +kernel
theorem dX5_standsAheadOfThing_42 : decode cX5_standsAheadOfThing 42 = .ok (.iload_n 3, 1) := by decide +kernel
theorem dX5_standsAheadOfThing_43 : decode cX5_standsAheadOfThing 43 = .ok (.iadd, 1) := by decide +kernel
theorem dX5_standsAheadOfThing_44 : decode cX5_standsAheadOfThing 44 = .ok (.invokevirtual 73, 3) := by decide +kernel
theorem dX5_standsAheadOfThing_47 : decode cX5_standsAheadOfThing 47 = .ok (.aload_n 0, 1) := by decide +kernel
theorem dX5_standsAheadOfThing_48 : decode cX5_standsAheadOfThing 48 = .ok (.iconst 0, 1) := by decide +kernel
theorem dX5_standsAheadOfThing_49 : decode cX5_standsAheadOfThing 49 = .ok (.putfield 45, 3) := by decide +kernel
theorem dX5_standsAheadOfThing_52 : decode cX5_standsAheadOfThing 52 = .ok (.iconst 1, 1) := by decide +kernel
theorem dX5_standsAheadOfThing_53 : decode cX5_standsAheadOfThing 53 = .ok (.ireturn, 1) := by decide +kernel
def fn_X5_standsAheadOfThing (h : aH) (p0 : Nat) (p1 : Nat) (p2 : Int32) : Option (Int32 × aH) :=
  if p2 = 45 then
    (ck h p0 4).bind fun u10 =>
    (fn_X5_hold h p0 3000).bind fun h11 =>
    some (1, h11)
  else
    if p2 = 40 then
      (ck h p0 4).bind fun u6 =>
      (fn_X5_opens h p0).bind fun o7 =>
      (bz o7.1).bind fun x8 =>
      some (x8, o7.2)
    else
      (fn_X5_thingOf h p2).bind fun x1 =>
      if x1 = (-1) then
        some (0, h)
      else
        (ck h p1 3).bind fun u2 =>
        (fn_X4_add h p1 (1000 + x1)).bind fun h3 =>
        (pZ h3 p0 4 7 0).bind fun h4 =>
        some (1, h4)
set_option maxRecDepth 20000 in
set_option maxHeartbeats 4000000 in
theorem ev_X5_standsAheadOfThing {l : Launch} {g : aG} {d : Nat} (hd : 2 ≤ d) (h : aH) (p0 : Nat) (p1 : Nat) (p2 : Int32) (o : Int32 × aH) (hf : fn_X5_standsAheadOfThing h p0 p1 p2 = some o) : EvM l g d yX5_standsAheadOfThing cX5_standsAheadOfThing 4 (some .boolean) [.ref p0, .ref p1, .int p2] h (some (.int o.1), o.2) := by
  refine EvM.of mk_X5_standsAheadOfThing (Nat.le_of_ble_eq_true rfl) ?_
  intro Γ hl hg hq X
  have hd1 : 1 ≤ d := by omega
  have hk : RqI Γ o := hq
  unfold fn_X5_standsAheadOfThing at hf
  show Jd Γ (0, 0) 0 [some (.ref p0), some (.ref p1), some (.int p2), none] [] h
  refine r_iload_n (pc := 0) X dX5_standsAheadOfThing_0 rfl ?_
  refine r_bipush (pc := 1) X 45 dX5_standsAheadOfThing_1 (by decide) ?_
  refine r_icmp_ne (pc := 3) X 15 dX5_standsAheadOfThing_3 (by decide) (fun c12 => ?_) (fun c12 => ?_)
  · rw [if_neg c12] at hf
    refine r_iload_n (pc := 15) X dX5_standsAheadOfThing_15 rfl ?_
    refine r_bipush (pc := 16) X 40 dX5_standsAheadOfThing_16 (by decide) ?_
    refine r_icmp_ne (pc := 18) X 26 dX5_standsAheadOfThing_18 (by decide) (fun c9 => ?_) (fun c9 => ?_)
    · rw [if_neg c9] at hf
      refine r_iload_n (pc := 26) X dX5_standsAheadOfThing_26 rfl ?_
      obtain ⟨x1, ex1, hf⟩ := ob hf
      refine r_callSI (pc := 27) X [.int p2] dX5_standsAheadOfThing_27 ml_X5_87 so_X5_thingOf ⟨Nat.le_refl _, Nat.le_refl _⟩ (ev_X5_thingOf (d := d - 1) (by omega) _ _ _ ex1) hd1 rfl (Nat.le_of_ble_eq_true rfl) rfl ?_
      refine r_istore_n (pc := 30) X [some (.ref p0), some (.ref p1), some (.int p2), some (.int x1)] dX5_standsAheadOfThing_30 (by decide) rfl ?_
      refine r_iload_n (pc := 31) X dX5_standsAheadOfThing_31 rfl ?_
      refine r_iconst (pc := 32) X (-1) dX5_standsAheadOfThing_32 (by decide) ?_
      refine r_icmp_ne (pc := 33) X 38 dX5_standsAheadOfThing_33 (by decide) (fun c5 => ?_) (fun c5 => ?_)
      · rw [if_neg c5] at hf
        refine r_aload_n (pc := 38) X dX5_standsAheadOfThing_38 rfl ?_
        refine r_sipush (pc := 39) X 1000 dX5_standsAheadOfThing_39 (by decide) ?_
        refine r_iload_n (pc := 42) X dX5_standsAheadOfThing_42 rfl ?_
        refine r_iadd (pc := 43) X dX5_standsAheadOfThing_43 ?_
        obtain ⟨u2, eu2, hf⟩ := ob hf
        obtain ⟨h3, eh3, hf⟩ := ob hf
        refine r_callVV (pc := 44) X [.int (1000 + x1)] dX5_standsAheadOfThing_44 ml_X5_73 vo_X4_add ⟨Nat.le_refl _, Nat.le_refl _⟩ eu2 (ev_X4_add (d := d - 1) (by omega) _ _ _ _ eh3) hd1 rfl (Nat.le_of_ble_eq_true rfl) rfl ?_
        refine r_aload_n (pc := 47) X dX5_standsAheadOfThing_47 rfl ?_
        refine r_iconst (pc := 48) X 0 dX5_standsAheadOfThing_48 (by decide) ?_
        obtain ⟨h4, eh4, hf⟩ := ob hf
        refine r_putZ (pc := 49) X dX5_standsAheadOfThing_49 fp_X5_45 rfl eh4 ?_
        refine r_iconst (pc := 52) X 1 dX5_standsAheadOfThing_52 (by decide) ?_
        obtain rfl := Option.some.inj hf
        exact r_zret (pc := 53) X dX5_standsAheadOfThing_53 (Or.inr rfl) hk
      · rw [if_pos c5] at hf
        refine r_iconst (pc := 36) X 0 dX5_standsAheadOfThing_36 (by decide) ?_
        obtain rfl := Option.some.inj hf
        exact r_zret (pc := 37) X dX5_standsAheadOfThing_37 (Or.inl rfl) hk
    · rw [if_pos c9] at hf
      refine r_aload_n (pc := 21) X dX5_standsAheadOfThing_21 rfl ?_
      obtain ⟨u6, eu6, hf⟩ := ob hf
      obtain ⟨o7, eo7, hf⟩ := ob hf
      refine r_callVI (pc := 22) X [] dX5_standsAheadOfThing_22 ml_X5_83 vo_X5_opens ⟨Nat.le_refl _, Nat.le_refl _⟩ eu6 (ev_X5_opens (d := d - 1) (by omega) _ _ _ eo7) hd1 rfl (Nat.le_of_ble_eq_true rfl) rfl ?_
      obtain ⟨x8, ex8, hf⟩ := ob hf
      obtain rfl := Option.some.inj hf
      exact r_zretB (pc := 25) X dX5_standsAheadOfThing_25 ex8 hk
  · rw [if_pos c12] at hf
    refine r_aload_n (pc := 6) X dX5_standsAheadOfThing_6 rfl ?_
    refine r_sipush (pc := 7) X 3000 dX5_standsAheadOfThing_7 (by decide) ?_
    obtain ⟨u10, eu10, hf⟩ := ob hf
    obtain ⟨h11, eh11, hf⟩ := ob hf
    refine r_callVV (pc := 10) X [.int 3000] dX5_standsAheadOfThing_10 ml_X5_80 vo_X5_hold ⟨Nat.le_refl _, Nat.le_refl _⟩ eu10 (ev_X5_hold (d := d - 1) (by omega) _ _ _ _ eh11) hd1 rfl (Nat.le_of_ble_eq_true rfl) rfl ?_
    refine r_iconst (pc := 13) X 1 dX5_standsAheadOfThing_13 (by decide) ?_
    obtain rfl := Option.some.inj hf
    exact r_zret (pc := 14) X dX5_standsAheadOfThing_14 (Or.inr rfl) hk

theorem dX5_bindingOf_0 : decode cX5_bindingOf 0 = .ok (.iload_n 0, 1) := by decide +kernel
theorem dX5_bindingOf_1 : decode cX5_bindingOf 1 = .ok (.lookupswitch 83 #[(2042, 77), (2043, 79), (2045, 79), (2047, 77), (2060, 81), (2061, 81), (2062, 81), (3000, 75)], 75) := by decide +kernel
theorem dX5_bindingOf_76 : decode cX5_bindingOf 76 = .ok (.iconst 4, 1) := by decide +kernel
theorem dX5_bindingOf_77 : decode cX5_bindingOf 77 = .ok (.ireturn, 1) := by decide +kernel
theorem dX5_bindingOf_78 : decode cX5_bindingOf 78 = .ok (.iconst 3, 1) := by decide +kernel
theorem dX5_bindingOf_79 : decode cX5_bindingOf 79 = .ok (.ireturn, 1) := by decide +kernel
theorem dX5_bindingOf_80 : decode cX5_bindingOf 80 = .ok (.iconst 2, 1) := by decide +kernel
theorem dX5_bindingOf_81 : decode cX5_bindingOf 81 = .ok (.ireturn, 1) := by decide +kernel
theorem dX5_bindingOf_82 : decode cX5_bindingOf 82 = .ok (.iconst 1, 1) := by decide +kernel
theorem dX5_bindingOf_83 : decode cX5_bindingOf 83 = .ok (.ireturn, 1) := by decide +kernel
theorem dX5_bindingOf_84 : decode cX5_bindingOf 84 = .ok (.iconst 0, 1) := by decide +kernel
theorem dX5_bindingOf_85 : decode cX5_bindingOf 85 = .ok (.ireturn, 1) := by decide +kernel
def fn_X5_bindingOf (h : aH) (p0 : Int32) : Option (Int32) :=
  if p0 = 2042 then
    some 3
  else
  if p0 = 2043 then
    some 2
  else
  if p0 = 2045 then
    some 2
  else
  if p0 = 2047 then
    some 3
  else
  if p0 = 2060 then
    some 1
  else
  if p0 = 2061 then
    some 1
  else
  if p0 = 2062 then
    some 1
  else
  if p0 = 3000 then
    some 4
  else
  some 0
set_option maxRecDepth 20000 in
set_option maxHeartbeats 4000000 in
theorem ev_X5_bindingOf {l : Launch} {g : aG} {d : Nat} (hd : 0 ≤ d) (h : aH) (p0 : Int32) (o : Int32) (hf : fn_X5_bindingOf h p0 = some o) : EvM l g d yX5_bindingOf cX5_bindingOf 1 (some .int) [.int p0] h (some (.int o), h) := by
  refine EvM.of mk_X5_bindingOf (Nat.le_of_ble_eq_true rfl) ?_
  intro Γ hl hg hq X
  have hd1 : 0 ≤ d := by omega
  have hk : RpI h Γ o := hq
  unfold fn_X5_bindingOf at hf
  show Jd Γ (0, 0) 0 [some (.int p0)] [] h
  refine r_iload_n (pc := 0) X dX5_bindingOf_0 rfl ?_
  by_cases c1 : p0 = 2042
  · rw [if_pos c1] at hf
    refine r_lookup (pc := 1) X 78 dX5_bindingOf_1 (by decide) (by rw [c1] <;> rfl) (by decide) ?_
    refine r_iconst (pc := 78) X 3 dX5_bindingOf_78 (by decide) ?_
    obtain rfl := Option.some.inj hf
    exact r_iret (pc := 79) X dX5_bindingOf_79 hk
  rw [if_neg c1] at hf
  by_cases c2 : p0 = 2043
  · rw [if_pos c2] at hf
    refine r_lookup (pc := 1) X 80 dX5_bindingOf_1 (by decide) (by rw [c2] <;> rfl) (by decide) ?_
    refine r_iconst (pc := 80) X 2 dX5_bindingOf_80 (by decide) ?_
    obtain rfl := Option.some.inj hf
    exact r_iret (pc := 81) X dX5_bindingOf_81 hk
  rw [if_neg c2] at hf
  by_cases c3 : p0 = 2045
  · rw [if_pos c3] at hf
    refine r_lookup (pc := 1) X 80 dX5_bindingOf_1 (by decide) (by rw [c3] <;> rfl) (by decide) ?_
    refine r_iconst (pc := 80) X 2 dX5_bindingOf_80 (by decide) ?_
    obtain rfl := Option.some.inj hf
    exact r_iret (pc := 81) X dX5_bindingOf_81 hk
  rw [if_neg c3] at hf
  by_cases c4 : p0 = 2047
  · rw [if_pos c4] at hf
    refine r_lookup (pc := 1) X 78 dX5_bindingOf_1 (by decide) (by rw [c4] <;> rfl) (by decide) ?_
    refine r_iconst (pc := 78) X 3 dX5_bindingOf_78 (by decide) ?_
    obtain rfl := Option.some.inj hf
    exact r_iret (pc := 79) X dX5_bindingOf_79 hk
  rw [if_neg c4] at hf
  by_cases c5 : p0 = 2060
  · rw [if_pos c5] at hf
    refine r_lookup (pc := 1) X 82 dX5_bindingOf_1 (by decide) (by rw [c5] <;> rfl) (by decide) ?_
    refine r_iconst (pc := 82) X 1 dX5_bindingOf_82 (by decide) ?_
    obtain rfl := Option.some.inj hf
    exact r_iret (pc := 83) X dX5_bindingOf_83 hk
  rw [if_neg c5] at hf
  by_cases c6 : p0 = 2061
  · rw [if_pos c6] at hf
    refine r_lookup (pc := 1) X 82 dX5_bindingOf_1 (by decide) (by rw [c6] <;> rfl) (by decide) ?_
    refine r_iconst (pc := 82) X 1 dX5_bindingOf_82 (by decide) ?_
    obtain rfl := Option.some.inj hf
    exact r_iret (pc := 83) X dX5_bindingOf_83 hk
  rw [if_neg c6] at hf
  by_cases c7 : p0 = 2062
  · rw [if_pos c7] at hf
    refine r_lookup (pc := 1) X 82 dX5_bindingOf_1 (by decide) (by rw [c7] <;> rfl) (by decide) ?_
    refine r_iconst (pc := 82) X 1 dX5_bindingOf_82 (by decide) ?_
    obtain rfl := Option.some.inj hf
    exact r_iret (pc := 83) X dX5_bindingOf_83 hk
  rw [if_neg c7] at hf
  by_cases c8 : p0 = 3000
  · rw [if_pos c8] at hf
    refine r_lookup (pc := 1) X 76 dX5_bindingOf_1 (by decide) (by rw [c8] <;> rfl) (by decide) ?_
    refine r_iconst (pc := 76) X 4 dX5_bindingOf_76 (by decide) ?_
    obtain rfl := Option.some.inj hf
    exact r_iret (pc := 77) X dX5_bindingOf_77 hk
  rw [if_neg c8] at hf
  refine r_lookup (off := (83 : Int)) (pc := 1) X 84 dX5_bindingOf_1 (by decide) ((lv_osw c1 (by decide)).trans ((lv_osw c2 (by decide)).trans ((lv_osw c3 (by decide)).trans ((lv_osw c4 (by decide)).trans ((lv_osw c5 (by decide)).trans ((lv_osw c6 (by decide)).trans ((lv_osw c7 (by decide)).trans ((lv_osw c8 (by decide)).trans rfl)))))))) (by decide) ?_
  refine r_iconst (pc := 84) X 0 dX5_bindingOf_84 (by decide) ?_
  obtain rfl := Option.some.inj hf
  exact r_iret (pc := 85) X dX5_bindingOf_85 hk

theorem dX5_settle_0 : decode cX5_settle 0 = .ok (.aload_n 0, 1) := by decide +kernel
theorem dX5_settle_1 : decode cX5_settle 1 = .ok (.getfield 33, 3) := by decide +kernel
theorem dX5_settle_4 : decode cX5_settle 4 = .ok (.ifCond .le 47, 3) := by decide +kernel
theorem dX5_settle_7 : decode cX5_settle 7 = .ok (.aload_n 0, 1) := by decide +kernel
theorem dX5_settle_8 : decode cX5_settle 8 = .ok (.getfield 15, 3) := by decide +kernel
theorem dX5_settle_11 : decode cX5_settle 11 = .ok (.aload_n 0, 1) := by decide +kernel
theorem dX5_settle_12 : decode cX5_settle 12 = .ok (.getfield 33, 3) := by decide +kernel
theorem dX5_settle_15 : decode cX5_settle 15 = .ok (.iconst 1, 1) := by decide +kernel
theorem dX5_settle_16 : decode cX5_settle 16 = .ok (.isub, 1) := by decide +kernel
theorem dX5_settle_17 : decode cX5_settle 17 = .ok (.iaload, 1) := by decide +kernel
theorem dX5_settle_18 : decode cX5_settle 18 = .ok (.invokestatic 94, 3) := by decide +kernel
theorem dX5_settle_21 : decode cX5_settle 21 = .ok (.iload_n 2, 1) := by decide +kernel
theorem dX5_settle_22 : decode cX5_settle 22 = .ok (.if_icmp .lt 29, 3) := by decide +kernel
theorem dX5_settle_25 : decode cX5_settle 25 = .ok (.aload_n 0, 1) := by decide +kernel
theorem dX5_settle_26 : decode cX5_settle 26 = .ok (.dup, 1) := by decide +kernel
theorem dX5_settle_27 : decode cX5_settle 27 = .ok (.getfield 33, 3) := by decide +kernel
theorem dX5_settle_30 : decode cX5_settle 30 = .ok (.iconst 1, 1) := by decide +kernel
theorem dX5_settle_31 : decode cX5_settle 31 = .ok (.isub, 1) := by decide +kernel
theorem dX5_settle_32 : decode cX5_settle 32 = .ok (.putfield 33, 3) := by decide +kernel
theorem dX5_settle_35 : decode cX5_settle 35 = .ok (.aload_n 1, 1) := by decide +kernel
theorem dX5_settle_36 : decode cX5_settle 36 = .ok (.aload_n 0, 1) := by decide +kernel
theorem dX5_settle_37 : decode cX5_settle 37 = .ok (.getfield 15, 3) := by decide +kernel
theorem dX5_settle_40 : decode cX5_settle 40 = .ok (.aload_n 0, 1) := by decide +kernel
theorem dX5_settle_41 : decode cX5_settle 41 = .ok (.getfield 33, 3) := by decide +kernel
theorem dX5_settle_44 : decode cX5_settle 44 = .ok (.iaload, 1) := by decide +kernel
theorem dX5_settle_45 : decode cX5_settle 45 = .ok (.invokevirtual 73, 3) := by decide +kernel
theorem dX5_settle_48 : decode cX5_settle 48 = .ok (.goto (-48), 3) := by decide +kernel
theorem dX5_settle_51 : decode cX5_settle 51 = .ok (.return_, 1) := by decide +kernel
def lb_X5_settle_0 (v0 : Nat) (v1 : Nat) (v2 : Int32) (s : aH) : Option ((aH) ⊕ ((aH))) :=
  (gI s v0 4 2).bind fun x1 =>
  if x1 ≤ 0 then
    some (.inr s)
  else
    (gR s v0 4 1).bind fun a2 =>
    (gI s v0 4 2).bind fun x3 =>
    (aI s a2 14 (x3 - 1)).bind fun x4 =>
    (fn_X5_bindingOf s x4).bind fun x5 =>
    if x5 < v2 then
      some (.inr s)
    else
      (gI s v0 4 2).bind fun x6 =>
      (pI s v0 4 2 (x6 - 1)).bind fun h7 =>
      (gR h7 v0 4 1).bind fun a8 =>
      (gI h7 v0 4 2).bind fun x9 =>
      (aI h7 a8 14 x9).bind fun x10 =>
      (ck h7 v1 3).bind fun u11 =>
      (fn_X4_add h7 v1 x10).bind fun h12 =>
      some (.inl h12)
def hd_X5_settle_0 (Γ : aC) (v0 : Nat) (v1 : Nat) (v2 : Int32) (s : aH) : Prop := Jd Γ (0, 0) 0 [some (.ref v0), some (.ref v1), some (.int v2)] [] s
def ex_X5_settle_0 (Γ : aC) (v0 : Nat) (v1 : Nat) (v2 : Int32) (r : (aH)) : Prop := (fun r => RqV Γ r) r
set_option maxRecDepth 20000 in
set_option maxHeartbeats 4000000 in
theorem lw_X5_settle_0 {Γ : aC} {d : Nat} (X : Cx Γ RX5 cX5_settle 3 none (d, 0, 0)) (hd : 1 ≤ d) (v0 : Nat) (v1 : Nat) (v2 : Int32) : ∀ n s o, lp (lb_X5_settle_0 v0 v1 v2) n s = some o → ex_X5_settle_0 Γ v0 v1 v2 o → hd_X5_settle_0 Γ v0 v1 v2 s := by
  have hd1 : 1 ≤ d := by omega
  refine J_lp _ _ _ ?_
  intro s o hf hk
  unfold lb_X5_settle_0 at hf
  refine r_aload_n (pc := 0) X dX5_settle_0 rfl ?_
  obtain ⟨x1, ex1, hf⟩ := ob hf
  refine r_getI (pc := 1) X dX5_settle_1 fl_X5_33 rfl ex1 ?_
  refine r_if_le (pc := 4) X 51 dX5_settle_4 (by decide) (fun c14 => ?_) (fun c14 => ?_)
  · rw [if_pos c14] at hf
    obtain rfl := Option.some.inj hf
    exact r_vret (pc := 51) X dX5_settle_51 hk
  · rw [if_neg c14] at hf
    refine r_aload_n (pc := 7) X dX5_settle_7 rfl ?_
    obtain ⟨a2, ea2, hf⟩ := ob hf
    refine r_getR (pc := 8) X dX5_settle_8 fl_X5_15 rfl ea2 ?_
    refine r_aload_n (pc := 11) X dX5_settle_11 rfl ?_
    obtain ⟨x3, ex3, hf⟩ := ob hf
    refine r_getI (pc := 12) X dX5_settle_12 fl_X5_33 rfl ex3 ?_
    refine r_iconst (pc := 15) X 1 dX5_settle_15 (by decide) ?_
    refine r_isub (pc := 16) X dX5_settle_16 ?_
    obtain ⟨x4, ex4, hf⟩ := ob hf
    refine r_iald (pc := 17) X dX5_settle_17 ex4 ?_
    obtain ⟨x5, ex5, hf⟩ := ob hf
    refine r_callSI (pc := 18) X [.int x4] dX5_settle_18 ml_X5_94 so_X5_bindingOf ⟨Nat.le_refl _, Nat.le_refl _⟩ (ev_X5_bindingOf (d := d - 1) (by omega) _ _ _ ex5) hd1 rfl (Nat.le_of_ble_eq_true rfl) rfl ?_
    refine r_iload_n (pc := 21) X dX5_settle_21 rfl ?_
    refine r_icmp_lt (pc := 22) X 51 dX5_settle_22 (by decide) (fun c13 => ?_) (fun c13 => ?_)
    · rw [if_pos c13] at hf
      obtain rfl := Option.some.inj hf
      exact r_vret (pc := 51) X dX5_settle_51 hk
    · rw [if_neg c13] at hf
      refine r_aload_n (pc := 25) X dX5_settle_25 rfl ?_
      refine r_dup (pc := 26) X dX5_settle_26 rfl ?_
      obtain ⟨x6, ex6, hf⟩ := ob hf
      refine r_getI (pc := 27) X dX5_settle_27 fl_X5_33 rfl ex6 ?_
      refine r_iconst (pc := 30) X 1 dX5_settle_30 (by decide) ?_
      refine r_isub (pc := 31) X dX5_settle_31 ?_
      obtain ⟨h7, eh7, hf⟩ := ob hf
      refine r_putI (pc := 32) X dX5_settle_32 fp_X5_33 rfl eh7 ?_
      refine r_aload_n (pc := 35) X dX5_settle_35 rfl ?_
      refine r_aload_n (pc := 36) X dX5_settle_36 rfl ?_
      obtain ⟨a8, ea8, hf⟩ := ob hf
      refine r_getR (pc := 37) X dX5_settle_37 fl_X5_15 rfl ea8 ?_
      refine r_aload_n (pc := 40) X dX5_settle_40 rfl ?_
      obtain ⟨x9, ex9, hf⟩ := ob hf
      refine r_getI (pc := 41) X dX5_settle_41 fl_X5_33 rfl ex9 ?_
      obtain ⟨x10, ex10, hf⟩ := ob hf
      refine r_iald (pc := 44) X dX5_settle_44 ex10 ?_
      obtain ⟨u11, eu11, hf⟩ := ob hf
      obtain ⟨h12, eh12, hf⟩ := ob hf
      refine r_callVV (pc := 45) X [.int x10] dX5_settle_45 ml_X5_73 vo_X4_add ⟨Nat.le_refl _, Nat.le_refl _⟩ eu11 (ev_X4_add (d := d - 1) (by omega) _ _ _ _ eh12) hd1 rfl (Nat.le_of_ble_eq_true rfl) rfl ?_
      refine r_goto (pc := 48) X 0 dX5_settle_48 (by decide) ?_
      obtain rfl := Option.some.inj hf
      exact hk
def fn_X5_settle (h : aH) (p0 : Nat) (p1 : Nat) (p2 : Int32) : Option (aH) :=
  (lp (lb_X5_settle_0 p0 p1 p2) lpN h).bind fun o15 =>
  some o15
set_option maxRecDepth 20000 in
set_option maxHeartbeats 4000000 in
theorem ev_X5_settle {l : Launch} {g : aG} {d : Nat} (hd : 1 ≤ d) (h : aH) (p0 : Nat) (p1 : Nat) (p2 : Int32) (o : aH) (hf : fn_X5_settle h p0 p1 p2 = some o) : EvM l g d yX5_settle cX5_settle 3 none [.ref p0, .ref p1, .int p2] h (none, o) := by
  refine EvM.of mk_X5_settle (Nat.le_of_ble_eq_true rfl) ?_
  intro Γ hl hg hq X
  have hd1 : 1 ≤ d := by omega
  have hk : RqV Γ o := hq
  unfold fn_X5_settle at hf
  show Jd Γ (0, 0) 0 [some (.ref p0), some (.ref p1), some (.int p2)] [] h
  obtain ⟨o15, eo15, hf⟩ := ob hf
  refine (lw_X5_settle_0 X hd _ _ _ lpN _ o15 eo15 ?_)
  obtain rfl := Option.some.inj hf
  exact hk

theorem dX5_closes_0 : decode cX5_closes 0 = .ok (.aload_n 0, 1) := by decide +kernel
theorem dX5_closes_1 : decode cX5_closes 1 = .ok (.getfield 36, 3) := by decide +kernel
theorem dX5_closes_4 : decode cX5_closes 4 = .ok (.ifCond .ne 5, 3) := by decide +kernel
theorem dX5_closes_7 : decode cX5_closes 7 = .ok (.iconst 0, 1) := by decide +kernel
theorem dX5_closes_8 : decode cX5_closes 8 = .ok (.ireturn, 1) := by decide +kernel
theorem dX5_closes_9 : decode cX5_closes 9 = .ok (.aload_n 0, 1) := by decide +kernel
theorem dX5_closes_10 : decode cX5_closes 10 = .ok (.aload_n 1, 1) := by decide +kernel
theorem dX5_closes_11 : decode cX5_closes 11 = .ok (.iconst 1, 1) := by decide +kernel
theorem dX5_closes_12 : decode cX5_closes 12 = .ok (.invokevirtual 57, 3) := by decide +kernel
theorem dX5_closes_15 : decode cX5_closes 15 = .ok (.aload_n 0, 1) := by decide +kernel
theorem dX5_closes_16 : decode cX5_closes 16 = .ok (.iconst 0, 1) := by decide +kernel
theorem dX5_closes_17 : decode cX5_closes 17 = .ok (.aload_n 0, 1) := by decide +kernel
theorem dX5_closes_18 : decode cX5_closes 18 = .ok (.getfield 33, 3) := by decide +kernel
theorem dX5_closes_21 : decode cX5_closes 21 = .ok (.iconst 1, 1) := by decide +kernel
theorem dX5_closes_22 : decode cX5_closes 22 = .ok (.isub, 1) := by decide +kernel
theorem dX5_closes_23 : decode cX5_closes 23 = .ok (.invokestatic 97, 3) := by decide +kernel
theorem dX5_closes_26 : decode cX5_closes 26 = .ok (.putfield 33, 3) := by decide +kernel
theorem dX5_closes_29 : decode cX5_closes 29 = .ok (.aload_n 0, 1) := by decide +kernel
theorem dX5_closes_30 : decode cX5_closes 30 = .ok (.dup, 1) := by decide +kernel
theorem dX5_closes_31 : decode cX5_closes 31 = .ok (.getfield 36, 3) := by decide +kernel
theorem dX5_closes_34 : decode cX5_closes 34 = .ok (.iconst 1, 1) := by decide +kernel
theorem dX5_closes_35 : decode cX5_closes 35 = .ok (.isub, 1) := by decide +kernel
theorem dX5_closes_36 : decode cX5_closes 36 = .ok (.putfield 36, 3) := by decide +kernel
theorem dX5_closes_39 : decode cX5_closes 39 = .ok (.iconst 1, 1) := by decide +kernel
theorem dX5_closes_40 : decode cX5_closes 40 = .ok (.ireturn, 1) := by decide +kernel
def fn_X5_closes (h : aH) (p0 : Nat) (p1 : Nat) : Option (Int32 × aH) :=
  (gI h p0 4 3).bind fun x1 =>
  if x1 = 0 then
    some (0, h)
  else
    (ck h p0 4).bind fun u2 =>
    (fn_X5_settle h p0 p1 1).bind fun h3 =>
    (gI h3 p0 4 2).bind fun x4 =>
    (pI h3 p0 4 2 (mx 0 (x4 - 1))).bind fun h5 =>
    (gI h5 p0 4 3).bind fun x6 =>
    (pI h5 p0 4 3 (x6 - 1)).bind fun h7 =>
    some (1, h7)
set_option maxRecDepth 20000 in
set_option maxHeartbeats 4000000 in
theorem ev_X5_closes {l : Launch} {g : aG} {d : Nat} (hd : 2 ≤ d) (h : aH) (p0 : Nat) (p1 : Nat) (o : Int32 × aH) (hf : fn_X5_closes h p0 p1 = some o) : EvM l g d yX5_closes cX5_closes 2 (some .boolean) [.ref p0, .ref p1] h (some (.int o.1), o.2) := by
  refine EvM.of mk_X5_closes (Nat.le_of_ble_eq_true rfl) ?_
  intro Γ hl hg hq X
  have hd1 : 1 ≤ d := by omega
  have hk : RqI Γ o := hq
  unfold fn_X5_closes at hf
  show Jd Γ (0, 0) 0 [some (.ref p0), some (.ref p1)] [] h
  refine r_aload_n (pc := 0) X dX5_closes_0 rfl ?_
  obtain ⟨x1, ex1, hf⟩ := ob hf
  refine r_getI (pc := 1) X dX5_closes_1 fl_X5_36 rfl ex1 ?_
  refine r_if_ne (pc := 4) X 9 dX5_closes_4 (by decide) (fun c8 => ?_) (fun c8 => ?_)
  · rw [if_neg c8] at hf
    refine r_aload_n (pc := 9) X dX5_closes_9 rfl ?_
    refine r_aload_n (pc := 10) X dX5_closes_10 rfl ?_
    refine r_iconst (pc := 11) X 1 dX5_closes_11 (by decide) ?_
    obtain ⟨u2, eu2, hf⟩ := ob hf
    obtain ⟨h3, eh3, hf⟩ := ob hf
    refine r_callVV (pc := 12) X [.ref p1, .int 1] dX5_closes_12 ml_X5_57 vo_X5_settle ⟨Nat.le_refl _, Nat.le_refl _⟩ eu2 (ev_X5_settle (d := d - 1) (by omega) _ _ _ _ _ eh3) hd1 rfl (Nat.le_of_ble_eq_true rfl) rfl ?_
    refine r_aload_n (pc := 15) X dX5_closes_15 rfl ?_
    refine r_iconst (pc := 16) X 0 dX5_closes_16 (by decide) ?_
    refine r_aload_n (pc := 17) X dX5_closes_17 rfl ?_
    obtain ⟨x4, ex4, hf⟩ := ob hf
    refine r_getI (pc := 18) X dX5_closes_18 fl_X5_33 rfl ex4 ?_
    refine r_iconst (pc := 21) X 1 dX5_closes_21 (by decide) ?_
    refine r_isub (pc := 22) X dX5_closes_22 ?_
    refine r_max (pc := 23) X dX5_closes_23 ml_X5_97 ⟨Nat.le_refl _, Nat.le_refl _⟩ hd1 (Nat.le_of_ble_eq_true rfl) ?_
    obtain ⟨h5, eh5, hf⟩ := ob hf
    refine r_putI (pc := 26) X dX5_closes_26 fp_X5_33 rfl eh5 ?_
    refine r_aload_n (pc := 29) X dX5_closes_29 rfl ?_
    refine r_dup (pc := 30) X dX5_closes_30 rfl ?_
    obtain ⟨x6, ex6, hf⟩ := ob hf
    refine r_getI (pc := 31) X dX5_closes_31 fl_X5_36 rfl ex6 ?_
    refine r_iconst (pc := 34) X 1 dX5_closes_34 (by decide) ?_
    refine r_isub (pc := 35) X dX5_closes_35 ?_
    obtain ⟨h7, eh7, hf⟩ := ob hf
    refine r_putI (pc := 36) X dX5_closes_36 fp_X5_36 rfl eh7 ?_
    refine r_iconst (pc := 39) X 1 dX5_closes_39 (by decide) ?_
    obtain rfl := Option.some.inj hf
    exact r_zret (pc := 40) X dX5_closes_40 (Or.inr rfl) hk
  · rw [if_pos c8] at hf
    refine r_iconst (pc := 7) X 0 dX5_closes_7 (by decide) ?_
    obtain rfl := Option.some.inj hf
    exact r_zret (pc := 8) X dX5_closes_8 (Or.inl rfl) hk

theorem dX5_standsBehindThing_0 : decode cX5_standsBehindThing 0 = .ok (.iload_n 2, 1) := by decide +kernel
theorem dX5_standsBehindThing_1 : decode cX5_standsBehindThing 1 = .ok (.bipush 41, 2) := by decide +kernel
theorem dX5_standsBehindThing_3 : decode cX5_standsBehindThing 3 = .ok (.if_icmp .ne 9, 3) := by decide +kernel
theorem dX5_standsBehindThing_6 : decode cX5_standsBehindThing 6 = .ok (.aload_n 0, 1) := by decide +kernel
theorem dX5_standsBehindThing_7 : decode cX5_standsBehindThing 7 = .ok (.aload_n 1, 1) := by decide +kernel
theorem dX5_standsBehindThing_8 : decode cX5_standsBehindThing 8 = .ok (.invokevirtual 90, 3) := by decide +kernel
theorem dX5_standsBehindThing_11 : decode cX5_standsBehindThing 11 = .ok (.ireturn, 1) := by decide +kernel
theorem dX5_standsBehindThing_12 : decode cX5_standsBehindThing 12 = .ok (.sipush 2000, 3) := by decide +kernel
theorem dX5_standsBehindThing_15 : decode cX5_standsBehindThing 15 = .ok (.iload_n 2, 1) := by decide +kernel
theorem dX5_standsBehindThing_16 : decode cX5_standsBehindThing 16 = .ok (.iadd, 1) := by decide +kernel
theorem dX5_standsBehindThing_17 : decode cX5_standsBehindThing 17 = .ok (.invokestatic 94, 3) := by decide +kernel
theorem dX5_standsBehindThing_20 : decode cX5_standsBehindThing 20 = .ok (.istore_n 3, 1) := by decide +kernel
theorem dX5_standsBehindThing_21 : decode cX5_standsBehindThing 21 = .ok (.iload_n 3, 1) := by decide +kernel
theorem dX5_standsBehindThing_22 : decode cX5_standsBehindThing 22 = .ok (.iconst 1, 1) := by decide +kernel
theorem dX5_standsBehindThing_23 : decode cX5_standsBehindThing 23 = .ok (.if_icmp .ne 21, 3) := by decide +kernel
theorem dX5_standsBehindThing_26 : decode cX5_standsBehindThing 26 = .ok (.aload_n 0, 1) := by decide +kernel
theorem dX5_standsBehindThing_27 : decode cX5_standsBehindThing 27 = .ok (.getfield 39, 3) := by decide +kernel
theorem dX5_standsBehindThing_30 : decode cX5_standsBehindThing 30 = .ok (.aload_n 0, 1) := by decide +kernel
theorem dX5_standsBehindThing_31 : decode cX5_standsBehindThing 31 = .ok (.getfield 36, 3) := by decide +kernel
theorem dX5_standsBehindThing_34 : decode cX5_standsBehindThing 34 = .ok (.ishr, 1) := by decide +kernel
theorem dX5_standsBehindThing_35 : decode cX5_standsBehindThing 35 = .ok (.iconst 1, 1) := by decide +kernel
theorem dX5_standsBehindThing_36 : decode cX5_standsBehindThing 36 = .ok (.iand, 1) := by decide +kernel
theorem dX5_standsBehindThing_37 : decode cX5_standsBehindThing 37 = .ok (.ifCond .eq 7, 3) := by decide +kernel
theorem dX5_standsBehindThing_40 : decode cX5_standsBehindThing 40 = .ok (.iconst 1, 1) := by decide +kernel
theorem dX5_standsBehindThing_41 : decode cX5_standsBehindThing 41 = .ok (.goto 4, 3) := by decide +kernel
theorem dX5_standsBehindThing_44 : decode cX5_standsBehindThing 44 = .ok (.iconst 0, 1) := by decide +kernel
theorem dX5_standsBehindThing_45 : decode cX5_standsBehindThing 45 = .ok (.istore 4, 2) := by decide +kernel
theorem dX5_standsBehindThing_47 : decode cX5_standsBehindThing 47 = .ok (.iload_n 3, 1) := by decide +kernel
theorem dX5_standsBehindThing_48 : decode cX5_standsBehindThing 48 = .ok (.ifCond .eq 8, 3) := by decide +kernel
theorem dX5_standsBehindThing_51 : decode cX5_standsBehindThing 51 = .ok (.iload 4, 2) := by decide +kernel
theorem dX5_standsBehindThing_53 : decode cX5_standsBehindThing 53 = .ok (.ifCond .eq 5, 3) := by decide +kernel
theorem dX5_standsBehindThing_56 : decode cX5_standsBehindThing 56 = .ok (.iconst 0, 1) := by decide +kernel
theorem dX5_standsBehindThing_57 : decode cX5_standsBehindThing 57 = .ok (.ireturn, 1) := by decide +kernel
theorem dX5_standsBehindThing_58 : decode cX5_standsBehindThing 58 = .ok (.aload_n 0, 1) := by decide +kernel
theorem dX5_standsBehindThing_59 : decode cX5_standsBehindThing 59 = .ok (.dup, 1) := by decide +kernel
theorem dX5_standsBehindThing_60 : decode cX5_standsBehindThing 60 = .ok (.getfield 39, 3) := by decide +kernel
theorem dX5_standsBehindThing_63 : decode cX5_standsBehindThing 63 = .ok (.iload_n 3, 1) := by decide +kernel
theorem dX5_standsBehindThing_64 : decode cX5_standsBehindThing 64 = .ok (.iconst 1, 1) := by decide +kernel
theorem dX5_standsBehindThing_65 : decode cX5_standsBehindThing 65 = .ok (.if_icmp .ne 12, 3) := by decide +kernel
theorem dX5_standsBehindThing_68 : decode cX5_standsBehindThing 68 = .ok (.iconst 1, 1) := by decide +kernel
theorem dX5_standsBehindThing_69 : decode cX5_standsBehindThing 69 = .ok (.aload_n 0, 1) := by decide +kernel
theorem dX5_standsBehindThing_70 : decode cX5_standsBehindThing 70 = .ok (.getfield 36, 3) := by decide +kernel
theorem dX5_standsBehindThing_73 : decode cX5_standsBehindThing 73 = .ok (.ishl, 1) := by decide +kernel
theorem dX5_standsBehindThing_74 : decode cX5_standsBehindThing 74 = .ok (.goto 4, 3) := by decide +kernel
theorem dX5_standsBehindThing_77 : decode cX5_standsBehindThing 77 = .ok (.iconst 0, 1) := by decide +kernel
theorem dX5_standsBehindThing_78 : decode cX5_standsBehindThing 78 = .ok (.ior, 1) := by decide +kernel
theorem dX5_standsBehindThing_79 : decode cX5_standsBehindThing 79 = .ok (.putfield 39, 3) := by decide +kernel
theorem dX5_standsBehindThing_82 : decode cX5_standsBehindThing 82 = .ok (.aload_n 0, 1) := by decide +kernel
theorem dX5_standsBehindThing_83 : decode cX5_standsBehindThing 83 = .ok (.aload_n 1, 1) := by decide +kernel
theorem dX5_standsBehindThing_84 : decode cX5_standsBehindThing 84 = .ok (.iload_n 3, 1) := by decide +kernel
theorem dX5_standsBehindThing_85 : decode cX5_standsBehindThing 85 = .ok (.invokevirtual 57, 3) := by decide +kernel
theorem dX5_standsBehindThing_88 : decode cX5_standsBehindThing 88 = .ok (.aload_n 0, 1) := by decide +kernel
theorem dX5_standsBehindThing_89 : decode cX5_standsBehindThing 89 = .ok (.sipush 2000, 3) := by decide +kernel
theorem dX5_standsBehindThing_92 : decode cX5_standsBehindThing 92 = .ok (.iload_n 2, 1) := by decide +kernel
theorem dX5_standsBehindThing_93 : decode cX5_standsBehindThing 93 = .ok (.iadd, 1) := by decide +kernel
theorem dX5_standsBehindThing_94 : decode cX5_standsBehindThing 94 = .ok (.invokevirtual 80, 3) := by decide +kernel
theorem dX5_standsBehindThing_97 : decode cX5_standsBehindThing 97 = .ok (.aload_n 0, 1) := by decide +kernel
theorem dX5_standsBehindThing_98 : decode cX5_standsBehindThing 98 = .ok (.iconst 1, 1) := by decide +kernel
theorem dX5_standsBehindThing_99 : decode cX5_standsBehindThing 99 = .ok (.putfield 45, 3) := by decide +kernel
theorem dX5_standsBehindThing_102 : decode cX5_standsBehindThing 102 = .ok (.iconst 1, 1) := by decide +kernel
theorem dX5_standsBehindThing_103 : decode cX5_standsBehindThing 103 = .ok (.ireturn, 1) := by decide +kernel
def fn_X5_standsBehindThing (h : aH) (p0 : Nat) (p1 : Nat) (p2 : Int32) : Option (Int32 × aH) :=
  if p2 = 41 then
    (ck h p0 4).bind fun u19 =>
    (fn_X5_closes h p0 p1).bind fun o20 =>
    (bz o20.1).bind fun x21 =>
    some (x21, o20.2)
  else
    (fn_X5_bindingOf h (2000 + p2)).bind fun x1 =>
    ((
      if x1 = 1 then
        (gI h p0 4 4).bind fun x15 =>
        (gI h p0 4 3).bind fun x16 =>
        if ((x15 >>> (x16 &&& 31)) &&& 1) = 0 then
          some 0
        else
          some 1
      else
        some 0
    ) : Option (Int32)).bind fun t2 =>
    if x1 = 0 then
      some (0, h)
    else
      if t2 = 0 then
        (gI h p0 4 4).bind fun x3 =>
        ((
          if x1 = 1 then
            (gI h p0 4 3).bind fun x11 =>
            some (1 <<< (x11 &&& 31))
          else
            some 0
        ) : Option (Int32)).bind fun t4 =>
        (pI h p0 4 4 (x3 ||| t4)).bind fun h5 =>
        (ck h5 p0 4).bind fun u6 =>
        (fn_X5_settle h5 p0 p1 x1).bind fun h7 =>
        (ck h7 p0 4).bind fun u8 =>
        (fn_X5_hold h7 p0 (2000 + p2)).bind fun h9 =>
        (pZ h9 p0 4 7 1).bind fun h10 =>
        some (1, h10)
      else
        some (0, h)
set_option maxRecDepth 20000 in
set_option maxHeartbeats 4000000 in
theorem ev_X5_standsBehindThing {l : Launch} {g : aG} {d : Nat} (hd : 3 ≤ d) (h : aH) (p0 : Nat) (p1 : Nat) (p2 : Int32) (o : Int32 × aH) (hf : fn_X5_standsBehindThing h p0 p1 p2 = some o) : EvM l g d yX5_standsBehindThing cX5_standsBehindThing 5 (some .boolean) [.ref p0, .ref p1, .int p2] h (some (.int o.1), o.2) := by
  refine EvM.of mk_X5_standsBehindThing (Nat.le_of_ble_eq_true rfl) ?_
  intro Γ hl hg hq X
  have hd1 : 1 ≤ d := by omega
  have hk : RqI Γ o := hq
  unfold fn_X5_standsBehindThing at hf
  show Jd Γ (0, 0) 0 [some (.ref p0), some (.ref p1), some (.int p2), none, none] [] h
  refine r_iload_n (pc := 0) X dX5_standsBehindThing_0 rfl ?_
  refine r_bipush (pc := 1) X 41 dX5_standsBehindThing_1 (by decide) ?_
  refine r_icmp_ne (pc := 3) X 12 dX5_standsBehindThing_3 (by decide) (fun c22 => ?_) (fun c22 => ?_)
  · rw [if_neg c22] at hf
    refine r_sipush (pc := 12) X 2000 dX5_standsBehindThing_12 (by decide) ?_
    refine r_iload_n (pc := 15) X dX5_standsBehindThing_15 rfl ?_
    refine r_iadd (pc := 16) X dX5_standsBehindThing_16 ?_
    obtain ⟨x1, ex1, hf⟩ := ob hf
    refine r_callSI (pc := 17) X [.int (2000 + p2)] dX5_standsBehindThing_17 ml_X5_94 so_X5_bindingOf ⟨Nat.le_refl _, Nat.le_refl _⟩ (ev_X5_bindingOf (d := d - 1) (by omega) _ _ _ ex1) hd1 rfl (Nat.le_of_ble_eq_true rfl) rfl ?_
    refine r_istore_n (pc := 20) X [some (.ref p0), some (.ref p1), some (.int p2), some (.int x1), none] dX5_standsBehindThing_20 (by decide) rfl ?_
    refine r_iload_n (pc := 21) X dX5_standsBehindThing_21 rfl ?_
    refine r_iconst (pc := 22) X 1 dX5_standsBehindThing_22 (by decide) ?_
    obtain ⟨t2, et2, hf⟩ := ob hf
    have Jt2 : Jd Γ (0, 0) 45 [some (.ref p0), some (.ref p1), some (.int p2), some (.int x1), none] [.int t2] h := by
      refine r_istore (pc := 45) X [some (.ref p0), some (.ref p1), some (.int p2), some (.int x1), some (.int t2)] dX5_standsBehindThing_45 (by decide) rfl ?_
      refine r_iload_n (pc := 47) X dX5_standsBehindThing_47 rfl ?_
      refine r_if_eq (pc := 48) X 56 dX5_standsBehindThing_48 (by decide) (fun c14 => ?_) (fun c14 => ?_)
      · rw [if_pos c14] at hf
        refine r_iconst (pc := 56) X 0 dX5_standsBehindThing_56 (by decide) ?_
        obtain rfl := Option.some.inj hf
        exact r_zret (pc := 57) X dX5_standsBehindThing_57 (Or.inl rfl) hk
      · rw [if_neg c14] at hf
        refine r_iload (pc := 51) X dX5_standsBehindThing_51 rfl ?_
        refine r_if_eq (pc := 53) X 58 dX5_standsBehindThing_53 (by decide) (fun c13 => ?_) (fun c13 => ?_)
        · rw [if_pos c13] at hf
          refine r_aload_n (pc := 58) X dX5_standsBehindThing_58 rfl ?_
          refine r_dup (pc := 59) X dX5_standsBehindThing_59 rfl ?_
          obtain ⟨x3, ex3, hf⟩ := ob hf
          refine r_getI (pc := 60) X dX5_standsBehindThing_60 fl_X5_39 rfl ex3 ?_
          refine r_iload_n (pc := 63) X dX5_standsBehindThing_63 rfl ?_
          refine r_iconst (pc := 64) X 1 dX5_standsBehindThing_64 (by decide) ?_
          obtain ⟨t4, et4, hf⟩ := ob hf
          have Jt4 : Jd Γ (0, 0) 78 [some (.ref p0), some (.ref p1), some (.int p2), some (.int x1), some (.int t2)] [.int t4, .int x3, .ref p0] h := by
            refine r_ior (pc := 78) X dX5_standsBehindThing_78 ?_
            obtain ⟨h5, eh5, hf⟩ := ob hf
            refine r_putI (pc := 79) X dX5_standsBehindThing_79 fp_X5_39 rfl eh5 ?_
            refine r_aload_n (pc := 82) X dX5_standsBehindThing_82 rfl ?_
            refine r_aload_n (pc := 83) X dX5_standsBehindThing_83 rfl ?_
            refine r_iload_n (pc := 84) X dX5_standsBehindThing_84 rfl ?_
            obtain ⟨u6, eu6, hf⟩ := ob hf
            obtain ⟨h7, eh7, hf⟩ := ob hf
            refine r_callVV (pc := 85) X [.ref p1, .int x1] dX5_standsBehindThing_85 ml_X5_57 vo_X5_settle ⟨Nat.le_refl _, Nat.le_refl _⟩ eu6 (ev_X5_settle (d := d - 1) (by omega) _ _ _ _ _ eh7) hd1 rfl (Nat.le_of_ble_eq_true rfl) rfl ?_
            refine r_aload_n (pc := 88) X dX5_standsBehindThing_88 rfl ?_
            refine r_sipush (pc := 89) X 2000 dX5_standsBehindThing_89 (by decide) ?_
            refine r_iload_n (pc := 92) X dX5_standsBehindThing_92 rfl ?_
            refine r_iadd (pc := 93) X dX5_standsBehindThing_93 ?_
            obtain ⟨u8, eu8, hf⟩ := ob hf
            obtain ⟨h9, eh9, hf⟩ := ob hf
            refine r_callVV (pc := 94) X [.int (2000 + p2)] dX5_standsBehindThing_94 ml_X5_80 vo_X5_hold ⟨Nat.le_refl _, Nat.le_refl _⟩ eu8 (ev_X5_hold (d := d - 1) (by omega) _ _ _ _ eh9) hd1 rfl (Nat.le_of_ble_eq_true rfl) rfl ?_
            refine r_aload_n (pc := 97) X dX5_standsBehindThing_97 rfl ?_
            refine r_iconst (pc := 98) X 1 dX5_standsBehindThing_98 (by decide) ?_
            obtain ⟨h10, eh10, hf⟩ := ob hf
            refine r_putZ (pc := 99) X dX5_standsBehindThing_99 fp_X5_45 rfl eh10 ?_
            refine r_iconst (pc := 102) X 1 dX5_standsBehindThing_102 (by decide) ?_
            obtain rfl := Option.some.inj hf
            exact r_zret (pc := 103) X dX5_standsBehindThing_103 (Or.inr rfl) hk
          refine r_icmp_ne (pc := 65) X 77 dX5_standsBehindThing_65 (by decide) (fun c12 => ?_) (fun c12 => ?_)
          · rw [if_neg c12] at et4
            refine r_iconst (pc := 77) X 0 dX5_standsBehindThing_77 (by decide) ?_
            obtain rfl := Option.some.inj et4
            exact Jt4
          · rw [if_pos c12] at et4
            refine r_iconst (pc := 68) X 1 dX5_standsBehindThing_68 (by decide) ?_
            refine r_aload_n (pc := 69) X dX5_standsBehindThing_69 rfl ?_
            obtain ⟨x11, ex11, et4⟩ := ob et4
            refine r_getI (pc := 70) X dX5_standsBehindThing_70 fl_X5_36 rfl ex11 ?_
            refine r_ishl (pc := 73) X dX5_standsBehindThing_73 ?_
            refine r_goto (pc := 74) X 78 dX5_standsBehindThing_74 (by decide) ?_
            obtain rfl := Option.some.inj et4
            exact Jt4
        · rw [if_neg c13] at hf
          refine r_iconst (pc := 56) X 0 dX5_standsBehindThing_56 (by decide) ?_
          obtain rfl := Option.some.inj hf
          exact r_zret (pc := 57) X dX5_standsBehindThing_57 (Or.inl rfl) hk
    refine r_icmp_ne (pc := 23) X 44 dX5_standsBehindThing_23 (by decide) (fun c18 => ?_) (fun c18 => ?_)
    · rw [if_neg c18] at et2
      refine r_iconst (pc := 44) X 0 dX5_standsBehindThing_44 (by decide) ?_
      obtain rfl := Option.some.inj et2
      exact Jt2
    · rw [if_pos c18] at et2
      refine r_aload_n (pc := 26) X dX5_standsBehindThing_26 rfl ?_
      obtain ⟨x15, ex15, et2⟩ := ob et2
      refine r_getI (pc := 27) X dX5_standsBehindThing_27 fl_X5_39 rfl ex15 ?_
      refine r_aload_n (pc := 30) X dX5_standsBehindThing_30 rfl ?_
      obtain ⟨x16, ex16, et2⟩ := ob et2
      refine r_getI (pc := 31) X dX5_standsBehindThing_31 fl_X5_36 rfl ex16 ?_
      refine r_ishr (pc := 34) X dX5_standsBehindThing_34 ?_
      refine r_iconst (pc := 35) X 1 dX5_standsBehindThing_35 (by decide) ?_
      refine r_iand (pc := 36) X dX5_standsBehindThing_36 ?_
      refine r_if_eq (pc := 37) X 44 dX5_standsBehindThing_37 (by decide) (fun c17 => ?_) (fun c17 => ?_)
      · rw [if_pos c17] at et2
        refine r_iconst (pc := 44) X 0 dX5_standsBehindThing_44 (by decide) ?_
        obtain rfl := Option.some.inj et2
        exact Jt2
      · rw [if_neg c17] at et2
        refine r_iconst (pc := 40) X 1 dX5_standsBehindThing_40 (by decide) ?_
        refine r_goto (pc := 41) X 45 dX5_standsBehindThing_41 (by decide) ?_
        obtain rfl := Option.some.inj et2
        exact Jt2
  · rw [if_pos c22] at hf
    refine r_aload_n (pc := 6) X dX5_standsBehindThing_6 rfl ?_
    refine r_aload_n (pc := 7) X dX5_standsBehindThing_7 rfl ?_
    obtain ⟨u19, eu19, hf⟩ := ob hf
    obtain ⟨o20, eo20, hf⟩ := ob hf
    refine r_callVI (pc := 8) X [.ref p1] dX5_standsBehindThing_8 ml_X5_90 vo_X5_closes ⟨Nat.le_refl _, Nat.le_refl _⟩ eu19 (ev_X5_closes (d := d - 1) (by omega) _ _ _ _ eo20) hd1 rfl (Nat.le_of_ble_eq_true rfl) rfl ?_
    obtain ⟨x21, ex21, hf⟩ := ob hf
    obtain rfl := Option.some.inj hf
    exact r_zretB (pc := 11) X dX5_standsBehindThing_11 ex21 hk

theorem dX5_stands_0 : decode cX5_stands 0 = .ok (.iload_n 2, 1) := by decide +kernel
theorem dX5_stands_1 : decode cX5_stands 1 = .ok (.bipush 48, 2) := by decide +kernel
theorem dX5_stands_3 : decode cX5_stands 3 = .ok (.if_icmp .lt 19, 3) := by decide +kernel
theorem dX5_stands_6 : decode cX5_stands 6 = .ok (.iload_n 2, 1) := by decide +kernel
theorem dX5_stands_7 : decode cX5_stands 7 = .ok (.bipush 57, 2) := by decide +kernel
theorem dX5_stands_9 : decode cX5_stands 9 = .ok (.if_icmp .gt 13, 3) := by decide +kernel
theorem dX5_stands_12 : decode cX5_stands 12 = .ok (.aload_n 0, 1) := by decide +kernel
theorem dX5_stands_13 : decode cX5_stands 13 = .ok (.aload_n 1, 1) := by decide +kernel
theorem dX5_stands_14 : decode cX5_stands 14 = .ok (.iload_n 2, 1) := by decide +kernel
theorem dX5_stands_15 : decode cX5_stands 15 = .ok (.bipush 48, 2) := by decide +kernel
theorem dX5_stands_17 : decode cX5_stands 17 = .ok (.isub, 1) := by decide +kernel
theorem dX5_stands_18 : decode cX5_stands 18 = .ok (.invokevirtual 61, 3) := by decide +kernel
theorem dX5_stands_21 : decode cX5_stands 21 = .ok (.ireturn, 1) := by decide +kernel
theorem dX5_stands_22 : decode cX5_stands 22 = .ok (.aload_n 0, 1) := by decide +kernel
theorem dX5_stands_23 : decode cX5_stands 23 = .ok (.iconst 0, 1) := by decide +kernel
theorem dX5_stands_24 : decode cX5_stands 24 = .ok (.putfield 42, 3) := by decide +kernel
theorem dX5_stands_27 : decode cX5_stands 27 = .ok (.aload_n 0, 1) := by decide +kernel
theorem dX5_stands_28 : decode cX5_stands 28 = .ok (.getfield 45, 3) := by decide +kernel
theorem dX5_stands_31 : decode cX5_stands 31 = .ok (.ifCond .eq 12, 3) := by decide +kernel
theorem dX5_stands_34 : decode cX5_stands 34 = .ok (.aload_n 0, 1) := by decide +kernel
theorem dX5_stands_35 : decode cX5_stands 35 = .ok (.aload_n 1, 1) := by decide +kernel
theorem dX5_stands_36 : decode cX5_stands 36 = .ok (.iload_n 2, 1) := by decide +kernel
theorem dX5_stands_37 : decode cX5_stands 37 = .ok (.invokevirtual 64, 3) := by decide +kernel
theorem dX5_stands_40 : decode cX5_stands 40 = .ok (.goto 9, 3) := by decide +kernel
theorem dX5_stands_43 : decode cX5_stands 43 = .ok (.aload_n 0, 1) := by decide +kernel
theorem dX5_stands_44 : decode cX5_stands 44 = .ok (.aload_n 1, 1) := by decide +kernel
theorem dX5_stands_45 : decode cX5_stands 45 = .ok (.iload_n 2, 1) := by decide +kernel
theorem dX5_stands_46 : decode cX5_stands 46 = .ok (.invokevirtual 67, 3) := by decide +kernel
theorem dX5_stands_49 : decode cX5_stands 49 = .ok (.ireturn, 1) := by decide +kernel
def fn_X5_stands (h : aH) (p0 : Nat) (p1 : Nat) (p2 : Int32) : Option (Int32 × aH) :=
  if p2 < 48 then
    (pI h p0 4 5 0).bind fun h1 =>
    (gI h1 p0 4 7).bind fun x2 =>
    if x2 = 0 then
      (ck h1 p0 4).bind fun u3 =>
      (fn_X5_standsBehindThing h1 p0 p1 p2).bind fun o4 =>
      (bz o4.1).bind fun x5 =>
      some (x5, o4.2)
    else
      (ck h1 p0 4).bind fun u6 =>
      (fn_X5_standsAheadOfThing h1 p0 p1 p2).bind fun o7 =>
      (bz o7.1).bind fun x8 =>
      some (x8, o7.2)
  else
    if p2 ≤ 57 then
      (ck h p0 4).bind fun u19 =>
      (fn_X5_standsAsDigit h p0 p1 (p2 - 48)).bind fun o20 =>
      (bz o20.1).bind fun x21 =>
      some (x21, o20.2)
    else
      (pI h p0 4 5 0).bind fun h10 =>
      (gI h10 p0 4 7).bind fun x11 =>
      if x11 = 0 then
        (ck h10 p0 4).bind fun u12 =>
        (fn_X5_standsBehindThing h10 p0 p1 p2).bind fun o13 =>
        (bz o13.1).bind fun x14 =>
        some (x14, o13.2)
      else
        (ck h10 p0 4).bind fun u15 =>
        (fn_X5_standsAheadOfThing h10 p0 p1 p2).bind fun o16 =>
        (bz o16.1).bind fun x17 =>
        some (x17, o16.2)
set_option maxRecDepth 20000 in
set_option maxHeartbeats 4000000 in
theorem ev_X5_stands {l : Launch} {g : aG} {d : Nat} (hd : 4 ≤ d) (h : aH) (p0 : Nat) (p1 : Nat) (p2 : Int32) (o : Int32 × aH) (hf : fn_X5_stands h p0 p1 p2 = some o) : EvM l g d yX5_stands cX5_stands 3 (some .boolean) [.ref p0, .ref p1, .int p2] h (some (.int o.1), o.2) := by
  refine EvM.of mk_X5_stands (Nat.le_of_ble_eq_true rfl) ?_
  intro Γ hl hg hq X
  have hd1 : 1 ≤ d := by omega
  have hk : RqI Γ o := hq
  unfold fn_X5_stands at hf
  show Jd Γ (0, 0) 0 [some (.ref p0), some (.ref p1), some (.int p2)] [] h
  refine r_iload_n (pc := 0) X dX5_stands_0 rfl ?_
  refine r_bipush (pc := 1) X 48 dX5_stands_1 (by decide) ?_
  refine r_icmp_lt (pc := 3) X 22 dX5_stands_3 (by decide) (fun c23 => ?_) (fun c23 => ?_)
  · rw [if_pos c23] at hf
    refine r_aload_n (pc := 22) X dX5_stands_22 rfl ?_
    refine r_iconst (pc := 23) X 0 dX5_stands_23 (by decide) ?_
    obtain ⟨h1, eh1, hf⟩ := ob hf
    refine r_putI (pc := 24) X dX5_stands_24 fp_X5_42 rfl eh1 ?_
    refine r_aload_n (pc := 27) X dX5_stands_27 rfl ?_
    obtain ⟨x2, ex2, hf⟩ := ob hf
    refine r_getI (pc := 28) X dX5_stands_28 fl_X5_45 rfl ex2 ?_
    refine r_if_eq (pc := 31) X 43 dX5_stands_31 (by decide) (fun c9 => ?_) (fun c9 => ?_)
    · rw [if_pos c9] at hf
      refine r_aload_n (pc := 43) X dX5_stands_43 rfl ?_
      refine r_aload_n (pc := 44) X dX5_stands_44 rfl ?_
      refine r_iload_n (pc := 45) X dX5_stands_45 rfl ?_
      obtain ⟨u3, eu3, hf⟩ := ob hf
      obtain ⟨o4, eo4, hf⟩ := ob hf
      refine r_callVI (pc := 46) X [.ref p1, .int p2] dX5_stands_46 ml_X5_67 vo_X5_standsBehindThing ⟨Nat.le_refl _, Nat.le_refl _⟩ eu3 (ev_X5_standsBehindThing (d := d - 1) (by omega) _ _ _ _ _ eo4) hd1 rfl (Nat.le_of_ble_eq_true rfl) rfl ?_
      obtain ⟨x5, ex5, hf⟩ := ob hf
      obtain rfl := Option.some.inj hf
      exact r_zretB (pc := 49) X dX5_stands_49 ex5 hk
    · rw [if_neg c9] at hf
      refine r_aload_n (pc := 34) X dX5_stands_34 rfl ?_
      refine r_aload_n (pc := 35) X dX5_stands_35 rfl ?_
      refine r_iload_n (pc := 36) X dX5_stands_36 rfl ?_
      obtain ⟨u6, eu6, hf⟩ := ob hf
      obtain ⟨o7, eo7, hf⟩ := ob hf
      refine r_callVI (pc := 37) X [.ref p1, .int p2] dX5_stands_37 ml_X5_64 vo_X5_standsAheadOfThing ⟨Nat.le_refl _, Nat.le_refl _⟩ eu6 (ev_X5_standsAheadOfThing (d := d - 1) (by omega) _ _ _ _ _ eo7) hd1 rfl (Nat.le_of_ble_eq_true rfl) rfl ?_
      refine r_goto (pc := 40) X 49 dX5_stands_40 (by decide) ?_
      obtain ⟨x8, ex8, hf⟩ := ob hf
      obtain rfl := Option.some.inj hf
      exact r_zretB (pc := 49) X dX5_stands_49 ex8 hk
  · rw [if_neg c23] at hf
    refine r_iload_n (pc := 6) X dX5_stands_6 rfl ?_
    refine r_bipush (pc := 7) X 57 dX5_stands_7 (by decide) ?_
    refine r_icmp_gt (pc := 9) X 22 dX5_stands_9 (by decide) (fun c22 => ?_) (fun c22 => ?_)
    · rw [if_neg c22] at hf
      refine r_aload_n (pc := 22) X dX5_stands_22 rfl ?_
      refine r_iconst (pc := 23) X 0 dX5_stands_23 (by decide) ?_
      obtain ⟨h10, eh10, hf⟩ := ob hf
      refine r_putI (pc := 24) X dX5_stands_24 fp_X5_42 rfl eh10 ?_
      refine r_aload_n (pc := 27) X dX5_stands_27 rfl ?_
      obtain ⟨x11, ex11, hf⟩ := ob hf
      refine r_getI (pc := 28) X dX5_stands_28 fl_X5_45 rfl ex11 ?_
      refine r_if_eq (pc := 31) X 43 dX5_stands_31 (by decide) (fun c18 => ?_) (fun c18 => ?_)
      · rw [if_pos c18] at hf
        refine r_aload_n (pc := 43) X dX5_stands_43 rfl ?_
        refine r_aload_n (pc := 44) X dX5_stands_44 rfl ?_
        refine r_iload_n (pc := 45) X dX5_stands_45 rfl ?_
        obtain ⟨u12, eu12, hf⟩ := ob hf
        obtain ⟨o13, eo13, hf⟩ := ob hf
        refine r_callVI (pc := 46) X [.ref p1, .int p2] dX5_stands_46 ml_X5_67 vo_X5_standsBehindThing ⟨Nat.le_refl _, Nat.le_refl _⟩ eu12 (ev_X5_standsBehindThing (d := d - 1) (by omega) _ _ _ _ _ eo13) hd1 rfl (Nat.le_of_ble_eq_true rfl) rfl ?_
        obtain ⟨x14, ex14, hf⟩ := ob hf
        obtain rfl := Option.some.inj hf
        exact r_zretB (pc := 49) X dX5_stands_49 ex14 hk
      · rw [if_neg c18] at hf
        refine r_aload_n (pc := 34) X dX5_stands_34 rfl ?_
        refine r_aload_n (pc := 35) X dX5_stands_35 rfl ?_
        refine r_iload_n (pc := 36) X dX5_stands_36 rfl ?_
        obtain ⟨u15, eu15, hf⟩ := ob hf
        obtain ⟨o16, eo16, hf⟩ := ob hf
        refine r_callVI (pc := 37) X [.ref p1, .int p2] dX5_stands_37 ml_X5_64 vo_X5_standsAheadOfThing ⟨Nat.le_refl _, Nat.le_refl _⟩ eu15 (ev_X5_standsAheadOfThing (d := d - 1) (by omega) _ _ _ _ _ eo16) hd1 rfl (Nat.le_of_ble_eq_true rfl) rfl ?_
        refine r_goto (pc := 40) X 49 dX5_stands_40 (by decide) ?_
        obtain ⟨x17, ex17, hf⟩ := ob hf
        obtain rfl := Option.some.inj hf
        exact r_zretB (pc := 49) X dX5_stands_49 ex17 hk
    · rw [if_pos c22] at hf
      refine r_aload_n (pc := 12) X dX5_stands_12 rfl ?_
      refine r_aload_n (pc := 13) X dX5_stands_13 rfl ?_
      refine r_iload_n (pc := 14) X dX5_stands_14 rfl ?_
      refine r_bipush (pc := 15) X 48 dX5_stands_15 (by decide) ?_
      refine r_isub (pc := 17) X dX5_stands_17 ?_
      obtain ⟨u19, eu19, hf⟩ := ob hf
      obtain ⟨o20, eo20, hf⟩ := ob hf
      refine r_callVI (pc := 18) X [.ref p1, .int (p2 - 48)] dX5_stands_18 ml_X5_61 vo_X5_standsAsDigit ⟨Nat.le_refl _, Nat.le_refl _⟩ eu19 (ev_X5_standsAsDigit (d := d - 1) (by omega) _ _ _ _ _ eo20) hd1 rfl (Nat.le_of_ble_eq_true rfl) rfl ?_
      obtain ⟨x21, ex21, hf⟩ := ob hf
      obtain rfl := Option.some.inj hf
      exact r_zretB (pc := 21) X dX5_stands_21 ex21 hk

theorem dX5_read_0 : decode cX5_read 0 = .ok (.aload_n 0, 1) := by decide +kernel
theorem dX5_read_1 : decode cX5_read 1 = .ok (.getfield 9, 3) := by decide +kernel
theorem dX5_read_4 : decode cX5_read 4 = .ok (.getfield 19, 3) := by decide +kernel
theorem dX5_read_7 : decode cX5_read 7 = .ok (.ifCond .ne 9, 3) := by decide +kernel
theorem dX5_read_10 : decode cX5_read 10 = .ok (.aload_n 1, 1) := by decide +kernel
theorem dX5_read_11 : decode cX5_read 11 = .ok (.invokevirtual 25, 3) := by decide +kernel
theorem dX5_read_14 : decode cX5_read 14 = .ok (.iconst (-1), 1) := by decide +kernel
theorem dX5_read_15 : decode cX5_read 15 = .ok (.ireturn, 1) := by decide +kernel
theorem dX5_read_16 : decode cX5_read 16 = .ok (.aload_n 1, 1) := by decide +kernel
theorem dX5_read_17 : decode cX5_read 17 = .ok (.invokevirtual 30, 3) := by decide +kernel
theorem dX5_read_20 : decode cX5_read 20 = .ok (.aload_n 0, 1) := by decide +kernel
theorem dX5_read_21 : decode cX5_read 21 = .ok (.iconst 0, 1) := by decide +kernel
theorem dX5_read_22 : decode cX5_read 22 = .ok (.putfield 33, 3) := by decide +kernel
theorem dX5_read_25 : decode cX5_read 25 = .ok (.aload_n 0, 1) := by decide +kernel
theorem dX5_read_26 : decode cX5_read 26 = .ok (.iconst 0, 1) := by decide +kernel
theorem dX5_read_27 : decode cX5_read 27 = .ok (.putfield 36, 3) := by decide +kernel
theorem dX5_read_30 : decode cX5_read 30 = .ok (.aload_n 0, 1) := by decide +kernel
theorem dX5_read_31 : decode cX5_read 31 = .ok (.iconst 0, 1) := by decide +kernel
theorem dX5_read_32 : decode cX5_read 32 = .ok (.putfield 39, 3) := by decide +kernel
theorem dX5_read_35 : decode cX5_read 35 = .ok (.aload_n 0, 1) := by decide +kernel
theorem dX5_read_36 : decode cX5_read 36 = .ok (.iconst 0, 1) := by decide +kernel
theorem dX5_read_37 : decode cX5_read 37 = .ok (.putfield 42, 3) := by decide +kernel
theorem dX5_read_40 : decode cX5_read 40 = .ok (.aload_n 0, 1) := by decide +kernel
theorem dX5_read_41 : decode cX5_read 41 = .ok (.iconst 1, 1) := by decide +kernel
theorem dX5_read_42 : decode cX5_read 42 = .ok (.putfield 45, 3) := by decide +kernel
theorem dX5_read_45 : decode cX5_read 45 = .ok (.iconst 0, 1) := by decide +kernel
theorem dX5_read_46 : decode cX5_read 46 = .ok (.istore_n 2, 1) := by decide +kernel
theorem dX5_read_47 : decode cX5_read 47 = .ok (.iload_n 2, 1) := by decide +kernel
theorem dX5_read_48 : decode cX5_read 48 = .ok (.aload_n 0, 1) := by decide +kernel
theorem dX5_read_49 : decode cX5_read 49 = .ok (.getfield 9, 3) := by decide +kernel
theorem dX5_read_52 : decode cX5_read 52 = .ok (.getfield 19, 3) := by decide +kernel
theorem dX5_read_55 : decode cX5_read 55 = .ok (.if_icmp .ge 33, 3) := by decide +kernel
theorem dX5_read_58 : decode cX5_read 58 = .ok (.iload_n 2, 1) := by decide +kernel
theorem dX5_read_59 : decode cX5_read 59 = .ok (.bipush 40, 2) := by decide +kernel
theorem dX5_read_61 : decode cX5_read 61 = .ok (.if_icmp .eq 19, 3) := by decide +kernel
theorem dX5_read_64 : decode cX5_read 64 = .ok (.aload_n 0, 1) := by decide +kernel
theorem dX5_read_65 : decode cX5_read 65 = .ok (.aload_n 1, 1) := by decide +kernel
theorem dX5_read_66 : decode cX5_read 66 = .ok (.aload_n 0, 1) := by decide +kernel
theorem dX5_read_67 : decode cX5_read 67 = .ok (.getfield 9, 3) := by decide +kernel
theorem dX5_read_70 : decode cX5_read 70 = .ok (.iload_n 2, 1) := by decide +kernel
theorem dX5_read_71 : decode cX5_read 71 = .ok (.invokevirtual 49, 3) := by decide +kernel
theorem dX5_read_74 : decode cX5_read 74 = .ok (.invokevirtual 53, 3) := by decide +kernel
theorem dX5_read_77 : decode cX5_read 77 = .ok (.ifCond .ne 5, 3) := by decide +kernel
theorem dX5_read_80 : decode cX5_read 80 = .ok (.iload_n 2, 1) := by decide +kernel
theorem dX5_read_81 : decode cX5_read 81 = .ok (.ireturn, 1) := by decide +kernel
theorem dX5_read_82 : decode cX5_read 82 = .ok (.iinc 2 1, 3) := by decide +kernel
theorem dX5_read_85 : decode cX5_read 85 = .ok (.goto (-38), 3) := by decide +kernel
theorem dX5_read_88 : decode cX5_read 88 = .ok (.aload_n 0, 1) := by decide +kernel
theorem dX5_read_89 : decode cX5_read 89 = .ok (.aload_n 1, 1) := by decide +kernel
theorem dX5_read_90 : decode cX5_read 90 = .ok (.iconst 1, 1) := by decide +kernel
theorem dX5_read_91 : decode cX5_read 91 = .ok (.invokevirtual 57, 3) := by decide +kernel
theorem dX5_read_94 : decode cX5_read 94 = .ok (.aload_n 0, 1) := by decide +kernel
theorem dX5_read_95 : decode cX5_read 95 = .ok (.getfield 45, 3) := by decide +kernel
theorem dX5_read_98 : decode cX5_read 98 = .ok (.ifCond .ne 10, 3) := by decide +kernel
theorem dX5_read_101 : decode cX5_read 101 = .ok (.aload_n 0, 1) := by decide +kernel
theorem dX5_read_102 : decode cX5_read 102 = .ok (.getfield 36, 3) := by decide +kernel
theorem dX5_read_105 : decode cX5_read 105 = .ok (.ifCond .le 13, 3) := by decide +kernel
theorem dX5_read_108 : decode cX5_read 108 = .ok (.aload_n 0, 1) := by decide +kernel
theorem dX5_read_109 : decode cX5_read 109 = .ok (.getfield 9, 3) := by decide +kernel
theorem dX5_read_112 : decode cX5_read 112 = .ok (.getfield 19, 3) := by decide +kernel
theorem dX5_read_115 : decode cX5_read 115 = .ok (.goto 4, 3) := by decide +kernel
theorem dX5_read_118 : decode cX5_read 118 = .ok (.iconst (-1), 1) := by decide +kernel
theorem dX5_read_119 : decode cX5_read 119 = .ok (.ireturn, 1) := by decide +kernel
def lb_X5_read_47 (v0 : Nat) (v1 : Nat) (s : Int32 × aH) : Option ((Int32 × aH) ⊕ ((aH) ⊕ (Int32 × aH))) :=
  (gR s.2 v0 4 0).bind fun a10 =>
  (gI s.2 a10 7 1).bind fun x11 =>
  if s.1 < x11 then
    if s.1 = 40 then
      some (.inr (.inr (s.1, s.2)))
    else
      (gR s.2 v0 4 0).bind fun a12 =>
      (ck s.2 a12 7).bind fun u13 =>
      (fn_X8_at s.2 a12 s.1).bind fun x14 =>
      (ck s.2 v0 4).bind fun u15 =>
      (fn_X5_stands s.2 v0 v1 x14).bind fun o16 =>
      if o16.1 = 0 then
        some (.inr (.inr (s.1, o16.2)))
      else
        (some (s.1 + 1)).bind fun x17 =>
        some (.inl (x17, o16.2))
  else
    some (.inr (.inl s.2))
def hd_X5_read_47 (Γ : aC) (v0 : Nat) (v1 : Nat) (s : Int32 × aH) : Prop := Jd Γ (0, 0) 47 [some (.ref v0), some (.ref v1), some (.int s.1)] [] s.2
def ex_X5_read_47 (Γ : aC) (v0 : Nat) (v1 : Nat) (r : (aH) ⊕ (Int32 × aH)) : Prop := (Sum.elim (fun r => ∀ (j2 : Option Value), Jd Γ (0, 0) 88 [some (.ref v0), some (.ref v1), j2] [] r) (fun r => RqI Γ r)) r
set_option maxRecDepth 20000 in
set_option maxHeartbeats 4000000 in
theorem lw_X5_read_47 {Γ : aC} {d : Nat} (X : Cx Γ RX5 cX5_read 3 (some .int) (d, 0, 0)) (hd : 5 ≤ d) (v0 : Nat) (v1 : Nat) : ∀ n s o, lp (lb_X5_read_47 v0 v1) n s = some o → ex_X5_read_47 Γ v0 v1 o → hd_X5_read_47 Γ v0 v1 s := by
  have hd1 : 1 ≤ d := by omega
  refine J_lp _ _ _ ?_
  intro s o hf hk
  unfold lb_X5_read_47 at hf
  refine r_iload_n (pc := 47) X dX5_read_47 rfl ?_
  refine r_aload_n (pc := 48) X dX5_read_48 rfl ?_
  obtain ⟨a10, ea10, hf⟩ := ob hf
  refine r_getR (pc := 49) X dX5_read_49 fl_X5_9 rfl ea10 ?_
  obtain ⟨x11, ex11, hf⟩ := ob hf
  refine r_getI (pc := 52) X dX5_read_52 fl_X5_19 rfl ex11 ?_
  refine r_icmp_ge (pc := 55) X 88 dX5_read_55 (by decide) (fun c20 => ?_) (fun c20 => ?_)
  · rw [if_neg c20] at hf
    obtain rfl := Option.some.inj hf
    exact hk _
  · rw [if_pos c20] at hf
    refine r_iload_n (pc := 58) X dX5_read_58 rfl ?_
    refine r_bipush (pc := 59) X 40 dX5_read_59 (by decide) ?_
    refine r_icmp_eq (pc := 61) X 80 dX5_read_61 (by decide) (fun c19 => ?_) (fun c19 => ?_)
    · rw [if_pos c19] at hf
      refine r_iload_n (pc := 80) X dX5_read_80 rfl ?_
      obtain rfl := Option.some.inj hf
      exact r_iret (pc := 81) X dX5_read_81 hk
    · rw [if_neg c19] at hf
      refine r_aload_n (pc := 64) X dX5_read_64 rfl ?_
      refine r_aload_n (pc := 65) X dX5_read_65 rfl ?_
      refine r_aload_n (pc := 66) X dX5_read_66 rfl ?_
      obtain ⟨a12, ea12, hf⟩ := ob hf
      refine r_getR (pc := 67) X dX5_read_67 fl_X5_9 rfl ea12 ?_
      refine r_iload_n (pc := 70) X dX5_read_70 rfl ?_
      obtain ⟨u13, eu13, hf⟩ := ob hf
      obtain ⟨x14, ex14, hf⟩ := ob hf
      refine r_callVI (pc := 71) X [.int s.1] dX5_read_71 ml_X5_49 vo_X8_at ⟨Nat.le_refl _, Nat.le_refl _⟩ eu13 (ev_X8_at (d := d - 1) (by omega) _ _ _ _ ex14) hd1 rfl (Nat.le_of_ble_eq_true rfl) rfl ?_
      obtain ⟨u15, eu15, hf⟩ := ob hf
      obtain ⟨o16, eo16, hf⟩ := ob hf
      refine r_callVI (pc := 74) X [.ref v1, .int x14] dX5_read_74 ml_X5_53 vo_X5_stands ⟨Nat.le_refl _, Nat.le_refl _⟩ eu15 (ev_X5_stands (d := d - 1) (by omega) _ _ _ _ _ eo16) hd1 rfl (Nat.le_of_ble_eq_true rfl) rfl ?_
      refine r_if_ne (pc := 77) X 82 dX5_read_77 (by decide) (fun c18 => ?_) (fun c18 => ?_)
      · rw [if_neg c18] at hf
        obtain ⟨x17, ex17, hf⟩ := ob hf
        refine r_iinc2 (pc := 82) X 1 [some (.ref v0), some (.ref v1), some (.int x17)] dX5_read_82 (by decide) rfl (by decide) ex17 rfl ?_
        refine r_goto (pc := 85) X 47 dX5_read_85 (by decide) ?_
        obtain rfl := Option.some.inj hf
        exact hk
      · rw [if_pos c18] at hf
        refine r_iload_n (pc := 80) X dX5_read_80 rfl ?_
        obtain rfl := Option.some.inj hf
        exact r_iret (pc := 81) X dX5_read_81 hk
def fn_X5_read (h : aH) (p0 : Nat) (p1 : Nat) : Option (Int32 × aH) :=
  (gR h p0 4 0).bind fun a1 =>
  (gI h a1 7 1).bind fun x2 =>
  if x2 = 0 then
    (ck h p1 3).bind fun u35 =>
    (fn_X4_becomesNone h p1).bind fun h36 =>
    some ((-1), h36)
  else
    (ck h p1 3).bind fun u3 =>
    (fn_X4_begin h p1).bind fun h4 =>
    (pI h4 p0 4 2 0).bind fun h5 =>
    (pI h5 p0 4 3 0).bind fun h6 =>
    (pI h6 p0 4 4 0).bind fun h7 =>
    (pI h7 p0 4 5 0).bind fun h8 =>
    (pZ h8 p0 4 7 1).bind fun h9 =>
    (lp (lb_X5_read_47 p0 p1) lpN (0, h9)).bind fun o21 =>
    Sum.elim (fun o22 =>
      (ck o22 p0 4).bind fun u25 =>
      (fn_X5_settle o22 p0 p1 1).bind fun h26 =>
      (gI h26 p0 4 7).bind fun x27 =>
      if x27 = 0 then
        (gI h26 p0 4 3).bind fun x30 =>
        if x30 ≤ 0 then
          some ((-1), h26)
        else
          (gR h26 p0 4 0).bind fun a31 =>
          (gI h26 a31 7 1).bind fun x32 =>
          some (x32, h26)
      else
        (gR h26 p0 4 0).bind fun a28 =>
        (gI h26 a28 7 1).bind fun x29 =>
        some (x29, h26)
    ) (fun o23 =>
      some o23
    ) o21
set_option maxRecDepth 20000 in
set_option maxHeartbeats 4000000 in
theorem ev_X5_read {l : Launch} {g : aG} {d : Nat} (hd : 5 ≤ d) (h : aH) (p0 : Nat) (p1 : Nat) (o : Int32 × aH) (hf : fn_X5_read h p0 p1 = some o) : EvM l g d yX5_read cX5_read 3 (some .int) [.ref p0, .ref p1] h (some (.int o.1), o.2) := by
  refine EvM.of mk_X5_read (Nat.le_of_ble_eq_true rfl) ?_
  intro Γ hl hg hq X
  have hd1 : 1 ≤ d := by omega
  have hk : RqI Γ o := hq
  unfold fn_X5_read at hf
  show Jd Γ (0, 0) 0 [some (.ref p0), some (.ref p1), none] [] h
  refine r_aload_n (pc := 0) X dX5_read_0 rfl ?_
  obtain ⟨a1, ea1, hf⟩ := ob hf
  refine r_getR (pc := 1) X dX5_read_1 fl_X5_9 rfl ea1 ?_
  obtain ⟨x2, ex2, hf⟩ := ob hf
  refine r_getI (pc := 4) X dX5_read_4 fl_X5_19 rfl ex2 ?_
  refine r_if_ne (pc := 7) X 16 dX5_read_7 (by decide) (fun c37 => ?_) (fun c37 => ?_)
  · rw [if_neg c37] at hf
    refine r_aload_n (pc := 16) X dX5_read_16 rfl ?_
    obtain ⟨u3, eu3, hf⟩ := ob hf
    obtain ⟨h4, eh4, hf⟩ := ob hf
    refine r_callVV (pc := 17) X [] dX5_read_17 ml_X5_30 vo_X4_begin ⟨Nat.le_refl _, Nat.le_refl _⟩ eu3 (ev_X4_begin (d := d - 1) (by omega) _ _ _ eh4) hd1 rfl (Nat.le_of_ble_eq_true rfl) rfl ?_
    refine r_aload_n (pc := 20) X dX5_read_20 rfl ?_
    refine r_iconst (pc := 21) X 0 dX5_read_21 (by decide) ?_
    obtain ⟨h5, eh5, hf⟩ := ob hf
    refine r_putI (pc := 22) X dX5_read_22 fp_X5_33 rfl eh5 ?_
    refine r_aload_n (pc := 25) X dX5_read_25 rfl ?_
    refine r_iconst (pc := 26) X 0 dX5_read_26 (by decide) ?_
    obtain ⟨h6, eh6, hf⟩ := ob hf
    refine r_putI (pc := 27) X dX5_read_27 fp_X5_36 rfl eh6 ?_
    refine r_aload_n (pc := 30) X dX5_read_30 rfl ?_
    refine r_iconst (pc := 31) X 0 dX5_read_31 (by decide) ?_
    obtain ⟨h7, eh7, hf⟩ := ob hf
    refine r_putI (pc := 32) X dX5_read_32 fp_X5_39 rfl eh7 ?_
    refine r_aload_n (pc := 35) X dX5_read_35 rfl ?_
    refine r_iconst (pc := 36) X 0 dX5_read_36 (by decide) ?_
    obtain ⟨h8, eh8, hf⟩ := ob hf
    refine r_putI (pc := 37) X dX5_read_37 fp_X5_42 rfl eh8 ?_
    refine r_aload_n (pc := 40) X dX5_read_40 rfl ?_
    refine r_iconst (pc := 41) X 1 dX5_read_41 (by decide) ?_
    obtain ⟨h9, eh9, hf⟩ := ob hf
    refine r_putZ (pc := 42) X dX5_read_42 fp_X5_45 rfl eh9 ?_
    refine r_iconst (pc := 45) X 0 dX5_read_45 (by decide) ?_
    refine r_istore_n (pc := 46) X [some (.ref p0), some (.ref p1), some (.int 0)] dX5_read_46 (by decide) rfl ?_
    obtain ⟨o21, eo21, hf⟩ := ob hf
    refine (lw_X5_read_47 X hd _ _ lpN _ o21 eo21 ?_)
    rcases o21 with o22 | o23
    · simp only [Sum.elim_inl] at hf
      intro j24
      refine r_aload_n (pc := 88) X dX5_read_88 rfl ?_
      refine r_aload_n (pc := 89) X dX5_read_89 rfl ?_
      refine r_iconst (pc := 90) X 1 dX5_read_90 (by decide) ?_
      obtain ⟨u25, eu25, hf⟩ := ob hf
      obtain ⟨h26, eh26, hf⟩ := ob hf
      refine r_callVV (pc := 91) X [.ref p1, .int 1] dX5_read_91 ml_X5_57 vo_X5_settle ⟨Nat.le_refl _, Nat.le_refl _⟩ eu25 (ev_X5_settle (d := d - 1) (by omega) _ _ _ _ _ eh26) hd1 rfl (Nat.le_of_ble_eq_true rfl) rfl ?_
      refine r_aload_n (pc := 94) X dX5_read_94 rfl ?_
      obtain ⟨x27, ex27, hf⟩ := ob hf
      refine r_getI (pc := 95) X dX5_read_95 fl_X5_45 rfl ex27 ?_
      refine r_if_ne (pc := 98) X 108 dX5_read_98 (by decide) (fun c34 => ?_) (fun c34 => ?_)
      · rw [if_neg c34] at hf
        refine r_aload_n (pc := 108) X dX5_read_108 rfl ?_
        obtain ⟨a28, ea28, hf⟩ := ob hf
        refine r_getR (pc := 109) X dX5_read_109 fl_X5_9 rfl ea28 ?_
        obtain ⟨x29, ex29, hf⟩ := ob hf
        refine r_getI (pc := 112) X dX5_read_112 fl_X5_19 rfl ex29 ?_
        refine r_goto (pc := 115) X 119 dX5_read_115 (by decide) ?_
        obtain rfl := Option.some.inj hf
        exact r_iret (pc := 119) X dX5_read_119 hk
      · rw [if_pos c34] at hf
        refine r_aload_n (pc := 101) X dX5_read_101 rfl ?_
        obtain ⟨x30, ex30, hf⟩ := ob hf
        refine r_getI (pc := 102) X dX5_read_102 fl_X5_36 rfl ex30 ?_
        refine r_if_le (pc := 105) X 118 dX5_read_105 (by decide) (fun c33 => ?_) (fun c33 => ?_)
        · rw [if_pos c33] at hf
          refine r_iconst (pc := 118) X (-1) dX5_read_118 (by decide) ?_
          obtain rfl := Option.some.inj hf
          exact r_iret (pc := 119) X dX5_read_119 hk
        · rw [if_neg c33] at hf
          refine r_aload_n (pc := 108) X dX5_read_108 rfl ?_
          obtain ⟨a31, ea31, hf⟩ := ob hf
          refine r_getR (pc := 109) X dX5_read_109 fl_X5_9 rfl ea31 ?_
          obtain ⟨x32, ex32, hf⟩ := ob hf
          refine r_getI (pc := 112) X dX5_read_112 fl_X5_19 rfl ex32 ?_
          refine r_goto (pc := 115) X 119 dX5_read_115 (by decide) ?_
          obtain rfl := Option.some.inj hf
          exact r_iret (pc := 119) X dX5_read_119 hk
    · simp only [Sum.elim_inr] at hf
      obtain rfl := Option.some.inj hf
      exact hk
  · rw [if_pos c37] at hf
    refine r_aload_n (pc := 10) X dX5_read_10 rfl ?_
    obtain ⟨u35, eu35, hf⟩ := ob hf
    obtain ⟨h36, eh36, hf⟩ := ob hf
    refine r_callVV (pc := 11) X [] dX5_read_11 ml_X5_25 vo_X4_becomesNone ⟨Nat.le_refl _, Nat.le_refl _⟩ eu35 (ev_X4_becomesNone (d := d - 1) (by omega) _ _ _ eh36) hd1 rfl (Nat.le_of_ble_eq_true rfl) rfl ?_
    refine r_iconst (pc := 14) X (-1) dX5_read_14 (by decide) ?_
    obtain rfl := Option.some.inj hf
    exact r_iret (pc := 15) X dX5_read_15 hk
