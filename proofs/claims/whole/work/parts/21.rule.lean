theorem dX4_takes_0 : decode cX4_takes 0 = .ok (.aload_n 1, 1) := by decide +kernel
theorem dX4_takes_1 : decode cX4_takes 1 = .ok (.getfield 9, 3) := by decide +kernel
theorem dX4_takes_4 : decode cX4_takes 4 = .ok (.iconst 0, 1) := by decide +kernel
theorem dX4_takes_5 : decode cX4_takes 5 = .ok (.aload_n 0, 1) := by decide +kernel
theorem dX4_takes_6 : decode cX4_takes 6 = .ok (.getfield 9, 3) := by decide +kernel
theorem dX4_takes_9 : decode cX4_takes 9 = .ok (.iconst 0, 1) := by decide +kernel
theorem dX4_takes_10 : decode cX4_takes 10 = .ok (.bipush 40, 2) := by decide +kernel
theorem dX4_takes_12 : decode cX4_takes 12 = .ok (.invokestatic 21, 3) := by decide +kernel
theorem dX4_takes_15 : decode cX4_takes 15 = .ok (.aload_n 0, 1) := by decide +kernel
theorem dX4_takes_16 : decode cX4_takes 16 = .ok (.aload_n 1, 1) := by decide +kernel
theorem dX4_takes_17 : decode cX4_takes 17 = .ok (.getfield 27, 3) := by decide +kernel
theorem dX4_takes_20 : decode cX4_takes 20 = .ok (.putfield 27, 3) := by decide +kernel
theorem dX4_takes_23 : decode cX4_takes 23 = .ok (.return_, 1) := by decide +kernel
def fn_X4_takes (h : aH) (p0 : Nat) (p1 : Nat) : Option (aH) :=
  (gR h p1 3 0).bind fun a1 =>
  (gR h p0 3 0).bind fun a2 =>
  (cpI h a1 0 a2 0 40).bind fun h3 =>
  (gI h3 p1 3 2).bind fun x4 =>
  (pI h3 p0 3 2 x4).bind fun h5 =>
  some h5
set_option maxRecDepth 20000 in
set_option maxHeartbeats 4000000 in
theorem ev_X4_takes {l : Launch} {g : aG} {d : Nat} (hd : 1 ≤ d) (h : aH) (p0 : Nat) (p1 : Nat) (o : aH) (hf : fn_X4_takes h p0 p1 = some o) : EvM l g d yX4_takes cX4_takes 2 none [.ref p0, .ref p1] h (none, o) := by
  refine EvM.of mk_X4_takes (Nat.le_of_ble_eq_true rfl) ?_
  intro Γ hl hg hq X
  have hd1 : 1 ≤ d := by omega
  have hk : RqV Γ o := hq
  unfold fn_X4_takes at hf
  show Jd Γ (0, 0) 0 [some (.ref p0), some (.ref p1)] [] h
  refine r_aload_n (pc := 0) X dX4_takes_0 rfl ?_
  obtain ⟨a1, ea1, hf⟩ := ob hf
  refine r_getR (pc := 1) X dX4_takes_1 fl_X4_9 rfl ea1 ?_
  refine r_iconst (pc := 4) X 0 dX4_takes_4 (by decide) ?_
  refine r_aload_n (pc := 5) X dX4_takes_5 rfl ?_
  obtain ⟨a2, ea2, hf⟩ := ob hf
  refine r_getR (pc := 6) X dX4_takes_6 fl_X4_9 rfl ea2 ?_
  refine r_iconst (pc := 9) X 0 dX4_takes_9 (by decide) ?_
  refine r_bipush (pc := 10) X 40 dX4_takes_10 (by decide) ?_
  obtain ⟨h3, eh3, hf⟩ := ob hf
  refine r_copy (pc := 12) X dX4_takes_12 ml_X4_21 ac_nat ac_sta ac_ini hd1 (Nat.le_of_ble_eq_true rfl) eh3 ?_
  refine r_aload_n (pc := 15) X dX4_takes_15 rfl ?_
  refine r_aload_n (pc := 16) X dX4_takes_16 rfl ?_
  obtain ⟨x4, ex4, hf⟩ := ob hf
  refine r_getI (pc := 17) X dX4_takes_17 fl_X4_27 rfl ex4 ?_
  obtain ⟨h5, eh5, hf⟩ := ob hf
  refine r_putI (pc := 20) X dX4_takes_20 fp_X4_27 rfl eh5 ?_
  obtain rfl := Option.some.inj hf
  exact r_vret (pc := 23) X dX4_takes_23 hk

theorem dX4_begin_0 : decode cX4_begin 0 = .ok (.aload_n 0, 1) := by decide +kernel
theorem dX4_begin_1 : decode cX4_begin 1 = .ok (.iconst 0, 1) := by decide +kernel
theorem dX4_begin_2 : decode cX4_begin 2 = .ok (.putfield 27, 3) := by decide +kernel
theorem dX4_begin_5 : decode cX4_begin 5 = .ok (.return_, 1) := by decide +kernel
def fn_X4_begin (h : aH) (p0 : Nat) : Option (aH) :=
  (pI h p0 3 2 0).bind fun h1 =>
  some h1
set_option maxRecDepth 20000 in
set_option maxHeartbeats 4000000 in
theorem ev_X4_begin {l : Launch} {g : aG} {d : Nat} (hd : 0 ≤ d) (h : aH) (p0 : Nat) (o : aH) (hf : fn_X4_begin h p0 = some o) : EvM l g d yX4_begin cX4_begin 1 none [.ref p0] h (none, o) := by
  refine EvM.of mk_X4_begin (Nat.le_of_ble_eq_true rfl) ?_
  intro Γ hl hg hq X
  have hd1 : 0 ≤ d := by omega
  have hk : RqV Γ o := hq
  unfold fn_X4_begin at hf
  show Jd Γ (0, 0) 0 [some (.ref p0)] [] h
  refine r_aload_n (pc := 0) X dX4_begin_0 rfl ?_
  refine r_iconst (pc := 1) X 0 dX4_begin_1 (by decide) ?_
  obtain ⟨h1, eh1, hf⟩ := ob hf
  refine r_putI (pc := 2) X dX4_begin_2 fp_X4_27 rfl eh1 ?_
  obtain rfl := Option.some.inj hf
  exact r_vret (pc := 5) X dX4_begin_5 hk

theorem dX4_add_0 : decode cX4_add 0 = .ok (.aload_n 0, 1) := by decide +kernel
theorem dX4_add_1 : decode cX4_add 1 = .ok (.getfield 27, 3) := by decide +kernel
theorem dX4_add_4 : decode cX4_add 4 = .ok (.bipush 40, 2) := by decide +kernel
theorem dX4_add_6 : decode cX4_add 6 = .ok (.if_icmp .ge 23, 3) := by decide +kernel
theorem dX4_add_9 : decode cX4_add 9 = .ok (.aload_n 0, 1) := by decide +kernel
theorem dX4_add_10 : decode cX4_add 10 = .ok (.getfield 9, 3) := by decide +kernel
theorem dX4_add_13 : decode cX4_add 13 = .ok (.aload_n 0, 1) := by decide +kernel
theorem dX4_add_14 : decode cX4_add 14 = .ok (.getfield 27, 3) := by decide +kernel
theorem dX4_add_17 : decode cX4_add 17 = .ok (.iload_n 1, 1) := by decide +kernel
theorem dX4_add_18 : decode cX4_add 18 = .ok (.iastore, 1) := by decide +kernel
theorem dX4_add_19 : decode cX4_add 19 = .ok (.aload_n 0, 1) := by decide +kernel
theorem dX4_add_20 : decode cX4_add 20 = .ok (.dup, 1) := by decide +kernel
theorem dX4_add_21 : decode cX4_add 21 = .ok (.getfield 27, 3) := by decide +kernel
theorem dX4_add_24 : decode cX4_add 24 = .ok (.iconst 1, 1) := by decide +kernel
theorem dX4_add_25 : decode cX4_add 25 = .ok (.iadd, 1) := by decide +kernel
theorem dX4_add_26 : decode cX4_add 26 = .ok (.putfield 27, 3) := by decide +kernel
theorem dX4_add_29 : decode cX4_add 29 = .ok (.return_, 1) := by decide +kernel
def fn_X4_add (h : aH) (p0 : Nat) (p1 : Int32) : Option (aH) :=
  (gI h p0 3 2).bind fun x1 =>
  if x1 < 40 then
    (gR h p0 3 0).bind fun a2 =>
    (gI h p0 3 2).bind fun x3 =>
    (wI h a2 x3 p1).bind fun h4 =>
    (gI h4 p0 3 2).bind fun x5 =>
    (pI h4 p0 3 2 (x5 + 1)).bind fun h6 =>
    some h6
  else
    some h
set_option maxRecDepth 20000 in
set_option maxHeartbeats 4000000 in
theorem ev_X4_add {l : Launch} {g : aG} {d : Nat} (hd : 0 ≤ d) (h : aH) (p0 : Nat) (p1 : Int32) (o : aH) (hf : fn_X4_add h p0 p1 = some o) : EvM l g d yX4_add cX4_add 2 none [.ref p0, .int p1] h (none, o) := by
  refine EvM.of mk_X4_add (Nat.le_of_ble_eq_true rfl) ?_
  intro Γ hl hg hq X
  have hd1 : 0 ≤ d := by omega
  have hk : RqV Γ o := hq
  unfold fn_X4_add at hf
  show Jd Γ (0, 0) 0 [some (.ref p0), some (.int p1)] [] h
  refine r_aload_n (pc := 0) X dX4_add_0 rfl ?_
  obtain ⟨x1, ex1, hf⟩ := ob hf
  refine r_getI (pc := 1) X dX4_add_1 fl_X4_27 rfl ex1 ?_
  refine r_bipush (pc := 4) X 40 dX4_add_4 (by decide) ?_
  refine r_icmp_ge (pc := 6) X 29 dX4_add_6 (by decide) (fun c7 => ?_) (fun c7 => ?_)
  · rw [if_neg c7] at hf
    obtain rfl := Option.some.inj hf
    exact r_vret (pc := 29) X dX4_add_29 hk
  · rw [if_pos c7] at hf
    refine r_aload_n (pc := 9) X dX4_add_9 rfl ?_
    obtain ⟨a2, ea2, hf⟩ := ob hf
    refine r_getR (pc := 10) X dX4_add_10 fl_X4_9 rfl ea2 ?_
    refine r_aload_n (pc := 13) X dX4_add_13 rfl ?_
    obtain ⟨x3, ex3, hf⟩ := ob hf
    refine r_getI (pc := 14) X dX4_add_14 fl_X4_27 rfl ex3 ?_
    refine r_iload_n (pc := 17) X dX4_add_17 rfl ?_
    obtain ⟨h4, eh4, hf⟩ := ob hf
    refine r_iast (pc := 18) X dX4_add_18 eh4 ?_
    refine r_aload_n (pc := 19) X dX4_add_19 rfl ?_
    refine r_dup (pc := 20) X dX4_add_20 rfl ?_
    obtain ⟨x5, ex5, hf⟩ := ob hf
    refine r_getI (pc := 21) X dX4_add_21 fl_X4_27 rfl ex5 ?_
    refine r_iconst (pc := 24) X 1 dX4_add_24 (by decide) ?_
    refine r_iadd (pc := 25) X dX4_add_25 ?_
    obtain ⟨h6, eh6, hf⟩ := ob hf
    refine r_putI (pc := 26) X dX4_add_26 fp_X4_27 rfl eh6 ?_
    obtain rfl := Option.some.inj hf
    exact r_vret (pc := 29) X dX4_add_29 hk

theorem dX4_changeLast_0 : decode cX4_changeLast 0 = .ok (.aload_n 0, 1) := by decide +kernel
theorem dX4_changeLast_1 : decode cX4_changeLast 1 = .ok (.getfield 27, 3) := by decide +kernel
theorem dX4_changeLast_4 : decode cX4_changeLast 4 = .ok (.ifCond .le 15, 3) := by decide +kernel
theorem dX4_changeLast_7 : decode cX4_changeLast 7 = .ok (.aload_n 0, 1) := by decide +kernel
theorem dX4_changeLast_8 : decode cX4_changeLast 8 = .ok (.getfield 9, 3) := by decide +kernel
theorem dX4_changeLast_11 : decode cX4_changeLast 11 = .ok (.aload_n 0, 1) := by decide +kernel
theorem dX4_changeLast_12 : decode cX4_changeLast 12 = .ok (.getfield 27, 3) := by decide +kernel
theorem dX4_changeLast_15 : decode cX4_changeLast 15 = .ok (.iconst 1, 1) := by decide +kernel
theorem dX4_changeLast_16 : decode cX4_changeLast 16 = .ok (.isub, 1) := by decide +kernel
theorem dX4_changeLast_17 : decode cX4_changeLast 17 = .ok (.iload_n 1, 1) := by decide +kernel
theorem dX4_changeLast_18 : decode cX4_changeLast 18 = .ok (.iastore, 1) := by decide +kernel
theorem dX4_changeLast_19 : decode cX4_changeLast 19 = .ok (.return_, 1) := by decide +kernel
def fn_X4_changeLast (h : aH) (p0 : Nat) (p1 : Int32) : Option (aH) :=
  (gI h p0 3 2).bind fun x1 =>
  if x1 ≤ 0 then
    some h
  else
    (gR h p0 3 0).bind fun a2 =>
    (gI h p0 3 2).bind fun x3 =>
    (wI h a2 (x3 - 1) p1).bind fun h4 =>
    some h4
set_option maxRecDepth 20000 in
set_option maxHeartbeats 4000000 in
theorem ev_X4_changeLast {l : Launch} {g : aG} {d : Nat} (hd : 0 ≤ d) (h : aH) (p0 : Nat) (p1 : Int32) (o : aH) (hf : fn_X4_changeLast h p0 p1 = some o) : EvM l g d yX4_changeLast cX4_changeLast 2 none [.ref p0, .int p1] h (none, o) := by
  refine EvM.of mk_X4_changeLast (Nat.le_of_ble_eq_true rfl) ?_
  intro Γ hl hg hq X
  have hd1 : 0 ≤ d := by omega
  have hk : RqV Γ o := hq
  unfold fn_X4_changeLast at hf
  show Jd Γ (0, 0) 0 [some (.ref p0), some (.int p1)] [] h
  refine r_aload_n (pc := 0) X dX4_changeLast_0 rfl ?_
  obtain ⟨x1, ex1, hf⟩ := ob hf
  refine r_getI (pc := 1) X dX4_changeLast_1 fl_X4_27 rfl ex1 ?_
  refine r_if_le (pc := 4) X 19 dX4_changeLast_4 (by decide) (fun c5 => ?_) (fun c5 => ?_)
  · rw [if_pos c5] at hf
    obtain rfl := Option.some.inj hf
    exact r_vret (pc := 19) X dX4_changeLast_19 hk
  · rw [if_neg c5] at hf
    refine r_aload_n (pc := 7) X dX4_changeLast_7 rfl ?_
    obtain ⟨a2, ea2, hf⟩ := ob hf
    refine r_getR (pc := 8) X dX4_changeLast_8 fl_X4_9 rfl ea2 ?_
    refine r_aload_n (pc := 11) X dX4_changeLast_11 rfl ?_
    obtain ⟨x3, ex3, hf⟩ := ob hf
    refine r_getI (pc := 12) X dX4_changeLast_12 fl_X4_27 rfl ex3 ?_
    refine r_iconst (pc := 15) X 1 dX4_changeLast_15 (by decide) ?_
    refine r_isub (pc := 16) X dX4_changeLast_16 ?_
    refine r_iload_n (pc := 17) X dX4_changeLast_17 rfl ?_
    obtain ⟨h4, eh4, hf⟩ := ob hf
    refine r_iast (pc := 18) X dX4_changeLast_18 eh4 ?_
    obtain rfl := Option.some.inj hf
    exact r_vret (pc := 19) X dX4_changeLast_19 hk

theorem dX4_valueOfThing_0 : decode cX4_valueOfThing 0 = .ok (.iload_n 0, 1) := by decide +kernel
theorem dX4_valueOfThing_1 : decode cX4_valueOfThing 1 = .ok (.sipush 1000, 3) := by decide +kernel
theorem dX4_valueOfThing_4 : decode cX4_valueOfThing 4 = .ok (.isub, 1) := by decide +kernel
theorem dX4_valueOfThing_5 : decode cX4_valueOfThing 5 = .ok (.istore_n 2, 1) := by decide +kernel
theorem dX4_valueOfThing_6 : decode cX4_valueOfThing 6 = .ok (.iload_n 2, 1) := by decide +kernel
theorem dX4_valueOfThing_7 : decode cX4_valueOfThing 7 = .ok (.ifCond .lt 15, 3) := by decide +kernel
theorem dX4_valueOfThing_10 : decode cX4_valueOfThing 10 = .ok (.iload_n 2, 1) := by decide +kernel
theorem dX4_valueOfThing_11 : decode cX4_valueOfThing 11 = .ok (.aload_n 1, 1) := by decide +kernel
theorem dX4_valueOfThing_12 : decode cX4_valueOfThing 12 = .ok (.arraylength, 1) := by decide +kernel
theorem dX4_valueOfThing_13 : decode cX4_valueOfThing 13 = .ok (.if_icmp .ge 9, 3) := by decide +kernel
theorem dX4_valueOfThing_16 : decode cX4_valueOfThing 16 = .ok (.aload_n 1, 1) := by decide +kernel
theorem dX4_valueOfThing_17 : decode cX4_valueOfThing 17 = .ok (.iload_n 2, 1) := by decide +kernel
theorem dX4_valueOfThing_18 : decode cX4_valueOfThing 18 = .ok (.iaload, 1) := by decide +kernel
theorem dX4_valueOfThing_19 : decode cX4_valueOfThing 19 = .ok (.goto 4, 3) := by decide +kernel
theorem dX4_valueOfThing_22 : decode cX4_valueOfThing 22 = .ok (.iload_n 0, 1) := by decide +kernel
theorem dX4_valueOfThing_23 : decode cX4_valueOfThing 23 = .ok (.ireturn, 1) := by decide +kernel
def fn_X4_valueOfThing (h : aH) (p0 : Int32) (p1 : Nat) : Option (Int32) :=
  (some (p0 - 1000)).bind fun x1 =>
  if x1 < 0 then
    some p0
  else
    (al h p1).bind fun x2 =>
    if x1 < x2 then
      (aI h p1 14 x1).bind fun x3 =>
      some x3
    else
      some p0
set_option maxRecDepth 20000 in
set_option maxHeartbeats 4000000 in
theorem ev_X4_valueOfThing {l : Launch} {g : aG} {d : Nat} (hd : 0 ≤ d) (h : aH) (p0 : Int32) (p1 : Nat) (o : Int32) (hf : fn_X4_valueOfThing h p0 p1 = some o) : EvM l g d yX4_valueOfThing cX4_valueOfThing 3 (some .int) [.int p0, .ref p1] h (some (.int o), h) := by
  refine EvM.of mk_X4_valueOfThing (Nat.le_of_ble_eq_true rfl) ?_
  intro Γ hl hg hq X
  have hd1 : 0 ≤ d := by omega
  have hk : RpI h Γ o := hq
  unfold fn_X4_valueOfThing at hf
  show Jd Γ (0, 0) 0 [some (.int p0), some (.ref p1), none] [] h
  refine r_iload_n (pc := 0) X dX4_valueOfThing_0 rfl ?_
  refine r_sipush (pc := 1) X 1000 dX4_valueOfThing_1 (by decide) ?_
  refine r_isub (pc := 4) X dX4_valueOfThing_4 ?_
  obtain ⟨x1, ex1, hf⟩ := ob hf
  refine r_nmI ex1 ?_
  refine r_istore_n (pc := 5) X [some (.int p0), some (.ref p1), some (.int x1)] dX4_valueOfThing_5 (by decide) rfl ?_
  refine r_iload_n (pc := 6) X dX4_valueOfThing_6 rfl ?_
  refine r_if_lt (pc := 7) X 22 dX4_valueOfThing_7 (by decide) (fun c5 => ?_) (fun c5 => ?_)
  · rw [if_pos c5] at hf
    refine r_iload_n (pc := 22) X dX4_valueOfThing_22 rfl ?_
    obtain rfl := Option.some.inj hf
    exact r_iret (pc := 23) X dX4_valueOfThing_23 hk
  · rw [if_neg c5] at hf
    refine r_iload_n (pc := 10) X dX4_valueOfThing_10 rfl ?_
    refine r_aload_n (pc := 11) X dX4_valueOfThing_11 rfl ?_
    obtain ⟨x2, ex2, hf⟩ := ob hf
    refine r_alen (pc := 12) X dX4_valueOfThing_12 ex2 ?_
    refine r_icmp_ge (pc := 13) X 22 dX4_valueOfThing_13 (by decide) (fun c4 => ?_) (fun c4 => ?_)
    · rw [if_neg c4] at hf
      refine r_iload_n (pc := 22) X dX4_valueOfThing_22 rfl ?_
      obtain rfl := Option.some.inj hf
      exact r_iret (pc := 23) X dX4_valueOfThing_23 hk
    · rw [if_pos c4] at hf
      refine r_aload_n (pc := 16) X dX4_valueOfThing_16 rfl ?_
      refine r_iload_n (pc := 17) X dX4_valueOfThing_17 rfl ?_
      obtain ⟨x3, ex3, hf⟩ := ob hf
      refine r_iald (pc := 18) X dX4_valueOfThing_18 ex3 ?_
      refine r_goto (pc := 19) X 23 dX4_valueOfThing_19 (by decide) ?_
      obtain rfl := Option.some.inj hf
      exact r_iret (pc := 23) X dX4_valueOfThing_23 hk

theorem dX4_joined_0 : decode cX4_joined 0 = .ok (.iload_n 0, 1) := by decide +kernel
theorem dX4_joined_1 : decode cX4_joined 1 = .ok (.lookupswitch 105 #[(42, 67), (43, 59), (45, 63), (47, 71), (60, 83), (62, 94)], 59) := by decide +kernel
theorem dX4_joined_60 : decode cX4_joined 60 = .ok (.iload_n 1, 1) := by decide +kernel
theorem dX4_joined_61 : decode cX4_joined 61 = .ok (.iload_n 2, 1) := by decide +kernel
theorem dX4_joined_62 : decode cX4_joined 62 = .ok (.iadd, 1) := by decide +kernel
theorem dX4_joined_63 : decode cX4_joined 63 = .ok (.ireturn, 1) := by decide +kernel
theorem dX4_joined_64 : decode cX4_joined 64 = .ok (.iload_n 1, 1) := by decide +kernel
theorem dX4_joined_65 : decode cX4_joined 65 = .ok (.iload_n 2, 1) := by decide +kernel
theorem dX4_joined_66 : decode cX4_joined 66 = .ok (.isub, 1) := by decide +kernel
theorem dX4_joined_67 : decode cX4_joined 67 = .ok (.ireturn, 1) := by decide +kernel
theorem dX4_joined_68 : decode cX4_joined 68 = .ok (.iload_n 1, 1) := by decide +kernel
theorem dX4_joined_69 : decode cX4_joined 69 = .ok (.iload_n 2, 1) := by decide +kernel
theorem dX4_joined_70 : decode cX4_joined 70 = .ok (.imul, 1) := by decide +kernel
theorem dX4_joined_71 : decode cX4_joined 71 = .ok (.ireturn, 1) := by decide +kernel
theorem dX4_joined_72 : decode cX4_joined 72 = .ok (.iload_n 2, 1) := by decide +kernel
theorem dX4_joined_73 : decode cX4_joined 73 = .ok (.ifCond .ne 7, 3) := by decide +kernel
theorem dX4_joined_76 : decode cX4_joined 76 = .ok (.iconst 0, 1) := by decide +kernel
theorem dX4_joined_77 : decode cX4_joined 77 = .ok (.goto 6, 3) := by decide +kernel
theorem dX4_joined_80 : decode cX4_joined 80 = .ok (.iload_n 1, 1) := by decide +kernel
theorem dX4_joined_81 : decode cX4_joined 81 = .ok (.iload_n 2, 1) := by decide +kernel
theorem dX4_joined_82 : decode cX4_joined 82 = .ok (.idiv, 1) := by decide +kernel
theorem dX4_joined_83 : decode cX4_joined 83 = .ok (.ireturn, 1) := by decide +kernel
theorem dX4_joined_84 : decode cX4_joined 84 = .ok (.iload_n 1, 1) := by decide +kernel
theorem dX4_joined_85 : decode cX4_joined 85 = .ok (.iload_n 2, 1) := by decide +kernel
theorem dX4_joined_86 : decode cX4_joined 86 = .ok (.if_icmp .ge 7, 3) := by decide +kernel
theorem dX4_joined_89 : decode cX4_joined 89 = .ok (.iconst 1, 1) := by decide +kernel
theorem dX4_joined_90 : decode cX4_joined 90 = .ok (.goto 4, 3) := by decide +kernel
theorem dX4_joined_93 : decode cX4_joined 93 = .ok (.iconst 0, 1) := by decide +kernel
theorem dX4_joined_94 : decode cX4_joined 94 = .ok (.ireturn, 1) := by decide +kernel
theorem dX4_joined_95 : decode cX4_joined 95 = .ok (.iload_n 1, 1) := by decide +kernel
theorem dX4_joined_96 : decode cX4_joined 96 = .ok (.iload_n 2, 1) := by decide +kernel
theorem dX4_joined_97 : decode cX4_joined 97 = .ok (.if_icmp .le 7, 3) := by decide +kernel
theorem dX4_joined_100 : decode cX4_joined 100 = .ok (.iconst 1, 1) := by decide +kernel
theorem dX4_joined_101 : decode cX4_joined 101 = .ok (.goto 4, 3) := by decide +kernel
theorem dX4_joined_104 : decode cX4_joined 104 = .ok (.iconst 0, 1) := by decide +kernel
theorem dX4_joined_105 : decode cX4_joined 105 = .ok (.ireturn, 1) := by decide +kernel
theorem dX4_joined_106 : decode cX4_joined 106 = .ok (.iload_n 1, 1) := by decide +kernel
theorem dX4_joined_107 : decode cX4_joined 107 = .ok (.iload_n 2, 1) := by decide +kernel
theorem dX4_joined_108 : decode cX4_joined 108 = .ok (.if_icmp .ne 7, 3) := by decide +kernel
theorem dX4_joined_111 : decode cX4_joined 111 = .ok (.iconst 1, 1) := by decide +kernel
theorem dX4_joined_112 : decode cX4_joined 112 = .ok (.goto 4, 3) := by decide +kernel
theorem dX4_joined_115 : decode cX4_joined 115 = .ok (.iconst 0, 1) := by decide +kernel
theorem dX4_joined_116 : decode cX4_joined 116 = .ok (.ireturn, 1) := by decide +kernel
def fn_X4_joined (h : aH) (p0 : Int32) (p1 : Int32) (p2 : Int32) : Option (Int32) :=
  if p0 = 42 then
    some (p1 * p2)
  else
  if p0 = 43 then
    some (p1 + p2)
  else
  if p0 = 45 then
    some (p1 - p2)
  else
  if p0 = 47 then
    if p2 = 0 then
      some 0
    else
      (idv p1 p2).bind fun x5 =>
      some x5
  else
  if p0 = 60 then
    if p1 < p2 then
      some 1
    else
      some 0
  else
  if p0 = 62 then
    if p1 ≤ p2 then
      some 0
    else
      some 1
  else
  if p1 = p2 then
    some 1
  else
    some 0
set_option maxRecDepth 20000 in
set_option maxHeartbeats 4000000 in
theorem ev_X4_joined {l : Launch} {g : aG} {d : Nat} (hd : 0 ≤ d) (h : aH) (p0 : Int32) (p1 : Int32) (p2 : Int32) (o : Int32) (hf : fn_X4_joined h p0 p1 p2 = some o) : EvM l g d yX4_joined cX4_joined 3 (some .int) [.int p0, .int p1, .int p2] h (some (.int o), h) := by
  refine EvM.of mk_X4_joined (Nat.le_of_ble_eq_true rfl) ?_
  intro Γ hl hg hq X
  have hd1 : 0 ≤ d := by omega
  have hk : RpI h Γ o := hq
  unfold fn_X4_joined at hf
  show Jd Γ (0, 0) 0 [some (.int p0), some (.int p1), some (.int p2)] [] h
  refine r_iload_n (pc := 0) X dX4_joined_0 rfl ?_
  by_cases c1 : p0 = 42
  · rw [if_pos c1] at hf
    refine r_lookup (pc := 1) X 68 dX4_joined_1 (by decide) (by rw [c1] <;> rfl) (by decide) ?_
    refine r_iload_n (pc := 68) X dX4_joined_68 rfl ?_
    refine r_iload_n (pc := 69) X dX4_joined_69 rfl ?_
    refine r_imul (pc := 70) X dX4_joined_70 ?_
    obtain rfl := Option.some.inj hf
    exact r_iret (pc := 71) X dX4_joined_71 hk
  rw [if_neg c1] at hf
  by_cases c2 : p0 = 43
  · rw [if_pos c2] at hf
    refine r_lookup (pc := 1) X 60 dX4_joined_1 (by decide) (by rw [c2] <;> rfl) (by decide) ?_
    refine r_iload_n (pc := 60) X dX4_joined_60 rfl ?_
    refine r_iload_n (pc := 61) X dX4_joined_61 rfl ?_
    refine r_iadd (pc := 62) X dX4_joined_62 ?_
    obtain rfl := Option.some.inj hf
    exact r_iret (pc := 63) X dX4_joined_63 hk
  rw [if_neg c2] at hf
  by_cases c3 : p0 = 45
  · rw [if_pos c3] at hf
    refine r_lookup (pc := 1) X 64 dX4_joined_1 (by decide) (by rw [c3] <;> rfl) (by decide) ?_
    refine r_iload_n (pc := 64) X dX4_joined_64 rfl ?_
    refine r_iload_n (pc := 65) X dX4_joined_65 rfl ?_
    refine r_isub (pc := 66) X dX4_joined_66 ?_
    obtain rfl := Option.some.inj hf
    exact r_iret (pc := 67) X dX4_joined_67 hk
  rw [if_neg c3] at hf
  by_cases c4 : p0 = 47
  · rw [if_pos c4] at hf
    refine r_lookup (pc := 1) X 72 dX4_joined_1 (by decide) (by rw [c4] <;> rfl) (by decide) ?_
    refine r_iload_n (pc := 72) X dX4_joined_72 rfl ?_
    refine r_if_ne (pc := 73) X 80 dX4_joined_73 (by decide) (fun c6 => ?_) (fun c6 => ?_)
    · rw [if_neg c6] at hf
      refine r_iload_n (pc := 80) X dX4_joined_80 rfl ?_
      refine r_iload_n (pc := 81) X dX4_joined_81 rfl ?_
      obtain ⟨x5, ex5, hf⟩ := ob hf
      refine r_idiv (pc := 82) X dX4_joined_82 ex5 ?_
      obtain rfl := Option.some.inj hf
      exact r_iret (pc := 83) X dX4_joined_83 hk
    · rw [if_pos c6] at hf
      refine r_iconst (pc := 76) X 0 dX4_joined_76 (by decide) ?_
      refine r_goto (pc := 77) X 83 dX4_joined_77 (by decide) ?_
      obtain rfl := Option.some.inj hf
      exact r_iret (pc := 83) X dX4_joined_83 hk
  rw [if_neg c4] at hf
  by_cases c7 : p0 = 60
  · rw [if_pos c7] at hf
    refine r_lookup (pc := 1) X 84 dX4_joined_1 (by decide) (by rw [c7] <;> rfl) (by decide) ?_
    refine r_iload_n (pc := 84) X dX4_joined_84 rfl ?_
    refine r_iload_n (pc := 85) X dX4_joined_85 rfl ?_
    refine r_icmp_ge (pc := 86) X 93 dX4_joined_86 (by decide) (fun c8 => ?_) (fun c8 => ?_)
    · rw [if_neg c8] at hf
      refine r_iconst (pc := 93) X 0 dX4_joined_93 (by decide) ?_
      obtain rfl := Option.some.inj hf
      exact r_iret (pc := 94) X dX4_joined_94 hk
    · rw [if_pos c8] at hf
      refine r_iconst (pc := 89) X 1 dX4_joined_89 (by decide) ?_
      refine r_goto (pc := 90) X 94 dX4_joined_90 (by decide) ?_
      obtain rfl := Option.some.inj hf
      exact r_iret (pc := 94) X dX4_joined_94 hk
  rw [if_neg c7] at hf
  by_cases c9 : p0 = 62
  · rw [if_pos c9] at hf
    refine r_lookup (pc := 1) X 95 dX4_joined_1 (by decide) (by rw [c9] <;> rfl) (by decide) ?_
    refine r_iload_n (pc := 95) X dX4_joined_95 rfl ?_
    refine r_iload_n (pc := 96) X dX4_joined_96 rfl ?_
    refine r_icmp_le (pc := 97) X 104 dX4_joined_97 (by decide) (fun c10 => ?_) (fun c10 => ?_)
    · rw [if_pos c10] at hf
      refine r_iconst (pc := 104) X 0 dX4_joined_104 (by decide) ?_
      obtain rfl := Option.some.inj hf
      exact r_iret (pc := 105) X dX4_joined_105 hk
    · rw [if_neg c10] at hf
      refine r_iconst (pc := 100) X 1 dX4_joined_100 (by decide) ?_
      refine r_goto (pc := 101) X 105 dX4_joined_101 (by decide) ?_
      obtain rfl := Option.some.inj hf
      exact r_iret (pc := 105) X dX4_joined_105 hk
  rw [if_neg c9] at hf
  refine r_lookup (off := (105 : Int)) (pc := 1) X 106 dX4_joined_1 (by decide) ((lv_osw c1 (by decide)).trans ((lv_osw c2 (by decide)).trans ((lv_osw c3 (by decide)).trans ((lv_osw c4 (by decide)).trans ((lv_osw c7 (by decide)).trans ((lv_osw c9 (by decide)).trans rfl)))))) (by decide) ?_
  refine r_iload_n (pc := 106) X dX4_joined_106 rfl ?_
  refine r_iload_n (pc := 107) X dX4_joined_107 rfl ?_
  refine r_icmp_ne (pc := 108) X 115 dX4_joined_108 (by decide) (fun c11 => ?_) (fun c11 => ?_)
  · rw [if_neg c11] at hf
    refine r_iconst (pc := 115) X 0 dX4_joined_115 (by decide) ?_
    obtain rfl := Option.some.inj hf
    exact r_iret (pc := 116) X dX4_joined_116 hk
  · rw [if_pos c11] at hf
    refine r_iconst (pc := 111) X 1 dX4_joined_111 (by decide) ?_
    refine r_goto (pc := 112) X 116 dX4_joined_112 (by decide) ?_
    obtain rfl := Option.some.inj hf
    exact r_iret (pc := 116) X dX4_joined_116 hk

theorem dX4_value_0 : decode cX4_value 0 = .ok (.iconst 0, 1) := by decide +kernel
theorem dX4_value_1 : decode cX4_value 1 = .ok (.istore_n 2, 1) := by decide +kernel
theorem dX4_value_2 : decode cX4_value 2 = .ok (.iconst 0, 1) := by decide +kernel
theorem dX4_value_3 : decode cX4_value 3 = .ok (.istore_n 3, 1) := by decide +kernel
theorem dX4_value_4 : decode cX4_value 4 = .ok (.iload_n 3, 1) := by decide +kernel
theorem dX4_value_5 : decode cX4_value 5 = .ok (.aload_n 0, 1) := by decide +kernel
theorem dX4_value_6 : decode cX4_value 6 = .ok (.getfield 27, 3) := by decide +kernel
theorem dX4_value_9 : decode cX4_value 9 = .ok (.if_icmp .ge 120, 3) := by decide +kernel
theorem dX4_value_12 : decode cX4_value 12 = .ok (.aload_n 0, 1) := by decide +kernel
theorem dX4_value_13 : decode cX4_value 13 = .ok (.getfield 9, 3) := by decide +kernel
theorem dX4_value_16 : decode cX4_value 16 = .ok (.iload_n 3, 1) := by decide +kernel
theorem dX4_value_17 : decode cX4_value 17 = .ok (.iaload, 1) := by decide +kernel
theorem dX4_value_18 : decode cX4_value 18 = .ok (.istore 4, 2) := by decide +kernel
theorem dX4_value_20 : decode cX4_value 20 = .ok (.iload 4, 2) := by decide +kernel
theorem dX4_value_22 : decode cX4_value 22 = .ok (.sipush 2000, 3) := by decide +kernel
theorem dX4_value_25 : decode cX4_value 25 = .ok (.if_icmp .ge 27, 3) := by decide +kernel
theorem dX4_value_28 : decode cX4_value 28 = .ok (.iload_n 2, 1) := by decide +kernel
theorem dX4_value_29 : decode cX4_value 29 = .ok (.bipush 40, 2) := by decide +kernel
theorem dX4_value_31 : decode cX4_value 31 = .ok (.if_icmp .ge 21, 3) := by decide +kernel
theorem dX4_value_34 : decode cX4_value 34 = .ok (.aload_n 0, 1) := by decide +kernel
theorem dX4_value_35 : decode cX4_value 35 = .ok (.getfield 15, 3) := by decide +kernel
theorem dX4_value_38 : decode cX4_value 38 = .ok (.iload_n 2, 1) := by decide +kernel
theorem dX4_value_39 : decode cX4_value 39 = .ok (.iload 4, 2) := by decide +kernel
theorem dX4_value_41 : decode cX4_value 41 = .ok (.aload_n 1, 1) := by decide +kernel
theorem dX4_value_42 : decode cX4_value 42 = .ok (.invokestatic 34, 3) := by decide +kernel
theorem dX4_value_45 : decode cX4_value 45 = .ok (.iastore, 1) := by decide +kernel
theorem dX4_value_46 : decode cX4_value 46 = .ok (.iinc 2 1, 3) := by decide +kernel
theorem dX4_value_49 : decode cX4_value 49 = .ok (.goto 74, 3) := by decide +kernel
theorem dX4_value_52 : decode cX4_value 52 = .ok (.iload 4, 2) := by decide +kernel
theorem dX4_value_54 : decode cX4_value 54 = .ok (.sipush 3000, 3) := by decide +kernel
theorem dX4_value_57 : decode cX4_value 57 = .ok (.if_icmp .ne 27, 3) := by decide +kernel
theorem dX4_value_60 : decode cX4_value 60 = .ok (.iload_n 2, 1) := by decide +kernel
theorem dX4_value_61 : decode cX4_value 61 = .ok (.ifCond .le 23, 3) := by decide +kernel
theorem dX4_value_64 : decode cX4_value 64 = .ok (.aload_n 0, 1) := by decide +kernel
theorem dX4_value_65 : decode cX4_value 65 = .ok (.getfield 15, 3) := by decide +kernel
theorem dX4_value_68 : decode cX4_value 68 = .ok (.iload_n 2, 1) := by decide +kernel
theorem dX4_value_69 : decode cX4_value 69 = .ok (.iconst 1, 1) := by decide +kernel
theorem dX4_value_70 : decode cX4_value 70 = .ok (.isub, 1) := by decide +kernel
theorem dX4_value_71 : decode cX4_value 71 = .ok (.aload_n 0, 1) := by decide +kernel
theorem dX4_value_72 : decode cX4_value 72 = .ok (.getfield 15, 3) := by decide +kernel
theorem dX4_value_75 : decode cX4_value 75 = .ok (.iload_n 2, 1) := by decide +kernel
theorem dX4_value_76 : decode cX4_value 76 = .ok (.iconst 1, 1) := by decide +kernel
theorem dX4_value_77 : decode cX4_value 77 = .ok (.isub, 1) := by decide +kernel
theorem dX4_value_78 : decode cX4_value 78 = .ok (.iaload, 1) := by decide +kernel
theorem dX4_value_79 : decode cX4_value 79 = .ok (.ineg, 1) := by decide +kernel
theorem dX4_value_80 : decode cX4_value 80 = .ok (.iastore, 1) := by decide +kernel
theorem dX4_value_81 : decode cX4_value 81 = .ok (.goto 42, 3) := by decide +kernel
theorem dX4_value_84 : decode cX4_value 84 = .ok (.iload_n 2, 1) := by decide +kernel
theorem dX4_value_85 : decode cX4_value 85 = .ok (.iconst 1, 1) := by decide +kernel
theorem dX4_value_86 : decode cX4_value 86 = .ok (.if_icmp .le 37, 3) := by decide +kernel
theorem dX4_value_89 : decode cX4_value 89 = .ok (.iinc 2 (-1), 3) := by decide +kernel
theorem dX4_value_92 : decode cX4_value 92 = .ok (.aload_n 0, 1) := by decide +kernel
theorem dX4_value_93 : decode cX4_value 93 = .ok (.getfield 15, 3) := by decide +kernel
theorem dX4_value_96 : decode cX4_value 96 = .ok (.iload_n 2, 1) := by decide +kernel
theorem dX4_value_97 : decode cX4_value 97 = .ok (.iconst 1, 1) := by decide +kernel
theorem dX4_value_98 : decode cX4_value 98 = .ok (.isub, 1) := by decide +kernel
theorem dX4_value_99 : decode cX4_value 99 = .ok (.iload 4, 2) := by decide +kernel
theorem dX4_value_101 : decode cX4_value 101 = .ok (.sipush 2000, 3) := by decide +kernel
theorem dX4_value_104 : decode cX4_value 104 = .ok (.isub, 1) := by decide +kernel
theorem dX4_value_105 : decode cX4_value 105 = .ok (.aload_n 0, 1) := by decide +kernel
theorem dX4_value_106 : decode cX4_value 106 = .ok (.getfield 15, 3) := by decide +kernel
theorem dX4_value_109 : decode cX4_value 109 = .ok (.iload_n 2, 1) := by decide +kernel
theorem dX4_value_110 : decode cX4_value 110 = .ok (.iconst 1, 1) := by decide +kernel
theorem dX4_value_111 : decode cX4_value 111 = .ok (.isub, 1) := by decide +kernel
theorem dX4_value_112 : decode cX4_value 112 = .ok (.iaload, 1) := by decide +kernel
theorem dX4_value_113 : decode cX4_value 113 = .ok (.aload_n 0, 1) := by decide +kernel
theorem dX4_value_114 : decode cX4_value 114 = .ok (.getfield 15, 3) := by decide +kernel
theorem dX4_value_117 : decode cX4_value 117 = .ok (.iload_n 2, 1) := by decide +kernel
theorem dX4_value_118 : decode cX4_value 118 = .ok (.iaload, 1) := by decide +kernel
theorem dX4_value_119 : decode cX4_value 119 = .ok (.invokestatic 38, 3) := by decide +kernel
theorem dX4_value_122 : decode cX4_value 122 = .ok (.iastore, 1) := by decide +kernel
theorem dX4_value_123 : decode cX4_value 123 = .ok (.iinc 3 1, 3) := by decide +kernel
theorem dX4_value_126 : decode cX4_value 126 = .ok (.goto (-122), 3) := by decide +kernel
theorem dX4_value_129 : decode cX4_value 129 = .ok (.aload_n 0, 1) := by decide +kernel
theorem dX4_value_130 : decode cX4_value 130 = .ok (.getfield 15, 3) := by decide +kernel
theorem dX4_value_133 : decode cX4_value 133 = .ok (.iconst 0, 1) := by decide +kernel
theorem dX4_value_134 : decode cX4_value 134 = .ok (.iaload, 1) := by decide +kernel
theorem dX4_value_135 : decode cX4_value 135 = .ok (.ireturn, 1) := by decide +kernel
def lb_X4_value_4 (v0 : Nat) (v1 : Nat) (s : Int32 × Int32 × aH) : Option ((Int32 × Int32 × aH) ⊕ ((Int32 × aH))) :=
  (gI s.2.2 v0 3 2).bind fun x1 =>
  if s.2.1 < x1 then
    (gR s.2.2 v0 3 0).bind fun a4 =>
    (aI s.2.2 a4 14 s.2.1).bind fun x5 =>
    if x5 < 2000 then
      if s.1 < 40 then
        (gR s.2.2 v0 3 1).bind fun a64 =>
        (fn_X4_valueOfThing s.2.2 x5 v1).bind fun x65 =>
        (wI s.2.2 a64 s.1 x65).bind fun h66 =>
        (some (s.1 + 1)).bind fun x67 =>
        (some (s.2.1 + 1)).bind fun x68 =>
        some (.inl (x67, x68, h66))
      else
        if x5 = 3000 then
          if s.1 ≤ 0 then
            if s.1 ≤ 1 then
              (some (s.2.1 + 1)).bind fun x46 =>
              some (.inl (s.1, x46, s.2.2))
            else
              (some (s.1 + (-1))).bind fun x47 =>
              (gR s.2.2 v0 3 1).bind fun a48 =>
              (gR s.2.2 v0 3 1).bind fun a49 =>
              (aI s.2.2 a49 14 (x47 - 1)).bind fun x50 =>
              (gR s.2.2 v0 3 1).bind fun a51 =>
              (aI s.2.2 a51 14 x47).bind fun x52 =>
              (fn_X4_joined s.2.2 (x5 - 2000) x50 x52).bind fun x53 =>
              (wI s.2.2 a48 (x47 - 1) x53).bind fun h54 =>
              (some (s.2.1 + 1)).bind fun x55 =>
              some (.inl (x47, x55, h54))
          else
            (gR s.2.2 v0 3 1).bind fun a57 =>
            (gR s.2.2 v0 3 1).bind fun a58 =>
            (aI s.2.2 a58 14 (s.1 - 1)).bind fun x59 =>
            (wI s.2.2 a57 (s.1 - 1) (-x59)).bind fun h60 =>
            (some (s.2.1 + 1)).bind fun x61 =>
            some (.inl (s.1, x61, h60))
        else
          if s.1 ≤ 1 then
            (some (s.2.1 + 1)).bind fun x35 =>
            some (.inl (s.1, x35, s.2.2))
          else
            (some (s.1 + (-1))).bind fun x36 =>
            (gR s.2.2 v0 3 1).bind fun a37 =>
            (gR s.2.2 v0 3 1).bind fun a38 =>
            (aI s.2.2 a38 14 (x36 - 1)).bind fun x39 =>
            (gR s.2.2 v0 3 1).bind fun a40 =>
            (aI s.2.2 a40 14 x36).bind fun x41 =>
            (fn_X4_joined s.2.2 (x5 - 2000) x39 x41).bind fun x42 =>
            (wI s.2.2 a37 (x36 - 1) x42).bind fun h43 =>
            (some (s.2.1 + 1)).bind fun x44 =>
            some (.inl (x36, x44, h43))
    else
      if x5 = 3000 then
        if s.1 ≤ 0 then
          if s.1 ≤ 1 then
            (some (s.2.1 + 1)).bind fun x17 =>
            some (.inl (s.1, x17, s.2.2))
          else
            (some (s.1 + (-1))).bind fun x18 =>
            (gR s.2.2 v0 3 1).bind fun a19 =>
            (gR s.2.2 v0 3 1).bind fun a20 =>
            (aI s.2.2 a20 14 (x18 - 1)).bind fun x21 =>
            (gR s.2.2 v0 3 1).bind fun a22 =>
            (aI s.2.2 a22 14 x18).bind fun x23 =>
            (fn_X4_joined s.2.2 (x5 - 2000) x21 x23).bind fun x24 =>
            (wI s.2.2 a19 (x18 - 1) x24).bind fun h25 =>
            (some (s.2.1 + 1)).bind fun x26 =>
            some (.inl (x18, x26, h25))
        else
          (gR s.2.2 v0 3 1).bind fun a28 =>
          (gR s.2.2 v0 3 1).bind fun a29 =>
          (aI s.2.2 a29 14 (s.1 - 1)).bind fun x30 =>
          (wI s.2.2 a28 (s.1 - 1) (-x30)).bind fun h31 =>
          (some (s.2.1 + 1)).bind fun x32 =>
          some (.inl (s.1, x32, h31))
      else
        if s.1 ≤ 1 then
          (some (s.2.1 + 1)).bind fun x6 =>
          some (.inl (s.1, x6, s.2.2))
        else
          (some (s.1 + (-1))).bind fun x7 =>
          (gR s.2.2 v0 3 1).bind fun a8 =>
          (gR s.2.2 v0 3 1).bind fun a9 =>
          (aI s.2.2 a9 14 (x7 - 1)).bind fun x10 =>
          (gR s.2.2 v0 3 1).bind fun a11 =>
          (aI s.2.2 a11 14 x7).bind fun x12 =>
          (fn_X4_joined s.2.2 (x5 - 2000) x10 x12).bind fun x13 =>
          (wI s.2.2 a8 (x7 - 1) x13).bind fun h14 =>
          (some (s.2.1 + 1)).bind fun x15 =>
          some (.inl (x7, x15, h14))
  else
    (gR s.2.2 v0 3 1).bind fun a2 =>
    (aI s.2.2 a2 14 0).bind fun x3 =>
    some (.inr (x3, s.2.2))
def hd_X4_value_4 (Γ : aC) (v0 : Nat) (v1 : Nat) (s : Int32 × Int32 × aH) : Prop := ∀ (j4 : Option Value), Jd Γ (0, 0) 4 [some (.ref v0), some (.ref v1), some (.int s.1), some (.int s.2.1), j4] [] s.2.2
def ex_X4_value_4 (Γ : aC) (v0 : Nat) (v1 : Nat) (r : (Int32 × aH)) : Prop := (fun r => RqI Γ r) r
set_option maxRecDepth 20000 in
set_option maxHeartbeats 4000000 in
theorem lw_X4_value_4 {Γ : aC} {d : Nat} (X : Cx Γ RX4 cX4_value 5 (some .int) (d, 0, 0)) (hd : 1 ≤ d) (v0 : Nat) (v1 : Nat) : ∀ n s o, lp (lb_X4_value_4 v0 v1) n s = some o → ex_X4_value_4 Γ v0 v1 o → hd_X4_value_4 Γ v0 v1 s := by
  have hd1 : 1 ≤ d := by omega
  refine J_lp _ _ _ ?_
  intro s o hf hk j4
  unfold lb_X4_value_4 at hf
  refine r_iload_n (pc := 4) X dX4_value_4 rfl ?_
  refine r_aload_n (pc := 5) X dX4_value_5 rfl ?_
  obtain ⟨x1, ex1, hf⟩ := ob hf
  refine r_getI (pc := 6) X dX4_value_6 fl_X4_27 rfl ex1 ?_
  refine r_icmp_ge (pc := 9) X 129 dX4_value_9 (by decide) (fun c71 => ?_) (fun c71 => ?_)
  · rw [if_neg c71] at hf
    refine r_aload_n (pc := 129) X dX4_value_129 rfl ?_
    obtain ⟨a2, ea2, hf⟩ := ob hf
    refine r_getR (pc := 130) X dX4_value_130 fl_X4_15 rfl ea2 ?_
    refine r_iconst (pc := 133) X 0 dX4_value_133 (by decide) ?_
    obtain ⟨x3, ex3, hf⟩ := ob hf
    refine r_iald (pc := 134) X dX4_value_134 ex3 ?_
    obtain rfl := Option.some.inj hf
    exact r_iret (pc := 135) X dX4_value_135 hk
  · rw [if_pos c71] at hf
    refine r_aload_n (pc := 12) X dX4_value_12 rfl ?_
    obtain ⟨a4, ea4, hf⟩ := ob hf
    refine r_getR (pc := 13) X dX4_value_13 fl_X4_9 rfl ea4 ?_
    refine r_iload_n (pc := 16) X dX4_value_16 rfl ?_
    obtain ⟨x5, ex5, hf⟩ := ob hf
    refine r_iald (pc := 17) X dX4_value_17 ex5 ?_
    refine r_istore (pc := 18) X [some (.ref v0), some (.ref v1), some (.int s.1), some (.int s.2.1), some (.int x5)] dX4_value_18 (by decide) rfl ?_
    refine r_iload (pc := 20) X dX4_value_20 rfl ?_
    refine r_sipush (pc := 22) X 2000 dX4_value_22 (by decide) ?_
    refine r_icmp_ge (pc := 25) X 52 dX4_value_25 (by decide) (fun c70 => ?_) (fun c70 => ?_)
    · rw [if_neg c70] at hf
      refine r_iload (pc := 52) X dX4_value_52 rfl ?_
      refine r_sipush (pc := 54) X 3000 dX4_value_54 (by decide) ?_
      refine r_icmp_ne (pc := 57) X 84 dX4_value_57 (by decide) (fun c34 => ?_) (fun c34 => ?_)
      · rw [if_neg c34] at hf
        refine r_iload_n (pc := 84) X dX4_value_84 rfl ?_
        refine r_iconst (pc := 85) X 1 dX4_value_85 (by decide) ?_
        refine r_icmp_le (pc := 86) X 123 dX4_value_86 (by decide) (fun c16 => ?_) (fun c16 => ?_)
        · rw [if_pos c16] at hf
          obtain ⟨x6, ex6, hf⟩ := ob hf
          refine r_iinc2 (pc := 123) X 1 [some (.ref v0), some (.ref v1), some (.int s.1), some (.int x6), some (.int x5)] dX4_value_123 (by decide) rfl (by decide) ex6 rfl ?_
          refine r_goto (pc := 126) X 4 dX4_value_126 (by decide) ?_
          obtain rfl := Option.some.inj hf
          exact hk _
        · rw [if_neg c16] at hf
          obtain ⟨x7, ex7, hf⟩ := ob hf
          refine r_iinc2 (pc := 89) X (-1) [some (.ref v0), some (.ref v1), some (.int x7), some (.int s.2.1), some (.int x5)] dX4_value_89 (by decide) rfl (by decide) ex7 rfl ?_
          refine r_aload_n (pc := 92) X dX4_value_92 rfl ?_
          obtain ⟨a8, ea8, hf⟩ := ob hf
          refine r_getR (pc := 93) X dX4_value_93 fl_X4_15 rfl ea8 ?_
          refine r_iload_n (pc := 96) X dX4_value_96 rfl ?_
          refine r_iconst (pc := 97) X 1 dX4_value_97 (by decide) ?_
          refine r_isub (pc := 98) X dX4_value_98 ?_
          refine r_iload (pc := 99) X dX4_value_99 rfl ?_
          refine r_sipush (pc := 101) X 2000 dX4_value_101 (by decide) ?_
          refine r_isub (pc := 104) X dX4_value_104 ?_
          refine r_aload_n (pc := 105) X dX4_value_105 rfl ?_
          obtain ⟨a9, ea9, hf⟩ := ob hf
          refine r_getR (pc := 106) X dX4_value_106 fl_X4_15 rfl ea9 ?_
          refine r_iload_n (pc := 109) X dX4_value_109 rfl ?_
          refine r_iconst (pc := 110) X 1 dX4_value_110 (by decide) ?_
          refine r_isub (pc := 111) X dX4_value_111 ?_
          obtain ⟨x10, ex10, hf⟩ := ob hf
          refine r_iald (pc := 112) X dX4_value_112 ex10 ?_
          refine r_aload_n (pc := 113) X dX4_value_113 rfl ?_
          obtain ⟨a11, ea11, hf⟩ := ob hf
          refine r_getR (pc := 114) X dX4_value_114 fl_X4_15 rfl ea11 ?_
          refine r_iload_n (pc := 117) X dX4_value_117 rfl ?_
          obtain ⟨x12, ex12, hf⟩ := ob hf
          refine r_iald (pc := 118) X dX4_value_118 ex12 ?_
          obtain ⟨x13, ex13, hf⟩ := ob hf
          refine r_callSI (pc := 119) X [.int (x5 - 2000), .int x10, .int x12] dX4_value_119 ml_X4_38 so_X4_joined ⟨Nat.le_refl _, Nat.le_refl _⟩ (ev_X4_joined (d := d - 1) (by omega) _ _ _ _ _ ex13) hd1 rfl (Nat.le_of_ble_eq_true rfl) rfl ?_
          obtain ⟨h14, eh14, hf⟩ := ob hf
          refine r_iast (pc := 122) X dX4_value_122 eh14 ?_
          obtain ⟨x15, ex15, hf⟩ := ob hf
          refine r_iinc2 (pc := 123) X 1 [some (.ref v0), some (.ref v1), some (.int x7), some (.int x15), some (.int x5)] dX4_value_123 (by decide) rfl (by decide) ex15 rfl ?_
          refine r_goto (pc := 126) X 4 dX4_value_126 (by decide) ?_
          obtain rfl := Option.some.inj hf
          exact hk _
      · rw [if_pos c34] at hf
        refine r_iload_n (pc := 60) X dX4_value_60 rfl ?_
        refine r_if_le (pc := 61) X 84 dX4_value_61 (by decide) (fun c33 => ?_) (fun c33 => ?_)
        · rw [if_pos c33] at hf
          refine r_iload_n (pc := 84) X dX4_value_84 rfl ?_
          refine r_iconst (pc := 85) X 1 dX4_value_85 (by decide) ?_
          refine r_icmp_le (pc := 86) X 123 dX4_value_86 (by decide) (fun c27 => ?_) (fun c27 => ?_)
          · rw [if_pos c27] at hf
            obtain ⟨x17, ex17, hf⟩ := ob hf
            refine r_iinc2 (pc := 123) X 1 [some (.ref v0), some (.ref v1), some (.int s.1), some (.int x17), some (.int x5)] dX4_value_123 (by decide) rfl (by decide) ex17 rfl ?_
            refine r_goto (pc := 126) X 4 dX4_value_126 (by decide) ?_
            obtain rfl := Option.some.inj hf
            exact hk _
          · rw [if_neg c27] at hf
            obtain ⟨x18, ex18, hf⟩ := ob hf
            refine r_iinc2 (pc := 89) X (-1) [some (.ref v0), some (.ref v1), some (.int x18), some (.int s.2.1), some (.int x5)] dX4_value_89 (by decide) rfl (by decide) ex18 rfl ?_
            refine r_aload_n (pc := 92) X dX4_value_92 rfl ?_
            obtain ⟨a19, ea19, hf⟩ := ob hf
            refine r_getR (pc := 93) X dX4_value_93 fl_X4_15 rfl ea19 ?_
            refine r_iload_n (pc := 96) X dX4_value_96 rfl ?_
            refine r_iconst (pc := 97) X 1 dX4_value_97 (by decide) ?_
            refine r_isub (pc := 98) X dX4_value_98 ?_
            refine r_iload (pc := 99) X dX4_value_99 rfl ?_
            refine r_sipush (pc := 101) X 2000 dX4_value_101 (by decide) ?_
            refine r_isub (pc := 104) X dX4_value_104 ?_
            refine r_aload_n (pc := 105) X dX4_value_105 rfl ?_
            obtain ⟨a20, ea20, hf⟩ := ob hf
            refine r_getR (pc := 106) X dX4_value_106 fl_X4_15 rfl ea20 ?_
            refine r_iload_n (pc := 109) X dX4_value_109 rfl ?_
            refine r_iconst (pc := 110) X 1 dX4_value_110 (by decide) ?_
            refine r_isub (pc := 111) X dX4_value_111 ?_
            obtain ⟨x21, ex21, hf⟩ := ob hf
            refine r_iald (pc := 112) X dX4_value_112 ex21 ?_
            refine r_aload_n (pc := 113) X dX4_value_113 rfl ?_
            obtain ⟨a22, ea22, hf⟩ := ob hf
            refine r_getR (pc := 114) X dX4_value_114 fl_X4_15 rfl ea22 ?_
            refine r_iload_n (pc := 117) X dX4_value_117 rfl ?_
            obtain ⟨x23, ex23, hf⟩ := ob hf
            refine r_iald (pc := 118) X dX4_value_118 ex23 ?_
            obtain ⟨x24, ex24, hf⟩ := ob hf
            refine r_callSI (pc := 119) X [.int (x5 - 2000), .int x21, .int x23] dX4_value_119 ml_X4_38 so_X4_joined ⟨Nat.le_refl _, Nat.le_refl _⟩ (ev_X4_joined (d := d - 1) (by omega) _ _ _ _ _ ex24) hd1 rfl (Nat.le_of_ble_eq_true rfl) rfl ?_
            obtain ⟨h25, eh25, hf⟩ := ob hf
            refine r_iast (pc := 122) X dX4_value_122 eh25 ?_
            obtain ⟨x26, ex26, hf⟩ := ob hf
            refine r_iinc2 (pc := 123) X 1 [some (.ref v0), some (.ref v1), some (.int x18), some (.int x26), some (.int x5)] dX4_value_123 (by decide) rfl (by decide) ex26 rfl ?_
            refine r_goto (pc := 126) X 4 dX4_value_126 (by decide) ?_
            obtain rfl := Option.some.inj hf
            exact hk _
        · rw [if_neg c33] at hf
          refine r_aload_n (pc := 64) X dX4_value_64 rfl ?_
          obtain ⟨a28, ea28, hf⟩ := ob hf
          refine r_getR (pc := 65) X dX4_value_65 fl_X4_15 rfl ea28 ?_
          refine r_iload_n (pc := 68) X dX4_value_68 rfl ?_
          refine r_iconst (pc := 69) X 1 dX4_value_69 (by decide) ?_
          refine r_isub (pc := 70) X dX4_value_70 ?_
          refine r_aload_n (pc := 71) X dX4_value_71 rfl ?_
          obtain ⟨a29, ea29, hf⟩ := ob hf
          refine r_getR (pc := 72) X dX4_value_72 fl_X4_15 rfl ea29 ?_
          refine r_iload_n (pc := 75) X dX4_value_75 rfl ?_
          refine r_iconst (pc := 76) X 1 dX4_value_76 (by decide) ?_
          refine r_isub (pc := 77) X dX4_value_77 ?_
          obtain ⟨x30, ex30, hf⟩ := ob hf
          refine r_iald (pc := 78) X dX4_value_78 ex30 ?_
          refine r_ineg (pc := 79) X dX4_value_79 ?_
          obtain ⟨h31, eh31, hf⟩ := ob hf
          refine r_iast (pc := 80) X dX4_value_80 eh31 ?_
          refine r_goto (pc := 81) X 123 dX4_value_81 (by decide) ?_
          obtain ⟨x32, ex32, hf⟩ := ob hf
          refine r_iinc2 (pc := 123) X 1 [some (.ref v0), some (.ref v1), some (.int s.1), some (.int x32), some (.int x5)] dX4_value_123 (by decide) rfl (by decide) ex32 rfl ?_
          refine r_goto (pc := 126) X 4 dX4_value_126 (by decide) ?_
          obtain rfl := Option.some.inj hf
          exact hk _
    · rw [if_pos c70] at hf
      refine r_iload_n (pc := 28) X dX4_value_28 rfl ?_
      refine r_bipush (pc := 29) X 40 dX4_value_29 (by decide) ?_
      refine r_icmp_ge (pc := 31) X 52 dX4_value_31 (by decide) (fun c69 => ?_) (fun c69 => ?_)
      · rw [if_neg c69] at hf
        refine r_iload (pc := 52) X dX4_value_52 rfl ?_
        refine r_sipush (pc := 54) X 3000 dX4_value_54 (by decide) ?_
        refine r_icmp_ne (pc := 57) X 84 dX4_value_57 (by decide) (fun c63 => ?_) (fun c63 => ?_)
        · rw [if_neg c63] at hf
          refine r_iload_n (pc := 84) X dX4_value_84 rfl ?_
          refine r_iconst (pc := 85) X 1 dX4_value_85 (by decide) ?_
          refine r_icmp_le (pc := 86) X 123 dX4_value_86 (by decide) (fun c45 => ?_) (fun c45 => ?_)
          · rw [if_pos c45] at hf
            obtain ⟨x35, ex35, hf⟩ := ob hf
            refine r_iinc2 (pc := 123) X 1 [some (.ref v0), some (.ref v1), some (.int s.1), some (.int x35), some (.int x5)] dX4_value_123 (by decide) rfl (by decide) ex35 rfl ?_
            refine r_goto (pc := 126) X 4 dX4_value_126 (by decide) ?_
            obtain rfl := Option.some.inj hf
            exact hk _
          · rw [if_neg c45] at hf
            obtain ⟨x36, ex36, hf⟩ := ob hf
            refine r_iinc2 (pc := 89) X (-1) [some (.ref v0), some (.ref v1), some (.int x36), some (.int s.2.1), some (.int x5)] dX4_value_89 (by decide) rfl (by decide) ex36 rfl ?_
            refine r_aload_n (pc := 92) X dX4_value_92 rfl ?_
            obtain ⟨a37, ea37, hf⟩ := ob hf
            refine r_getR (pc := 93) X dX4_value_93 fl_X4_15 rfl ea37 ?_
            refine r_iload_n (pc := 96) X dX4_value_96 rfl ?_
            refine r_iconst (pc := 97) X 1 dX4_value_97 (by decide) ?_
            refine r_isub (pc := 98) X dX4_value_98 ?_
            refine r_iload (pc := 99) X dX4_value_99 rfl ?_
            refine r_sipush (pc := 101) X 2000 dX4_value_101 (by decide) ?_
            refine r_isub (pc := 104) X dX4_value_104 ?_
            refine r_aload_n (pc := 105) X dX4_value_105 rfl ?_
            obtain ⟨a38, ea38, hf⟩ := ob hf
            refine r_getR (pc := 106) X dX4_value_106 fl_X4_15 rfl ea38 ?_
            refine r_iload_n (pc := 109) X dX4_value_109 rfl ?_
            refine r_iconst (pc := 110) X 1 dX4_value_110 (by decide) ?_
            refine r_isub (pc := 111) X dX4_value_111 ?_
            obtain ⟨x39, ex39, hf⟩ := ob hf
            refine r_iald (pc := 112) X dX4_value_112 ex39 ?_
            refine r_aload_n (pc := 113) X dX4_value_113 rfl ?_
            obtain ⟨a40, ea40, hf⟩ := ob hf
            refine r_getR (pc := 114) X dX4_value_114 fl_X4_15 rfl ea40 ?_
            refine r_iload_n (pc := 117) X dX4_value_117 rfl ?_
            obtain ⟨x41, ex41, hf⟩ := ob hf
            refine r_iald (pc := 118) X dX4_value_118 ex41 ?_
            obtain ⟨x42, ex42, hf⟩ := ob hf
            refine r_callSI (pc := 119) X [.int (x5 - 2000), .int x39, .int x41] dX4_value_119 ml_X4_38 so_X4_joined ⟨Nat.le_refl _, Nat.le_refl _⟩ (ev_X4_joined (d := d - 1) (by omega) _ _ _ _ _ ex42) hd1 rfl (Nat.le_of_ble_eq_true rfl) rfl ?_
            obtain ⟨h43, eh43, hf⟩ := ob hf
            refine r_iast (pc := 122) X dX4_value_122 eh43 ?_
            obtain ⟨x44, ex44, hf⟩ := ob hf
            refine r_iinc2 (pc := 123) X 1 [some (.ref v0), some (.ref v1), some (.int x36), some (.int x44), some (.int x5)] dX4_value_123 (by decide) rfl (by decide) ex44 rfl ?_
            refine r_goto (pc := 126) X 4 dX4_value_126 (by decide) ?_
            obtain rfl := Option.some.inj hf
            exact hk _
        · rw [if_pos c63] at hf
          refine r_iload_n (pc := 60) X dX4_value_60 rfl ?_
          refine r_if_le (pc := 61) X 84 dX4_value_61 (by decide) (fun c62 => ?_) (fun c62 => ?_)
          · rw [if_pos c62] at hf
            refine r_iload_n (pc := 84) X dX4_value_84 rfl ?_
            refine r_iconst (pc := 85) X 1 dX4_value_85 (by decide) ?_
            refine r_icmp_le (pc := 86) X 123 dX4_value_86 (by decide) (fun c56 => ?_) (fun c56 => ?_)
            · rw [if_pos c56] at hf
              obtain ⟨x46, ex46, hf⟩ := ob hf
              refine r_iinc2 (pc := 123) X 1 [some (.ref v0), some (.ref v1), some (.int s.1), some (.int x46), some (.int x5)] dX4_value_123 (by decide) rfl (by decide) ex46 rfl ?_
              refine r_goto (pc := 126) X 4 dX4_value_126 (by decide) ?_
              obtain rfl := Option.some.inj hf
              exact hk _
            · rw [if_neg c56] at hf
              obtain ⟨x47, ex47, hf⟩ := ob hf
              refine r_iinc2 (pc := 89) X (-1) [some (.ref v0), some (.ref v1), some (.int x47), some (.int s.2.1), some (.int x5)] dX4_value_89 (by decide) rfl (by decide) ex47 rfl ?_
              refine r_aload_n (pc := 92) X dX4_value_92 rfl ?_
              obtain ⟨a48, ea48, hf⟩ := ob hf
              refine r_getR (pc := 93) X dX4_value_93 fl_X4_15 rfl ea48 ?_
              refine r_iload_n (pc := 96) X dX4_value_96 rfl ?_
              refine r_iconst (pc := 97) X 1 dX4_value_97 (by decide) ?_
              refine r_isub (pc := 98) X dX4_value_98 ?_
              refine r_iload (pc := 99) X dX4_value_99 rfl ?_
              refine r_sipush (pc := 101) X 2000 dX4_value_101 (by decide) ?_
              refine r_isub (pc := 104) X dX4_value_104 ?_
              refine r_aload_n (pc := 105) X dX4_value_105 rfl ?_
              obtain ⟨a49, ea49, hf⟩ := ob hf
              refine r_getR (pc := 106) X dX4_value_106 fl_X4_15 rfl ea49 ?_
              refine r_iload_n (pc := 109) X dX4_value_109 rfl ?_
              refine r_iconst (pc := 110) X 1 dX4_value_110 (by decide) ?_
              refine r_isub (pc := 111) X dX4_value_111 ?_
              obtain ⟨x50, ex50, hf⟩ := ob hf
              refine r_iald (pc := 112) X dX4_value_112 ex50 ?_
              refine r_aload_n (pc := 113) X dX4_value_113 rfl ?_
              obtain ⟨a51, ea51, hf⟩ := ob hf
              refine r_getR (pc := 114) X dX4_value_114 fl_X4_15 rfl ea51 ?_
              refine r_iload_n (pc := 117) X dX4_value_117 rfl ?_
              obtain ⟨x52, ex52, hf⟩ := ob hf
              refine r_iald (pc := 118) X dX4_value_118 ex52 ?_
              obtain ⟨x53, ex53, hf⟩ := ob hf
              refine r_callSI (pc := 119) X [.int (x5 - 2000), .int x50, .int x52] dX4_value_119 ml_X4_38 so_X4_joined ⟨Nat.le_refl _, Nat.le_refl _⟩ (ev_X4_joined (d := d - 1) (by omega) _ _ _ _ _ ex53) hd1 rfl (Nat.le_of_ble_eq_true rfl) rfl ?_
              obtain ⟨h54, eh54, hf⟩ := ob hf
              refine r_iast (pc := 122) X dX4_value_122 eh54 ?_
              obtain ⟨x55, ex55, hf⟩ := ob hf
              refine r_iinc2 (pc := 123) X 1 [some (.ref v0), some (.ref v1), some (.int x47), some (.int x55), some (.int x5)] dX4_value_123 (by decide) rfl (by decide) ex55 rfl ?_
              refine r_goto (pc := 126) X 4 dX4_value_126 (by decide) ?_
              obtain rfl := Option.some.inj hf
              exact hk _
          · rw [if_neg c62] at hf
            refine r_aload_n (pc := 64) X dX4_value_64 rfl ?_
            obtain ⟨a57, ea57, hf⟩ := ob hf
            refine r_getR (pc := 65) X dX4_value_65 fl_X4_15 rfl ea57 ?_
            refine r_iload_n (pc := 68) X dX4_value_68 rfl ?_
            refine r_iconst (pc := 69) X 1 dX4_value_69 (by decide) ?_
            refine r_isub (pc := 70) X dX4_value_70 ?_
            refine r_aload_n (pc := 71) X dX4_value_71 rfl ?_
            obtain ⟨a58, ea58, hf⟩ := ob hf
            refine r_getR (pc := 72) X dX4_value_72 fl_X4_15 rfl ea58 ?_
            refine r_iload_n (pc := 75) X dX4_value_75 rfl ?_
            refine r_iconst (pc := 76) X 1 dX4_value_76 (by decide) ?_
            refine r_isub (pc := 77) X dX4_value_77 ?_
            obtain ⟨x59, ex59, hf⟩ := ob hf
            refine r_iald (pc := 78) X dX4_value_78 ex59 ?_
            refine r_ineg (pc := 79) X dX4_value_79 ?_
            obtain ⟨h60, eh60, hf⟩ := ob hf
            refine r_iast (pc := 80) X dX4_value_80 eh60 ?_
            refine r_goto (pc := 81) X 123 dX4_value_81 (by decide) ?_
            obtain ⟨x61, ex61, hf⟩ := ob hf
            refine r_iinc2 (pc := 123) X 1 [some (.ref v0), some (.ref v1), some (.int s.1), some (.int x61), some (.int x5)] dX4_value_123 (by decide) rfl (by decide) ex61 rfl ?_
            refine r_goto (pc := 126) X 4 dX4_value_126 (by decide) ?_
            obtain rfl := Option.some.inj hf
            exact hk _
      · rw [if_pos c69] at hf
        refine r_aload_n (pc := 34) X dX4_value_34 rfl ?_
        obtain ⟨a64, ea64, hf⟩ := ob hf
        refine r_getR (pc := 35) X dX4_value_35 fl_X4_15 rfl ea64 ?_
        refine r_iload_n (pc := 38) X dX4_value_38 rfl ?_
        refine r_iload (pc := 39) X dX4_value_39 rfl ?_
        refine r_aload_n (pc := 41) X dX4_value_41 rfl ?_
        obtain ⟨x65, ex65, hf⟩ := ob hf
        refine r_callSI (pc := 42) X [.int x5, .ref v1] dX4_value_42 ml_X4_34 so_X4_valueOfThing ⟨Nat.le_refl _, Nat.le_refl _⟩ (ev_X4_valueOfThing (d := d - 1) (by omega) _ _ _ _ ex65) hd1 rfl (Nat.le_of_ble_eq_true rfl) rfl ?_
        obtain ⟨h66, eh66, hf⟩ := ob hf
        refine r_iast (pc := 45) X dX4_value_45 eh66 ?_
        obtain ⟨x67, ex67, hf⟩ := ob hf
        refine r_iinc2 (pc := 46) X 1 [some (.ref v0), some (.ref v1), some (.int x67), some (.int s.2.1), some (.int x5)] dX4_value_46 (by decide) rfl (by decide) ex67 rfl ?_
        refine r_goto (pc := 49) X 123 dX4_value_49 (by decide) ?_
        obtain ⟨x68, ex68, hf⟩ := ob hf
        refine r_iinc2 (pc := 123) X 1 [some (.ref v0), some (.ref v1), some (.int x67), some (.int x68), some (.int x5)] dX4_value_123 (by decide) rfl (by decide) ex68 rfl ?_
        refine r_goto (pc := 126) X 4 dX4_value_126 (by decide) ?_
        obtain rfl := Option.some.inj hf
        exact hk _
def fn_X4_value (h : aH) (p0 : Nat) (p1 : Nat) : Option (Int32 × aH) :=
  (lp (lb_X4_value_4 p0 p1) lpN (0, 0, h)).bind fun o72 =>
  some o72
set_option maxRecDepth 20000 in
set_option maxHeartbeats 4000000 in
theorem ev_X4_value {l : Launch} {g : aG} {d : Nat} (hd : 1 ≤ d) (h : aH) (p0 : Nat) (p1 : Nat) (o : Int32 × aH) (hf : fn_X4_value h p0 p1 = some o) : EvM l g d yX4_value cX4_value 5 (some .int) [.ref p0, .ref p1] h (some (.int o.1), o.2) := by
  refine EvM.of mk_X4_value (Nat.le_of_ble_eq_true rfl) ?_
  intro Γ hl hg hq X
  have hd1 : 1 ≤ d := by omega
  have hk : RqI Γ o := hq
  unfold fn_X4_value at hf
  show Jd Γ (0, 0) 0 [some (.ref p0), some (.ref p1), none, none, none] [] h
  refine r_iconst (pc := 0) X 0 dX4_value_0 (by decide) ?_
  refine r_istore_n (pc := 1) X [some (.ref p0), some (.ref p1), some (.int 0), none, none] dX4_value_1 (by decide) rfl ?_
  refine r_iconst (pc := 2) X 0 dX4_value_2 (by decide) ?_
  refine r_istore_n (pc := 3) X [some (.ref p0), some (.ref p1), some (.int 0), some (.int 0), none] dX4_value_3 (by decide) rfl ?_
  obtain ⟨o72, eo72, hf⟩ := ob hf
  refine (lw_X4_value_4 X hd _ _ lpN _ o72 eo72 ?_) _
  obtain rfl := Option.some.inj hf
  exact hk
