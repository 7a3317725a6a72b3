theorem dX0_hasBasin_0 : decode cX0_hasBasin 0 = .ok (.iload_n 1, 1) := by decide +kernel
theorem dX0_hasBasin_1 : decode cX0_hasBasin 1 = .ok (.ifCond .lt 15, 3) := by decide +kernel
theorem dX0_hasBasin_4 : decode cX0_hasBasin 4 = .ok (.iload_n 1, 1) := by decide +kernel
theorem dX0_hasBasin_5 : decode cX0_hasBasin 5 = .ok (.aload_n 0, 1) := by decide +kernel
theorem dX0_hasBasin_6 : decode cX0_hasBasin 6 = .ok (.getfield 29, 3) := by decide +kernel
theorem dX0_hasBasin_9 : decode cX0_hasBasin 9 = .ok (.if_icmp .ge 7, 3) := by decide +kernel
theorem dX0_hasBasin_12 : decode cX0_hasBasin 12 = .ok (.iconst 1, 1) := by decide +kernel
theorem dX0_hasBasin_13 : decode cX0_hasBasin 13 = .ok (.goto 4, 3) := by decide +kernel
theorem dX0_hasBasin_16 : decode cX0_hasBasin 16 = .ok (.iconst 0, 1) := by decide +kernel
theorem dX0_hasBasin_17 : decode cX0_hasBasin 17 = .ok (.ireturn, 1) := by decide +kernel
def fn_X0_hasBasin (h : aH) (p0 : Nat) (p1 : Int32) : Option (Int32) :=
  if p1 < 0 then
    some 0
  else
    (gI h p0 0 0).bind fun x1 =>
    if p1 < x1 then
      some 1
    else
      some 0
set_option maxRecDepth 20000 in
set_option maxHeartbeats 4000000 in
theorem ev_X0_hasBasin {l : Launch} {g : aG} {d : Nat} (hd : 0 ≤ d) (h : aH) (p0 : Nat) (p1 : Int32) (o : Int32) (hf : fn_X0_hasBasin h p0 p1 = some o) : EvM l g d yX0_hasBasin cX0_hasBasin 2 (some .boolean) [.ref p0, .int p1] h (some (.int o), h) := by
  refine EvM.of mk_X0_hasBasin (Nat.le_of_ble_eq_true rfl) ?_
  intro Γ hl hg hq X
  have hd1 : 0 ≤ d := by omega
  have hk : RpI h Γ o := hq
  unfold fn_X0_hasBasin at hf
  show Jd Γ (0, 0) 0 [some (.ref p0), some (.int p1)] [] h
  refine r_iload_n (pc := 0) X dX0_hasBasin_0 rfl ?_
  refine r_if_lt (pc := 1) X 16 dX0_hasBasin_1 (by decide) (fun c3 => ?_) (fun c3 => ?_)
  · rw [if_pos c3] at hf
    refine r_iconst (pc := 16) X 0 dX0_hasBasin_16 (by decide) ?_
    obtain rfl := Option.some.inj hf
    exact r_zret (pc := 17) X dX0_hasBasin_17 (Or.inl rfl) hk
  · rw [if_neg c3] at hf
    refine r_iload_n (pc := 4) X dX0_hasBasin_4 rfl ?_
    refine r_aload_n (pc := 5) X dX0_hasBasin_5 rfl ?_
    obtain ⟨x1, ex1, hf⟩ := ob hf
    refine r_getI (pc := 6) X dX0_hasBasin_6 fl_X0_29 rfl ex1 ?_
    refine r_icmp_ge (pc := 9) X 16 dX0_hasBasin_9 (by decide) (fun c2 => ?_) (fun c2 => ?_)
    · rw [if_neg c2] at hf
      refine r_iconst (pc := 16) X 0 dX0_hasBasin_16 (by decide) ?_
      obtain rfl := Option.some.inj hf
      exact r_zret (pc := 17) X dX0_hasBasin_17 (Or.inl rfl) hk
    · rw [if_pos c2] at hf
      refine r_iconst (pc := 12) X 1 dX0_hasBasin_12 (by decide) ?_
      refine r_goto (pc := 13) X 17 dX0_hasBasin_13 (by decide) ?_
      obtain rfl := Option.some.inj hf
      exact r_zret (pc := 17) X dX0_hasBasin_17 (Or.inr rfl) hk

theorem dX0_hasSluice_0 : decode cX0_hasSluice 0 = .ok (.iload_n 1, 1) := by decide +kernel
theorem dX0_hasSluice_1 : decode cX0_hasSluice 1 = .ok (.ifCond .lt 15, 3) := by decide +kernel
theorem dX0_hasSluice_4 : decode cX0_hasSluice 4 = .ok (.iload_n 1, 1) := by decide +kernel
theorem dX0_hasSluice_5 : decode cX0_hasSluice 5 = .ok (.aload_n 0, 1) := by decide +kernel
theorem dX0_hasSluice_6 : decode cX0_hasSluice 6 = .ok (.getfield 33, 3) := by decide +kernel
theorem dX0_hasSluice_9 : decode cX0_hasSluice 9 = .ok (.if_icmp .ge 7, 3) := by decide +kernel
theorem dX0_hasSluice_12 : decode cX0_hasSluice 12 = .ok (.iconst 1, 1) := by decide +kernel
theorem dX0_hasSluice_13 : decode cX0_hasSluice 13 = .ok (.goto 4, 3) := by decide +kernel
theorem dX0_hasSluice_16 : decode cX0_hasSluice 16 = .ok (.iconst 0, 1) := by decide +kernel
theorem dX0_hasSluice_17 : decode cX0_hasSluice 17 = .ok (.ireturn, 1) := by decide +kernel
def fn_X0_hasSluice (h : aH) (p0 : Nat) (p1 : Int32) : Option (Int32) :=
  if p1 < 0 then
    some 0
  else
    (gI h p0 0 1).bind fun x1 =>
    if p1 < x1 then
      some 1
    else
      some 0
set_option maxRecDepth 20000 in
set_option maxHeartbeats 4000000 in
theorem ev_X0_hasSluice {l : Launch} {g : aG} {d : Nat} (hd : 0 ≤ d) (h : aH) (p0 : Nat) (p1 : Int32) (o : Int32) (hf : fn_X0_hasSluice h p0 p1 = some o) : EvM l g d yX0_hasSluice cX0_hasSluice 2 (some .boolean) [.ref p0, .int p1] h (some (.int o), h) := by
  refine EvM.of mk_X0_hasSluice (Nat.le_of_ble_eq_true rfl) ?_
  intro Γ hl hg hq X
  have hd1 : 0 ≤ d := by omega
  have hk : RpI h Γ o := hq
  unfold fn_X0_hasSluice at hf
  show Jd Γ (0, 0) 0 [some (.ref p0), some (.int p1)] [] h
  refine r_iload_n (pc := 0) X dX0_hasSluice_0 rfl ?_
  refine r_if_lt (pc := 1) X 16 dX0_hasSluice_1 (by decide) (fun c3 => ?_) (fun c3 => ?_)
  · rw [if_pos c3] at hf
    refine r_iconst (pc := 16) X 0 dX0_hasSluice_16 (by decide) ?_
    obtain rfl := Option.some.inj hf
    exact r_zret (pc := 17) X dX0_hasSluice_17 (Or.inl rfl) hk
  · rw [if_neg c3] at hf
    refine r_iload_n (pc := 4) X dX0_hasSluice_4 rfl ?_
    refine r_aload_n (pc := 5) X dX0_hasSluice_5 rfl ?_
    obtain ⟨x1, ex1, hf⟩ := ob hf
    refine r_getI (pc := 6) X dX0_hasSluice_6 fl_X0_33 rfl ex1 ?_
    refine r_icmp_ge (pc := 9) X 16 dX0_hasSluice_9 (by decide) (fun c2 => ?_) (fun c2 => ?_)
    · rw [if_neg c2] at hf
      refine r_iconst (pc := 16) X 0 dX0_hasSluice_16 (by decide) ?_
      obtain rfl := Option.some.inj hf
      exact r_zret (pc := 17) X dX0_hasSluice_17 (Or.inl rfl) hk
    · rw [if_pos c2] at hf
      refine r_iconst (pc := 12) X 1 dX0_hasSluice_12 (by decide) ?_
      refine r_goto (pc := 13) X 17 dX0_hasSluice_13 (by decide) ?_
      obtain rfl := Option.some.inj hf
      exact r_zret (pc := 17) X dX0_hasSluice_17 (Or.inr rfl) hk

theorem dX0_addBasin_0 : decode cX0_addBasin 0 = .ok (.aload_n 0, 1) := by decide +kernel
theorem dX0_addBasin_1 : decode cX0_addBasin 1 = .ok (.getfield 29, 3) := by decide +kernel
theorem dX0_addBasin_4 : decode cX0_addBasin 4 = .ok (.bipush 6, 2) := by decide +kernel
theorem dX0_addBasin_6 : decode cX0_addBasin 6 = .ok (.if_icmp .ge 36, 3) := by decide +kernel
theorem dX0_addBasin_9 : decode cX0_addBasin 9 = .ok (.aload_n 0, 1) := by decide +kernel
theorem dX0_addBasin_10 : decode cX0_addBasin 10 = .ok (.dup, 1) := by decide +kernel
theorem dX0_addBasin_11 : decode cX0_addBasin 11 = .ok (.getfield 36, 3) := by decide +kernel
theorem dX0_addBasin_14 : decode cX0_addBasin 14 = .ok (.iload_n 1, 1) := by decide +kernel
theorem dX0_addBasin_15 : decode cX0_addBasin 15 = .ok (.ifCond .eq 12, 3) := by decide +kernel
theorem dX0_addBasin_18 : decode cX0_addBasin 18 = .ok (.iconst 1, 1) := by decide +kernel
theorem dX0_addBasin_19 : decode cX0_addBasin 19 = .ok (.aload_n 0, 1) := by decide +kernel
theorem dX0_addBasin_20 : decode cX0_addBasin 20 = .ok (.getfield 29, 3) := by decide +kernel
theorem dX0_addBasin_23 : decode cX0_addBasin 23 = .ok (.ishl, 1) := by decide +kernel
theorem dX0_addBasin_24 : decode cX0_addBasin 24 = .ok (.goto 4, 3) := by decide +kernel
theorem dX0_addBasin_27 : decode cX0_addBasin 27 = .ok (.iconst 0, 1) := by decide +kernel
theorem dX0_addBasin_28 : decode cX0_addBasin 28 = .ok (.ior, 1) := by decide +kernel
theorem dX0_addBasin_29 : decode cX0_addBasin 29 = .ok (.putfield 36, 3) := by decide +kernel
theorem dX0_addBasin_32 : decode cX0_addBasin 32 = .ok (.aload_n 0, 1) := by decide +kernel
theorem dX0_addBasin_33 : decode cX0_addBasin 33 = .ok (.dup, 1) := by decide +kernel
theorem dX0_addBasin_34 : decode cX0_addBasin 34 = .ok (.getfield 29, 3) := by decide +kernel
theorem dX0_addBasin_37 : decode cX0_addBasin 37 = .ok (.iconst 1, 1) := by decide +kernel
theorem dX0_addBasin_38 : decode cX0_addBasin 38 = .ok (.iadd, 1) := by decide +kernel
theorem dX0_addBasin_39 : decode cX0_addBasin 39 = .ok (.putfield 29, 3) := by decide +kernel
theorem dX0_addBasin_42 : decode cX0_addBasin 42 = .ok (.return_, 1) := by decide +kernel
def fn_X0_addBasin (h : aH) (p0 : Nat) (p1 : Int32) : Option (aH) :=
  (gI h p0 0 0).bind fun x1 =>
  if x1 < 6 then
    (gI h p0 0 2).bind fun x2 =>
    ((
      if p1 = 0 then
        some 0
      else
        (gI h p0 0 0).bind fun x7 =>
        some (1 <<< (x7 &&& 31))
    ) : Option (Int32)).bind fun t3 =>
    (pI h p0 0 2 (x2 ||| t3)).bind fun h4 =>
    (gI h4 p0 0 0).bind fun x5 =>
    (pI h4 p0 0 0 (x5 + 1)).bind fun h6 =>
    some h6
  else
    some h
set_option maxRecDepth 20000 in
set_option maxHeartbeats 4000000 in
theorem ev_X0_addBasin {l : Launch} {g : aG} {d : Nat} (hd : 0 ≤ d) (h : aH) (p0 : Nat) (p1 : Int32) (o : aH) (hf : fn_X0_addBasin h p0 p1 = some o) : EvM l g d yX0_addBasin cX0_addBasin 2 none [.ref p0, .int p1] h (none, o) := by
  refine EvM.of mk_X0_addBasin (Nat.le_of_ble_eq_true rfl) ?_
  intro Γ hl hg hq X
  have hd1 : 0 ≤ d := by omega
  have hk : RqV Γ o := hq
  unfold fn_X0_addBasin at hf
  show Jd Γ (0, 0) 0 [some (.ref p0), some (.int p1)] [] h
  refine r_aload_n (pc := 0) X dX0_addBasin_0 rfl ?_
  obtain ⟨x1, ex1, hf⟩ := ob hf
  refine r_getI (pc := 1) X dX0_addBasin_1 fl_X0_29 rfl ex1 ?_
  refine r_bipush (pc := 4) X 6 dX0_addBasin_4 (by decide) ?_
  refine r_icmp_ge (pc := 6) X 42 dX0_addBasin_6 (by decide) (fun c9 => ?_) (fun c9 => ?_)
  · rw [if_neg c9] at hf
    obtain rfl := Option.some.inj hf
    exact r_vret (pc := 42) X dX0_addBasin_42 hk
  · rw [if_pos c9] at hf
    refine r_aload_n (pc := 9) X dX0_addBasin_9 rfl ?_
    refine r_dup (pc := 10) X dX0_addBasin_10 rfl ?_
    obtain ⟨x2, ex2, hf⟩ := ob hf
    refine r_getI (pc := 11) X dX0_addBasin_11 fl_X0_36 rfl ex2 ?_
    refine r_iload_n (pc := 14) X dX0_addBasin_14 rfl ?_
    obtain ⟨t3, et3, hf⟩ := ob hf
    have Jt3 : Jd Γ (0, 0) 28 [some (.ref p0), some (.int p1)] [.int t3, .int x2, .ref p0] h := by
      refine r_ior (pc := 28) X dX0_addBasin_28 ?_
      obtain ⟨h4, eh4, hf⟩ := ob hf
      refine r_putI (pc := 29) X dX0_addBasin_29 fp_X0_36 rfl eh4 ?_
      refine r_aload_n (pc := 32) X dX0_addBasin_32 rfl ?_
      refine r_dup (pc := 33) X dX0_addBasin_33 rfl ?_
      obtain ⟨x5, ex5, hf⟩ := ob hf
      refine r_getI (pc := 34) X dX0_addBasin_34 fl_X0_29 rfl ex5 ?_
      refine r_iconst (pc := 37) X 1 dX0_addBasin_37 (by decide) ?_
      refine r_iadd (pc := 38) X dX0_addBasin_38 ?_
      obtain ⟨h6, eh6, hf⟩ := ob hf
      refine r_putI (pc := 39) X dX0_addBasin_39 fp_X0_29 rfl eh6 ?_
      obtain rfl := Option.some.inj hf
      exact r_vret (pc := 42) X dX0_addBasin_42 hk
    refine r_if_eq (pc := 15) X 27 dX0_addBasin_15 (by decide) (fun c8 => ?_) (fun c8 => ?_)
    · rw [if_pos c8] at et3
      refine r_iconst (pc := 27) X 0 dX0_addBasin_27 (by decide) ?_
      obtain rfl := Option.some.inj et3
      exact Jt3
    · rw [if_neg c8] at et3
      refine r_iconst (pc := 18) X 1 dX0_addBasin_18 (by decide) ?_
      refine r_aload_n (pc := 19) X dX0_addBasin_19 rfl ?_
      obtain ⟨x7, ex7, et3⟩ := ob et3
      refine r_getI (pc := 20) X dX0_addBasin_20 fl_X0_29 rfl ex7 ?_
      refine r_ishl (pc := 23) X dX0_addBasin_23 ?_
      refine r_goto (pc := 24) X 28 dX0_addBasin_24 (by decide) ?_
      obtain rfl := Option.some.inj et3
      exact Jt3

theorem dX0_addSluice_0 : decode cX0_addSluice 0 = .ok (.aload_n 0, 1) := by decide +kernel
theorem dX0_addSluice_1 : decode cX0_addSluice 1 = .ok (.getfield 33, 3) := by decide +kernel
theorem dX0_addSluice_4 : decode cX0_addSluice 4 = .ok (.bipush 8, 2) := by decide +kernel
theorem dX0_addSluice_6 : decode cX0_addSluice 6 = .ok (.if_icmp .ge 43, 3) := by decide +kernel
theorem dX0_addSluice_9 : decode cX0_addSluice 9 = .ok (.aload_n 0, 1) := by decide +kernel
theorem dX0_addSluice_10 : decode cX0_addSluice 10 = .ok (.getfield 9, 3) := by decide +kernel
theorem dX0_addSluice_13 : decode cX0_addSluice 13 = .ok (.aload_n 0, 1) := by decide +kernel
theorem dX0_addSluice_14 : decode cX0_addSluice 14 = .ok (.getfield 33, 3) := by decide +kernel
theorem dX0_addSluice_17 : decode cX0_addSluice 17 = .ok (.iload_n 1, 1) := by decide +kernel
theorem dX0_addSluice_18 : decode cX0_addSluice 18 = .ok (.iastore, 1) := by decide +kernel
theorem dX0_addSluice_19 : decode cX0_addSluice 19 = .ok (.aload_n 0, 1) := by decide +kernel
theorem dX0_addSluice_20 : decode cX0_addSluice 20 = .ok (.getfield 15, 3) := by decide +kernel
theorem dX0_addSluice_23 : decode cX0_addSluice 23 = .ok (.aload_n 0, 1) := by decide +kernel
theorem dX0_addSluice_24 : decode cX0_addSluice 24 = .ok (.getfield 33, 3) := by decide +kernel
theorem dX0_addSluice_27 : decode cX0_addSluice 27 = .ok (.iload_n 2, 1) := by decide +kernel
theorem dX0_addSluice_28 : decode cX0_addSluice 28 = .ok (.iastore, 1) := by decide +kernel
theorem dX0_addSluice_29 : decode cX0_addSluice 29 = .ok (.aload_n 0, 1) := by decide +kernel
theorem dX0_addSluice_30 : decode cX0_addSluice 30 = .ok (.getfield 18, 3) := by decide +kernel
theorem dX0_addSluice_33 : decode cX0_addSluice 33 = .ok (.aload_n 0, 1) := by decide +kernel
theorem dX0_addSluice_34 : decode cX0_addSluice 34 = .ok (.getfield 33, 3) := by decide +kernel
theorem dX0_addSluice_37 : decode cX0_addSluice 37 = .ok (.iload_n 3, 1) := by decide +kernel
theorem dX0_addSluice_38 : decode cX0_addSluice 38 = .ok (.iastore, 1) := by decide +kernel
theorem dX0_addSluice_39 : decode cX0_addSluice 39 = .ok (.aload_n 0, 1) := by decide +kernel
theorem dX0_addSluice_40 : decode cX0_addSluice 40 = .ok (.dup, 1) := by decide +kernel
theorem dX0_addSluice_41 : decode cX0_addSluice 41 = .ok (.getfield 33, 3) := by decide +kernel
theorem dX0_addSluice_44 : decode cX0_addSluice 44 = .ok (.iconst 1, 1) := by decide +kernel
theorem dX0_addSluice_45 : decode cX0_addSluice 45 = .ok (.iadd, 1) := by decide +kernel
theorem dX0_addSluice_46 : decode cX0_addSluice 46 = .ok (.putfield 33, 3) := by decide +kernel
theorem dX0_addSluice_49 : decode cX0_addSluice 49 = .ok (.return_, 1) := by decide +kernel
def fn_X0_addSluice (h : aH) (p0 : Nat) (p1 : Int32) (p2 : Int32) (p3 : Int32) : Option (aH) :=
  (gI h p0 0 1).bind fun x1 =>
  if x1 < 8 then
    (gR h p0 0 3).bind fun a2 =>
    (gI h p0 0 1).bind fun x3 =>
    (wI h a2 x3 p1).bind fun h4 =>
    (gR h4 p0 0 4).bind fun a5 =>
    (gI h4 p0 0 1).bind fun x6 =>
    (wI h4 a5 x6 p2).bind fun h7 =>
    (gR h7 p0 0 5).bind fun a8 =>
    (gI h7 p0 0 1).bind fun x9 =>
    (wI h7 a8 x9 p3).bind fun h10 =>
    (gI h10 p0 0 1).bind fun x11 =>
    (pI h10 p0 0 1 (x11 + 1)).bind fun h12 =>
    some h12
  else
    some h
set_option maxRecDepth 20000 in
set_option maxHeartbeats 4000000 in
theorem ev_X0_addSluice {l : Launch} {g : aG} {d : Nat} (hd : 0 ≤ d) (h : aH) (p0 : Nat) (p1 : Int32) (p2 : Int32) (p3 : Int32) (o : aH) (hf : fn_X0_addSluice h p0 p1 p2 p3 = some o) : EvM l g d yX0_addSluice cX0_addSluice 4 none [.ref p0, .int p1, .int p2, .int p3] h (none, o) := by
  refine EvM.of mk_X0_addSluice (Nat.le_of_ble_eq_true rfl) ?_
  intro Γ hl hg hq X
  have hd1 : 0 ≤ d := by omega
  have hk : RqV Γ o := hq
  unfold fn_X0_addSluice at hf
  show Jd Γ (0, 0) 0 [some (.ref p0), some (.int p1), some (.int p2), some (.int p3)] [] h
  refine r_aload_n (pc := 0) X dX0_addSluice_0 rfl ?_
  obtain ⟨x1, ex1, hf⟩ := ob hf
  refine r_getI (pc := 1) X dX0_addSluice_1 fl_X0_33 rfl ex1 ?_
  refine r_bipush (pc := 4) X 8 dX0_addSluice_4 (by decide) ?_
  refine r_icmp_ge (pc := 6) X 49 dX0_addSluice_6 (by decide) (fun c13 => ?_) (fun c13 => ?_)
  · rw [if_neg c13] at hf
    obtain rfl := Option.some.inj hf
    exact r_vret (pc := 49) X dX0_addSluice_49 hk
  · rw [if_pos c13] at hf
    refine r_aload_n (pc := 9) X dX0_addSluice_9 rfl ?_
    obtain ⟨a2, ea2, hf⟩ := ob hf
    refine r_getR (pc := 10) X dX0_addSluice_10 fl_X0_9 rfl ea2 ?_
    refine r_aload_n (pc := 13) X dX0_addSluice_13 rfl ?_
    obtain ⟨x3, ex3, hf⟩ := ob hf
    refine r_getI (pc := 14) X dX0_addSluice_14 fl_X0_33 rfl ex3 ?_
    refine r_iload_n (pc := 17) X dX0_addSluice_17 rfl ?_
    obtain ⟨h4, eh4, hf⟩ := ob hf
    refine r_iast (pc := 18) X dX0_addSluice_18 eh4 ?_
    refine r_aload_n (pc := 19) X dX0_addSluice_19 rfl ?_
    obtain ⟨a5, ea5, hf⟩ := ob hf
    refine r_getR (pc := 20) X dX0_addSluice_20 fl_X0_15 rfl ea5 ?_
    refine r_aload_n (pc := 23) X dX0_addSluice_23 rfl ?_
    obtain ⟨x6, ex6, hf⟩ := ob hf
    refine r_getI (pc := 24) X dX0_addSluice_24 fl_X0_33 rfl ex6 ?_
    refine r_iload_n (pc := 27) X dX0_addSluice_27 rfl ?_
    obtain ⟨h7, eh7, hf⟩ := ob hf
    refine r_iast (pc := 28) X dX0_addSluice_28 eh7 ?_
    refine r_aload_n (pc := 29) X dX0_addSluice_29 rfl ?_
    obtain ⟨a8, ea8, hf⟩ := ob hf
    refine r_getR (pc := 30) X dX0_addSluice_30 fl_X0_18 rfl ea8 ?_
    refine r_aload_n (pc := 33) X dX0_addSluice_33 rfl ?_
    obtain ⟨x9, ex9, hf⟩ := ob hf
    refine r_getI (pc := 34) X dX0_addSluice_34 fl_X0_33 rfl ex9 ?_
    refine r_iload_n (pc := 37) X dX0_addSluice_37 rfl ?_
    obtain ⟨h10, eh10, hf⟩ := ob hf
    refine r_iast (pc := 38) X dX0_addSluice_38 eh10 ?_
    refine r_aload_n (pc := 39) X dX0_addSluice_39 rfl ?_
    refine r_dup (pc := 40) X dX0_addSluice_40 rfl ?_
    obtain ⟨x11, ex11, hf⟩ := ob hf
    refine r_getI (pc := 41) X dX0_addSluice_41 fl_X0_33 rfl ex11 ?_
    refine r_iconst (pc := 44) X 1 dX0_addSluice_44 (by decide) ?_
    refine r_iadd (pc := 45) X dX0_addSluice_45 ?_
    obtain ⟨h12, eh12, hf⟩ := ob hf
    refine r_putI (pc := 46) X dX0_addSluice_46 fp_X0_33 rfl eh12 ?_
    obtain rfl := Option.some.inj hf
    exact r_vret (pc := 49) X dX0_addSluice_49 hk

theorem dX0_leaks_0 : decode cX0_leaks 0 = .ok (.aload_n 0, 1) := by decide +kernel
theorem dX0_leaks_1 : decode cX0_leaks 1 = .ok (.getfield 36, 3) := by decide +kernel
theorem dX0_leaks_4 : decode cX0_leaks 4 = .ok (.iload_n 1, 1) := by decide +kernel
theorem dX0_leaks_5 : decode cX0_leaks 5 = .ok (.ishr, 1) := by decide +kernel
theorem dX0_leaks_6 : decode cX0_leaks 6 = .ok (.iconst 1, 1) := by decide +kernel
theorem dX0_leaks_7 : decode cX0_leaks 7 = .ok (.iand, 1) := by decide +kernel
theorem dX0_leaks_8 : decode cX0_leaks 8 = .ok (.ifCond .eq 7, 3) := by decide +kernel
theorem dX0_leaks_11 : decode cX0_leaks 11 = .ok (.iconst 1, 1) := by decide +kernel
theorem dX0_leaks_12 : decode cX0_leaks 12 = .ok (.goto 4, 3) := by decide +kernel
theorem dX0_leaks_15 : decode cX0_leaks 15 = .ok (.iconst 0, 1) := by decide +kernel
theorem dX0_leaks_16 : decode cX0_leaks 16 = .ok (.ireturn, 1) := by decide +kernel
def fn_X0_leaks (h : aH) (p0 : Nat) (p1 : Int32) : Option (Int32) :=
  (gI h p0 0 2).bind fun x1 =>
  if ((x1 >>> (p1 &&& 31)) &&& 1) = 0 then
    some 0
  else
    some 1
set_option maxRecDepth 20000 in
set_option maxHeartbeats 4000000 in
theorem ev_X0_leaks {l : Launch} {g : aG} {d : Nat} (hd : 0 ≤ d) (h : aH) (p0 : Nat) (p1 : Int32) (o : Int32) (hf : fn_X0_leaks h p0 p1 = some o) : EvM l g d yX0_leaks cX0_leaks 2 (some .boolean) [.ref p0, .int p1] h (some (.int o), h) := by
  refine EvM.of mk_X0_leaks (Nat.le_of_ble_eq_true rfl) ?_
  intro Γ hl hg hq X
  have hd1 : 0 ≤ d := by omega
  have hk : RpI h Γ o := hq
  unfold fn_X0_leaks at hf
  show Jd Γ (0, 0) 0 [some (.ref p0), some (.int p1)] [] h
  refine r_aload_n (pc := 0) X dX0_leaks_0 rfl ?_
  obtain ⟨x1, ex1, hf⟩ := ob hf
  refine r_getI (pc := 1) X dX0_leaks_1 fl_X0_36 rfl ex1 ?_
  refine r_iload_n (pc := 4) X dX0_leaks_4 rfl ?_
  refine r_ishr (pc := 5) X dX0_leaks_5 ?_
  refine r_iconst (pc := 6) X 1 dX0_leaks_6 (by decide) ?_
  refine r_iand (pc := 7) X dX0_leaks_7 ?_
  refine r_if_eq (pc := 8) X 15 dX0_leaks_8 (by decide) (fun c2 => ?_) (fun c2 => ?_)
  · rw [if_pos c2] at hf
    refine r_iconst (pc := 15) X 0 dX0_leaks_15 (by decide) ?_
    obtain rfl := Option.some.inj hf
    exact r_zret (pc := 16) X dX0_leaks_16 (Or.inl rfl) hk
  · rw [if_neg c2] at hf
    refine r_iconst (pc := 11) X 1 dX0_leaks_11 (by decide) ?_
    refine r_goto (pc := 12) X 16 dX0_leaks_12 (by decide) ?_
    obtain rfl := Option.some.inj hf
    exact r_zret (pc := 16) X dX0_leaks_16 (Or.inr rfl) hk

theorem dX0_sluicesFrom_0 : decode cX0_sluicesFrom 0 = .ok (.iconst 0, 1) := by decide +kernel
theorem dX0_sluicesFrom_1 : decode cX0_sluicesFrom 1 = .ok (.istore_n 2, 1) := by decide +kernel
theorem dX0_sluicesFrom_2 : decode cX0_sluicesFrom 2 = .ok (.iconst 0, 1) := by decide +kernel
theorem dX0_sluicesFrom_3 : decode cX0_sluicesFrom 3 = .ok (.istore_n 3, 1) := by decide +kernel
theorem dX0_sluicesFrom_4 : decode cX0_sluicesFrom 4 = .ok (.iload_n 3, 1) := by decide +kernel
theorem dX0_sluicesFrom_5 : decode cX0_sluicesFrom 5 = .ok (.aload_n 0, 1) := by decide +kernel
theorem dX0_sluicesFrom_6 : decode cX0_sluicesFrom 6 = .ok (.getfield 33, 3) := by decide +kernel
theorem dX0_sluicesFrom_9 : decode cX0_sluicesFrom 9 = .ok (.if_icmp .ge 29, 3) := by decide +kernel
theorem dX0_sluicesFrom_12 : decode cX0_sluicesFrom 12 = .ok (.iload_n 2, 1) := by decide +kernel
theorem dX0_sluicesFrom_13 : decode cX0_sluicesFrom 13 = .ok (.aload_n 0, 1) := by decide +kernel
theorem dX0_sluicesFrom_14 : decode cX0_sluicesFrom 14 = .ok (.getfield 9, 3) := by decide +kernel
theorem dX0_sluicesFrom_17 : decode cX0_sluicesFrom 17 = .ok (.iload_n 3, 1) := by decide +kernel
theorem dX0_sluicesFrom_18 : decode cX0_sluicesFrom 18 = .ok (.iaload, 1) := by decide +kernel
theorem dX0_sluicesFrom_19 : decode cX0_sluicesFrom 19 = .ok (.iload_n 1, 1) := by decide +kernel
theorem dX0_sluicesFrom_20 : decode cX0_sluicesFrom 20 = .ok (.if_icmp .ne 9, 3) := by decide +kernel
theorem dX0_sluicesFrom_23 : decode cX0_sluicesFrom 23 = .ok (.iconst 1, 1) := by decide +kernel
theorem dX0_sluicesFrom_24 : decode cX0_sluicesFrom 24 = .ok (.iload_n 3, 1) := by decide +kernel
theorem dX0_sluicesFrom_25 : decode cX0_sluicesFrom 25 = .ok (.ishl, 1) := by decide +kernel
theorem dX0_sluicesFrom_26 : decode cX0_sluicesFrom 26 = .ok (.goto 4, 3) := by decide +kernel
theorem dX0_sluicesFrom_29 : decode cX0_sluicesFrom 29 = .ok (.iconst 0, 1) := by decide +kernel
theorem dX0_sluicesFrom_30 : decode cX0_sluicesFrom 30 = .ok (.ior, 1) := by decide +kernel
theorem dX0_sluicesFrom_31 : decode cX0_sluicesFrom 31 = .ok (.istore_n 2, 1) := by decide +kernel
theorem dX0_sluicesFrom_32 : decode cX0_sluicesFrom 32 = .ok (.iinc 3 1, 3) := by decide +kernel
theorem dX0_sluicesFrom_35 : decode cX0_sluicesFrom 35 = .ok (.goto (-31), 3) := by decide +kernel
theorem dX0_sluicesFrom_38 : decode cX0_sluicesFrom 38 = .ok (.iload_n 2, 1) := by decide +kernel
theorem dX0_sluicesFrom_39 : decode cX0_sluicesFrom 39 = .ok (.ireturn, 1) := by decide +kernel
def lb_X0_sluicesFrom_4 (hh : aH) (v0 : Nat) (v1 : Int32) (s : Int32 × Int32) : Option ((Int32 × Int32) ⊕ ((Int32))) :=
  (gI hh v0 0 1).bind fun x1 =>
  if s.2 < x1 then
    (gR hh v0 0 3).bind fun a2 =>
    (aI hh a2 14 s.2).bind fun x3 =>
    if x3 = v1 then
      (some (s.1 ||| (1 <<< (s.2 &&& 31)))).bind fun x6 =>
      (some (s.2 + 1)).bind fun x7 =>
      some (.inl (x6, x7))
    else
      (some (s.1 ||| 0)).bind fun x4 =>
      (some (s.2 + 1)).bind fun x5 =>
      some (.inl (x4, x5))
  else
    some (.inr s.1)
def hd_X0_sluicesFrom_4 (Γ : aC) (hh : aH) (v0 : Nat) (v1 : Int32) (s : Int32 × Int32) : Prop := Jd Γ (0, 0) 4 [some (.ref v0), some (.int v1), some (.int s.1), some (.int s.2)] [] hh
def ex_X0_sluicesFrom_4 (Γ : aC) (hh : aH) (v0 : Nat) (v1 : Int32) (r : (Int32)) : Prop := (fun r => RpI hh Γ r) r
set_option maxRecDepth 20000 in
set_option maxHeartbeats 4000000 in
theorem lw_X0_sluicesFrom_4 {Γ : aC} {d : Nat} (X : Cx Γ RX0 cX0_sluicesFrom 4 (some .int) (d, 0, 0)) (hd : 0 ≤ d) (hh : aH) (v0 : Nat) (v1 : Int32) : ∀ n s o, lp (lb_X0_sluicesFrom_4 hh v0 v1) n s = some o → ex_X0_sluicesFrom_4 Γ hh v0 v1 o → hd_X0_sluicesFrom_4 Γ hh v0 v1 s := by
  have hd1 : 0 ≤ d := by omega
  refine J_lp _ _ _ ?_
  intro s o hf hk
  unfold lb_X0_sluicesFrom_4 at hf
  refine r_iload_n (pc := 4) X dX0_sluicesFrom_4 rfl ?_
  refine r_aload_n (pc := 5) X dX0_sluicesFrom_5 rfl ?_
  obtain ⟨x1, ex1, hf⟩ := ob hf
  refine r_getI (pc := 6) X dX0_sluicesFrom_6 fl_X0_33 rfl ex1 ?_
  refine r_icmp_ge (pc := 9) X 38 dX0_sluicesFrom_9 (by decide) (fun c9 => ?_) (fun c9 => ?_)
  · rw [if_neg c9] at hf
    refine r_iload_n (pc := 38) X dX0_sluicesFrom_38 rfl ?_
    obtain rfl := Option.some.inj hf
    exact r_iret (pc := 39) X dX0_sluicesFrom_39 hk
  · rw [if_pos c9] at hf
    refine r_iload_n (pc := 12) X dX0_sluicesFrom_12 rfl ?_
    refine r_aload_n (pc := 13) X dX0_sluicesFrom_13 rfl ?_
    obtain ⟨a2, ea2, hf⟩ := ob hf
    refine r_getR (pc := 14) X dX0_sluicesFrom_14 fl_X0_9 rfl ea2 ?_
    refine r_iload_n (pc := 17) X dX0_sluicesFrom_17 rfl ?_
    obtain ⟨x3, ex3, hf⟩ := ob hf
    refine r_iald (pc := 18) X dX0_sluicesFrom_18 ex3 ?_
    refine r_iload_n (pc := 19) X dX0_sluicesFrom_19 rfl ?_
    refine r_icmp_ne (pc := 20) X 29 dX0_sluicesFrom_20 (by decide) (fun c8 => ?_) (fun c8 => ?_)
    · rw [if_neg c8] at hf
      refine r_iconst (pc := 29) X 0 dX0_sluicesFrom_29 (by decide) ?_
      refine r_ior (pc := 30) X dX0_sluicesFrom_30 ?_
      obtain ⟨x4, ex4, hf⟩ := ob hf
      refine r_nmI ex4 ?_
      refine r_istore_n (pc := 31) X [some (.ref v0), some (.int v1), some (.int x4), some (.int s.2)] dX0_sluicesFrom_31 (by decide) rfl ?_
      obtain ⟨x5, ex5, hf⟩ := ob hf
      refine r_iinc2 (pc := 32) X 1 [some (.ref v0), some (.int v1), some (.int x4), some (.int x5)] dX0_sluicesFrom_32 (by decide) rfl (by decide) ex5 rfl ?_
      refine r_goto (pc := 35) X 4 dX0_sluicesFrom_35 (by decide) ?_
      obtain rfl := Option.some.inj hf
      exact hk
    · rw [if_pos c8] at hf
      refine r_iconst (pc := 23) X 1 dX0_sluicesFrom_23 (by decide) ?_
      refine r_iload_n (pc := 24) X dX0_sluicesFrom_24 rfl ?_
      refine r_ishl (pc := 25) X dX0_sluicesFrom_25 ?_
      refine r_goto (pc := 26) X 30 dX0_sluicesFrom_26 (by decide) ?_
      refine r_ior (pc := 30) X dX0_sluicesFrom_30 ?_
      obtain ⟨x6, ex6, hf⟩ := ob hf
      refine r_nmI ex6 ?_
      refine r_istore_n (pc := 31) X [some (.ref v0), some (.int v1), some (.int x6), some (.int s.2)] dX0_sluicesFrom_31 (by decide) rfl ?_
      obtain ⟨x7, ex7, hf⟩ := ob hf
      refine r_iinc2 (pc := 32) X 1 [some (.ref v0), some (.int v1), some (.int x6), some (.int x7)] dX0_sluicesFrom_32 (by decide) rfl (by decide) ex7 rfl ?_
      refine r_goto (pc := 35) X 4 dX0_sluicesFrom_35 (by decide) ?_
      obtain rfl := Option.some.inj hf
      exact hk
def fn_X0_sluicesFrom (h : aH) (p0 : Nat) (p1 : Int32) : Option (Int32) :=
  (lp (lb_X0_sluicesFrom_4 h p0 p1) lpN (0, 0)).bind fun o10 =>
  some o10
set_option maxRecDepth 20000 in
set_option maxHeartbeats 4000000 in
theorem ev_X0_sluicesFrom {l : Launch} {g : aG} {d : Nat} (hd : 0 ≤ d) (h : aH) (p0 : Nat) (p1 : Int32) (o : Int32) (hf : fn_X0_sluicesFrom h p0 p1 = some o) : EvM l g d yX0_sluicesFrom cX0_sluicesFrom 4 (some .int) [.ref p0, .int p1] h (some (.int o), h) := by
  refine EvM.of mk_X0_sluicesFrom (Nat.le_of_ble_eq_true rfl) ?_
  intro Γ hl hg hq X
  have hd1 : 0 ≤ d := by omega
  have hk : RpI h Γ o := hq
  unfold fn_X0_sluicesFrom at hf
  show Jd Γ (0, 0) 0 [some (.ref p0), some (.int p1), none, none] [] h
  refine r_iconst (pc := 0) X 0 dX0_sluicesFrom_0 (by decide) ?_
  refine r_istore_n (pc := 1) X [some (.ref p0), some (.int p1), some (.int 0), none] dX0_sluicesFrom_1 (by decide) rfl ?_
  refine r_iconst (pc := 2) X 0 dX0_sluicesFrom_2 (by decide) ?_
  refine r_istore_n (pc := 3) X [some (.ref p0), some (.int p1), some (.int 0), some (.int 0)] dX0_sluicesFrom_3 (by decide) rfl ?_
  obtain ⟨o10, eo10, hf⟩ := ob hf
  refine (lw_X0_sluicesFrom_4 X hd _ _ _ lpN _ o10 eo10 ?_)
  obtain rfl := Option.some.inj hf
  exact hk

theorem dX0_sluicesTo_0 : decode cX0_sluicesTo 0 = .ok (.iconst 0, 1) := by decide +kernel
theorem dX0_sluicesTo_1 : decode cX0_sluicesTo 1 = .ok (.istore_n 2, 1) := by decide +kernel
theorem dX0_sluicesTo_2 : decode cX0_sluicesTo 2 = .ok (.iconst 0, 1) := by decide +kernel
theorem dX0_sluicesTo_3 : decode cX0_sluicesTo 3 = .ok (.istore_n 3, 1) := by decide +kernel
theorem dX0_sluicesTo_4 : decode cX0_sluicesTo 4 = .ok (.iload_n 3, 1) := by decide +kernel
theorem dX0_sluicesTo_5 : decode cX0_sluicesTo 5 = .ok (.aload_n 0, 1) := by decide +kernel
theorem dX0_sluicesTo_6 : decode cX0_sluicesTo 6 = .ok (.getfield 33, 3) := by decide +kernel
theorem dX0_sluicesTo_9 : decode cX0_sluicesTo 9 = .ok (.if_icmp .ge 29, 3) := by decide +kernel
theorem dX0_sluicesTo_12 : decode cX0_sluicesTo 12 = .ok (.iload_n 2, 1) := by decide +kernel
theorem dX0_sluicesTo_13 : decode cX0_sluicesTo 13 = .ok (.aload_n 0, 1) := by decide +kernel
theorem dX0_sluicesTo_14 : decode cX0_sluicesTo 14 = .ok (.getfield 15, 3) := by decide +kernel
theorem dX0_sluicesTo_17 : decode cX0_sluicesTo 17 = .ok (.iload_n 3, 1) := by decide +kernel
theorem dX0_sluicesTo_18 : decode cX0_sluicesTo 18 = .ok (.iaload, 1) := by decide +kernel
theorem dX0_sluicesTo_19 : decode cX0_sluicesTo 19 = .ok (.iload_n 1, 1) := by decide +kernel
theorem dX0_sluicesTo_20 : decode cX0_sluicesTo 20 = .ok (.if_icmp .ne 9, 3) := by decide +kernel
theorem dX0_sluicesTo_23 : decode cX0_sluicesTo 23 = .ok (.iconst 1, 1) := by decide +kernel
theorem dX0_sluicesTo_24 : decode cX0_sluicesTo 24 = .ok (.iload_n 3, 1) := by decide +kernel
theorem dX0_sluicesTo_25 : decode cX0_sluicesTo 25 = .ok (.ishl, 1) := by decide +kernel
theorem dX0_sluicesTo_26 : decode cX0_sluicesTo 26 = .ok (.goto 4, 3) := by decide +kernel
theorem dX0_sluicesTo_29 : decode cX0_sluicesTo 29 = .ok (.iconst 0, 1) := by decide +kernel
theorem dX0_sluicesTo_30 : decode cX0_sluicesTo 30 = .ok (.ior, 1) := by decide +kernel
theorem dX0_sluicesTo_31 : decode cX0_sluicesTo 31 = .ok (.istore_n 2, 1) := by decide +kernel
theorem dX0_sluicesTo_32 : decode cX0_sluicesTo 32 = .ok (.iinc 3 1, 3) := by decide +kernel
theorem dX0_sluicesTo_35 : decode cX0_sluicesTo 35 = .ok (.goto (-31), 3) := by decide +kernel
theorem dX0_sluicesTo_38 : decode cX0_sluicesTo 38 = .ok (.iload_n 2, 1) := by decide +kernel
theorem dX0_sluicesTo_39 : decode cX0_sluicesTo 39 = .ok (.ireturn, 1) := by decide +kernel
def lb_X0_sluicesTo_4 (hh : aH) (v0 : Nat) (v1 : Int32) (s : Int32 × Int32) : Option ((Int32 × Int32) ⊕ ((Int32))) :=
  (gI hh v0 0 1).bind fun x1 =>
  if s.2 < x1 then
    (gR hh v0 0 4).bind fun a2 =>
    (aI hh a2 14 s.2).bind fun x3 =>
    if x3 = v1 then
      (some (s.1 ||| (1 <<< (s.2 &&& 31)))).bind fun x6 =>
      (some (s.2 + 1)).bind fun x7 =>
      some (.inl (x6, x7))
    else
      (some (s.1 ||| 0)).bind fun x4 =>
      (some (s.2 + 1)).bind fun x5 =>
      some (.inl (x4, x5))
  else
    some (.inr s.1)
def hd_X0_sluicesTo_4 (Γ : aC) (hh : aH) (v0 : Nat) (v1 : Int32) (s : Int32 × Int32) : Prop := Jd Γ (0, 0) 4 [some (.ref v0), some (.int v1), some (.int s.1), some (.int s.2)] [] hh
def ex_X0_sluicesTo_4 (Γ : aC) (hh : aH) (v0 : Nat) (v1 : Int32) (r : (Int32)) : Prop := (fun r => RpI hh Γ r) r
set_option maxRecDepth 20000 in
set_option maxHeartbeats 4000000 in
theorem lw_X0_sluicesTo_4 {Γ : aC} {d : Nat} (X : Cx Γ RX0 cX0_sluicesTo 4 (some .int) (d, 0, 0)) (hd : 0 ≤ d) (hh : aH) (v0 : Nat) (v1 : Int32) : ∀ n s o, lp (lb_X0_sluicesTo_4 hh v0 v1) n s = some o → ex_X0_sluicesTo_4 Γ hh v0 v1 o → hd_X0_sluicesTo_4 Γ hh v0 v1 s := by
  have hd1 : 0 ≤ d := by omega
  refine J_lp _ _ _ ?_
  intro s o hf hk
  unfold lb_X0_sluicesTo_4 at hf
  refine r_iload_n (pc := 4) X dX0_sluicesTo_4 rfl ?_
  refine r_aload_n (pc := 5) X dX0_sluicesTo_5 rfl ?_
  obtain ⟨x1, ex1, hf⟩ := ob hf
  refine r_getI (pc := 6) X dX0_sluicesTo_6 fl_X0_33 rfl ex1 ?_
  refine r_icmp_ge (pc := 9) X 38 dX0_sluicesTo_9 (by decide) (fun c9 => ?_) (fun c9 => ?_)
  · rw [if_neg c9] at hf
    refine r_iload_n (pc := 38) X dX0_sluicesTo_38 rfl ?_
    obtain rfl := Option.some.inj hf
    exact r_iret (pc := 39) X dX0_sluicesTo_39 hk
  · rw [if_pos c9] at hf
    refine r_iload_n (pc := 12) X dX0_sluicesTo_12 rfl ?_
    refine r_aload_n (pc := 13) X dX0_sluicesTo_13 rfl ?_
    obtain ⟨a2, ea2, hf⟩ := ob hf
    refine r_getR (pc := 14) X dX0_sluicesTo_14 fl_X0_15 rfl ea2 ?_
    refine r_iload_n (pc := 17) X dX0_sluicesTo_17 rfl ?_
    obtain ⟨x3, ex3, hf⟩ := ob hf
    refine r_iald (pc := 18) X dX0_sluicesTo_18 ex3 ?_
    refine r_iload_n (pc := 19) X dX0_sluicesTo_19 rfl ?_
    refine r_icmp_ne (pc := 20) X 29 dX0_sluicesTo_20 (by decide) (fun c8 => ?_) (fun c8 => ?_)
    · rw [if_neg c8] at hf
      refine r_iconst (pc := 29) X 0 dX0_sluicesTo_29 (by decide) ?_
      refine r_ior (pc := 30) X dX0_sluicesTo_30 ?_
      obtain ⟨x4, ex4, hf⟩ := ob hf
      refine r_nmI ex4 ?_
      refine r_istore_n (pc := 31) X [some (.ref v0), some (.int v1), some (.int x4), some (.int s.2)] dX0_sluicesTo_31 (by decide) rfl ?_
      obtain ⟨x5, ex5, hf⟩ := ob hf
      refine r_iinc2 (pc := 32) X 1 [some (.ref v0), some (.int v1), some (.int x4), some (.int x5)] dX0_sluicesTo_32 (by decide) rfl (by decide) ex5 rfl ?_
      refine r_goto (pc := 35) X 4 dX0_sluicesTo_35 (by decide) ?_
      obtain rfl := Option.some.inj hf
      exact hk
    · rw [if_pos c8] at hf
      refine r_iconst (pc := 23) X 1 dX0_sluicesTo_23 (by decide) ?_
      refine r_iload_n (pc := 24) X dX0_sluicesTo_24 rfl ?_
      refine r_ishl (pc := 25) X dX0_sluicesTo_25 ?_
      refine r_goto (pc := 26) X 30 dX0_sluicesTo_26 (by decide) ?_
      refine r_ior (pc := 30) X dX0_sluicesTo_30 ?_
      obtain ⟨x6, ex6, hf⟩ := ob hf
      refine r_nmI ex6 ?_
      refine r_istore_n (pc := 31) X [some (.ref v0), some (.int v1), some (.int x6), some (.int s.2)] dX0_sluicesTo_31 (by decide) rfl ?_
      obtain ⟨x7, ex7, hf⟩ := ob hf
      refine r_iinc2 (pc := 32) X 1 [some (.ref v0), some (.int v1), some (.int x6), some (.int x7)] dX0_sluicesTo_32 (by decide) rfl (by decide) ex7 rfl ?_
      refine r_goto (pc := 35) X 4 dX0_sluicesTo_35 (by decide) ?_
      obtain rfl := Option.some.inj hf
      exact hk
def fn_X0_sluicesTo (h : aH) (p0 : Nat) (p1 : Int32) : Option (Int32) :=
  (lp (lb_X0_sluicesTo_4 h p0 p1) lpN (0, 0)).bind fun o10 =>
  some o10
set_option maxRecDepth 20000 in
set_option maxHeartbeats 4000000 in
theorem ev_X0_sluicesTo {l : Launch} {g : aG} {d : Nat} (hd : 0 ≤ d) (h : aH) (p0 : Nat) (p1 : Int32) (o : Int32) (hf : fn_X0_sluicesTo h p0 p1 = some o) : EvM l g d yX0_sluicesTo cX0_sluicesTo 4 (some .int) [.ref p0, .int p1] h (some (.int o), h) := by
  refine EvM.of mk_X0_sluicesTo (Nat.le_of_ble_eq_true rfl) ?_
  intro Γ hl hg hq X
  have hd1 : 0 ≤ d := by omega
  have hk : RpI h Γ o := hq
  unfold fn_X0_sluicesTo at hf
  show Jd Γ (0, 0) 0 [some (.ref p0), some (.int p1), none, none] [] h
  refine r_iconst (pc := 0) X 0 dX0_sluicesTo_0 (by decide) ?_
  refine r_istore_n (pc := 1) X [some (.ref p0), some (.int p1), some (.int 0), none] dX0_sluicesTo_1 (by decide) rfl ?_
  refine r_iconst (pc := 2) X 0 dX0_sluicesTo_2 (by decide) ?_
  refine r_istore_n (pc := 3) X [some (.ref p0), some (.int p1), some (.int 0), some (.int 0)] dX0_sluicesTo_3 (by decide) rfl ?_
  obtain ⟨o10, eo10, hf⟩ := ob hf
  refine (lw_X0_sluicesTo_4 X hd _ _ _ lpN _ o10 eo10 ?_)
  obtain rfl := Option.some.inj hf
  exact hk

theorem dX0_begin_0 : decode cX0_begin 0 = .ok (.iconst 0, 1) := by decide +kernel
theorem dX0_begin_1 : decode cX0_begin 1 = .ok (.istore_n 1, 1) := by decide +kernel
theorem dX0_begin_2 : decode cX0_begin 2 = .ok (.iload_n 1, 1) := by decide +kernel
theorem dX0_begin_3 : decode cX0_begin 3 = .ok (.bipush 8, 2) := by decide +kernel
theorem dX0_begin_5 : decode cX0_begin 5 = .ok (.if_icmp .ge 16, 3) := by decide +kernel
theorem dX0_begin_8 : decode cX0_begin 8 = .ok (.aload_n 0, 1) := by decide +kernel
theorem dX0_begin_9 : decode cX0_begin 9 = .ok (.getfield 21, 3) := by decide +kernel
theorem dX0_begin_12 : decode cX0_begin 12 = .ok (.iload_n 1, 1) := by decide +kernel
theorem dX0_begin_13 : decode cX0_begin 13 = .ok (.iconst 0, 1) := by decide +kernel
theorem dX0_begin_14 : decode cX0_begin 14 = .ok (.iastore, 1) := by decide +kernel
theorem dX0_begin_15 : decode cX0_begin 15 = .ok (.iinc 1 1, 3) := by decide +kernel
theorem dX0_begin_18 : decode cX0_begin 18 = .ok (.goto (-16), 3) := by decide +kernel
theorem dX0_begin_21 : decode cX0_begin 21 = .ok (.aload_n 0, 1) := by decide +kernel
theorem dX0_begin_22 : decode cX0_begin 22 = .ok (.iconst 0, 1) := by decide +kernel
theorem dX0_begin_23 : decode cX0_begin 23 = .ok (.putfield 39, 3) := by decide +kernel
theorem dX0_begin_26 : decode cX0_begin 26 = .ok (.aload_n 0, 1) := by decide +kernel
theorem dX0_begin_27 : decode cX0_begin 27 = .ok (.iconst 0, 1) := by decide +kernel
theorem dX0_begin_28 : decode cX0_begin 28 = .ok (.putfield 42, 3) := by decide +kernel
theorem dX0_begin_31 : decode cX0_begin 31 = .ok (.return_, 1) := by decide +kernel
def lb_X0_begin_2 (v0 : Nat) (s : Int32 × aH) : Option ((Int32 × aH) ⊕ ((aH))) :=
  if s.1 < 8 then
    (gR s.2 v0 0 7).bind fun a1 =>
    (wI s.2 a1 s.1 0).bind fun h2 =>
    (some (s.1 + 1)).bind fun x3 =>
    some (.inl (x3, h2))
  else
    some (.inr s.2)
def hd_X0_begin_2 (Γ : aC) (v0 : Nat) (s : Int32 × aH) : Prop := Jd Γ (0, 0) 2 [some (.ref v0), some (.int s.1)] [] s.2
def ex_X0_begin_2 (Γ : aC) (v0 : Nat) (r : (aH)) : Prop := (fun r => ∀ (j1 : Option Value), Jd Γ (0, 0) 21 [some (.ref v0), j1] [] r) r
set_option maxRecDepth 20000 in
set_option maxHeartbeats 4000000 in
theorem lw_X0_begin_2 {Γ : aC} {d : Nat} (X : Cx Γ RX0 cX0_begin 2 none (d, 0, 0)) (hd : 0 ≤ d) (v0 : Nat) : ∀ n s o, lp (lb_X0_begin_2 v0) n s = some o → ex_X0_begin_2 Γ v0 o → hd_X0_begin_2 Γ v0 s := by
  have hd1 : 0 ≤ d := by omega
  refine J_lp _ _ _ ?_
  intro s o hf hk
  unfold lb_X0_begin_2 at hf
  refine r_iload_n (pc := 2) X dX0_begin_2 rfl ?_
  refine r_bipush (pc := 3) X 8 dX0_begin_3 (by decide) ?_
  refine r_icmp_ge (pc := 5) X 21 dX0_begin_5 (by decide) (fun c4 => ?_) (fun c4 => ?_)
  · rw [if_neg c4] at hf
    obtain rfl := Option.some.inj hf
    exact hk _
  · rw [if_pos c4] at hf
    refine r_aload_n (pc := 8) X dX0_begin_8 rfl ?_
    obtain ⟨a1, ea1, hf⟩ := ob hf
    refine r_getR (pc := 9) X dX0_begin_9 fl_X0_21 rfl ea1 ?_
    refine r_iload_n (pc := 12) X dX0_begin_12 rfl ?_
    refine r_iconst (pc := 13) X 0 dX0_begin_13 (by decide) ?_
    obtain ⟨h2, eh2, hf⟩ := ob hf
    refine r_iast (pc := 14) X dX0_begin_14 eh2 ?_
    obtain ⟨x3, ex3, hf⟩ := ob hf
    refine r_iinc2 (pc := 15) X 1 [some (.ref v0), some (.int x3)] dX0_begin_15 (by decide) rfl (by decide) ex3 rfl ?_
    refine r_goto (pc := 18) X 2 dX0_begin_18 (by decide) ?_
    obtain rfl := Option.some.inj hf
    exact hk
def fn_X0_begin (h : aH) (p0 : Nat) : Option (aH) :=
  (lp (lb_X0_begin_2 p0) lpN (0, h)).bind fun o5 =>
  (pI o5 p0 0 8 0).bind fun h7 =>
  (pI h7 p0 0 9 0).bind fun h8 =>
  some h8
set_option maxRecDepth 20000 in
set_option maxHeartbeats 4000000 in
theorem ev_X0_begin {l : Launch} {g : aG} {d : Nat} (hd : 0 ≤ d) (h : aH) (p0 : Nat) (o : aH) (hf : fn_X0_begin h p0 = some o) : EvM l g d yX0_begin cX0_begin 2 none [.ref p0] h (none, o) := by
  refine EvM.of mk_X0_begin (Nat.le_of_ble_eq_true rfl) ?_
  intro Γ hl hg hq X
  have hd1 : 0 ≤ d := by omega
  have hk : RqV Γ o := hq
  unfold fn_X0_begin at hf
  show Jd Γ (0, 0) 0 [some (.ref p0), none] [] h
  refine r_iconst (pc := 0) X 0 dX0_begin_0 (by decide) ?_
  refine r_istore_n (pc := 1) X [some (.ref p0), some (.int 0)] dX0_begin_1 (by decide) rfl ?_
  obtain ⟨o5, eo5, hf⟩ := ob hf
  refine (lw_X0_begin_2 X hd _ lpN _ o5 eo5 ?_)
  intro j6
  refine r_aload_n (pc := 21) X dX0_begin_21 rfl ?_
  refine r_iconst (pc := 22) X 0 dX0_begin_22 (by decide) ?_
  obtain ⟨h7, eh7, hf⟩ := ob hf
  refine r_putI (pc := 23) X dX0_begin_23 fp_X0_39 rfl eh7 ?_
  refine r_aload_n (pc := 26) X dX0_begin_26 rfl ?_
  refine r_iconst (pc := 27) X 0 dX0_begin_27 (by decide) ?_
  obtain ⟨h8, eh8, hf⟩ := ob hf
  refine r_putI (pc := 28) X dX0_begin_28 fp_X0_42 rfl eh8 ?_
  obtain rfl := Option.some.inj hf
  exact r_vret (pc := 31) X dX0_begin_31 hk

theorem dX0_opens_0 : decode cX0_opens 0 = .ok (.aload_n 1, 1) := by decide +kernel
theorem dX0_opens_1 : decode cX0_opens 1 = .ok (.getfield 62, 3) := by decide +kernel
theorem dX0_opens_4 : decode cX0_opens 4 = .ok (.aload_n 0, 1) := by decide +kernel
theorem dX0_opens_5 : decode cX0_opens 5 = .ok (.getfield 9, 3) := by decide +kernel
theorem dX0_opens_8 : decode cX0_opens 8 = .ok (.iload_n 2, 1) := by decide +kernel
theorem dX0_opens_9 : decode cX0_opens 9 = .ok (.iaload, 1) := by decide +kernel
theorem dX0_opens_10 : decode cX0_opens 10 = .ok (.iaload, 1) := by decide +kernel
theorem dX0_opens_11 : decode cX0_opens 11 = .ok (.istore_n 3, 1) := by decide +kernel
theorem dX0_opens_12 : decode cX0_opens 12 = .ok (.aload_n 1, 1) := by decide +kernel
theorem dX0_opens_13 : decode cX0_opens 13 = .ok (.getfield 72, 3) := by decide +kernel
theorem dX0_opens_16 : decode cX0_opens 16 = .ok (.aload_n 0, 1) := by decide +kernel
theorem dX0_opens_17 : decode cX0_opens 17 = .ok (.getfield 9, 3) := by decide +kernel
theorem dX0_opens_20 : decode cX0_opens 20 = .ok (.iload_n 2, 1) := by decide +kernel
theorem dX0_opens_21 : decode cX0_opens 21 = .ok (.iaload, 1) := by decide +kernel
theorem dX0_opens_22 : decode cX0_opens 22 = .ok (.iaload, 1) := by decide +kernel
theorem dX0_opens_23 : decode cX0_opens 23 = .ok (.istore 4, 2) := by decide +kernel
theorem dX0_opens_25 : decode cX0_opens 25 = .ok (.aload_n 0, 1) := by decide +kernel
theorem dX0_opens_26 : decode cX0_opens 26 = .ok (.getfield 18, 3) := by decide +kernel
theorem dX0_opens_29 : decode cX0_opens 29 = .ok (.iload_n 2, 1) := by decide +kernel
theorem dX0_opens_30 : decode cX0_opens 30 = .ok (.iaload, 1) := by decide +kernel
theorem dX0_opens_31 : decode cX0_opens 31 = .ok (.ifCond .ne 24, 3) := by decide +kernel
theorem dX0_opens_34 : decode cX0_opens 34 = .ok (.iload_n 3, 1) := by decide +kernel
theorem dX0_opens_35 : decode cX0_opens 35 = .ok (.aload_n 1, 1) := by decide +kernel
theorem dX0_opens_36 : decode cX0_opens 36 = .ok (.getfield 62, 3) := by decide +kernel
theorem dX0_opens_39 : decode cX0_opens 39 = .ok (.aload_n 0, 1) := by decide +kernel
theorem dX0_opens_40 : decode cX0_opens 40 = .ok (.getfield 15, 3) := by decide +kernel
theorem dX0_opens_43 : decode cX0_opens 43 = .ok (.iload_n 2, 1) := by decide +kernel
theorem dX0_opens_44 : decode cX0_opens 44 = .ok (.iaload, 1) := by decide +kernel
theorem dX0_opens_45 : decode cX0_opens 45 = .ok (.iaload, 1) := by decide +kernel
theorem dX0_opens_46 : decode cX0_opens 46 = .ok (.if_icmp .le 7, 3) := by decide +kernel
theorem dX0_opens_49 : decode cX0_opens 49 = .ok (.iconst 1, 1) := by decide +kernel
theorem dX0_opens_50 : decode cX0_opens 50 = .ok (.goto 4, 3) := by decide +kernel
theorem dX0_opens_53 : decode cX0_opens 53 = .ok (.iconst 0, 1) := by decide +kernel
theorem dX0_opens_54 : decode cX0_opens 54 = .ok (.ireturn, 1) := by decide +kernel
theorem dX0_opens_55 : decode cX0_opens 55 = .ok (.aload_n 0, 1) := by decide +kernel
theorem dX0_opens_56 : decode cX0_opens 56 = .ok (.getfield 18, 3) := by decide +kernel
theorem dX0_opens_59 : decode cX0_opens 59 = .ok (.iload_n 2, 1) := by decide +kernel
theorem dX0_opens_60 : decode cX0_opens 60 = .ok (.iaload, 1) := by decide +kernel
theorem dX0_opens_61 : decode cX0_opens 61 = .ok (.iconst 1, 1) := by decide +kernel
theorem dX0_opens_62 : decode cX0_opens 62 = .ok (.if_icmp .ne 15, 3) := by decide +kernel
theorem dX0_opens_65 : decode cX0_opens 65 = .ok (.iload_n 3, 1) := by decide +kernel
theorem dX0_opens_66 : decode cX0_opens 66 = .ok (.iload 4, 2) := by decide +kernel
theorem dX0_opens_68 : decode cX0_opens 68 = .ok (.if_icmp .le 7, 3) := by decide +kernel
theorem dX0_opens_71 : decode cX0_opens 71 = .ok (.iconst 1, 1) := by decide +kernel
theorem dX0_opens_72 : decode cX0_opens 72 = .ok (.goto 4, 3) := by decide +kernel
theorem dX0_opens_75 : decode cX0_opens 75 = .ok (.iconst 0, 1) := by decide +kernel
theorem dX0_opens_76 : decode cX0_opens 76 = .ok (.ireturn, 1) := by decide +kernel
theorem dX0_opens_77 : decode cX0_opens 77 = .ok (.iconst 1, 1) := by decide +kernel
theorem dX0_opens_78 : decode cX0_opens 78 = .ok (.iload_n 2, 1) := by decide +kernel
theorem dX0_opens_79 : decode cX0_opens 79 = .ok (.ishl, 1) := by decide +kernel
theorem dX0_opens_80 : decode cX0_opens 80 = .ok (.istore 5, 2) := by decide +kernel
theorem dX0_opens_82 : decode cX0_opens 82 = .ok (.iload_n 3, 1) := by decide +kernel
theorem dX0_opens_83 : decode cX0_opens 83 = .ok (.iload 4, 2) := by decide +kernel
theorem dX0_opens_85 : decode cX0_opens 85 = .ok (.if_icmp .lt 14, 3) := by decide +kernel
theorem dX0_opens_88 : decode cX0_opens 88 = .ok (.aload_n 1, 1) := by decide +kernel
theorem dX0_opens_89 : decode cX0_opens 89 = .ok (.dup, 1) := by decide +kernel
theorem dX0_opens_90 : decode cX0_opens 90 = .ok (.getfield 75, 3) := by decide +kernel
theorem dX0_opens_93 : decode cX0_opens 93 = .ok (.iload 5, 2) := by decide +kernel
theorem dX0_opens_95 : decode cX0_opens 95 = .ok (.ior, 1) := by decide +kernel
theorem dX0_opens_96 : decode cX0_opens 96 = .ok (.putfield 75, 3) := by decide +kernel
theorem dX0_opens_99 : decode cX0_opens 99 = .ok (.iload_n 3, 1) := by decide +kernel
theorem dX0_opens_100 : decode cX0_opens 100 = .ok (.ifCond .ne 16, 3) := by decide +kernel
theorem dX0_opens_103 : decode cX0_opens 103 = .ok (.aload_n 1, 1) := by decide +kernel
theorem dX0_opens_104 : decode cX0_opens 104 = .ok (.dup, 1) := by decide +kernel
theorem dX0_opens_105 : decode cX0_opens 105 = .ok (.getfield 75, 3) := by decide +kernel
theorem dX0_opens_108 : decode cX0_opens 108 = .ok (.iload 5, 2) := by decide +kernel
theorem dX0_opens_110 : decode cX0_opens 110 = .ok (.iconst (-1), 1) := by decide +kernel
theorem dX0_opens_111 : decode cX0_opens 111 = .ok (.ixor, 1) := by decide +kernel
theorem dX0_opens_112 : decode cX0_opens 112 = .ok (.iand, 1) := by decide +kernel
theorem dX0_opens_113 : decode cX0_opens 113 = .ok (.putfield 75, 3) := by decide +kernel
theorem dX0_opens_116 : decode cX0_opens 116 = .ok (.aload_n 1, 1) := by decide +kernel
theorem dX0_opens_117 : decode cX0_opens 117 = .ok (.getfield 75, 3) := by decide +kernel
theorem dX0_opens_120 : decode cX0_opens 120 = .ok (.iload 5, 2) := by decide +kernel
theorem dX0_opens_122 : decode cX0_opens 122 = .ok (.iand, 1) := by decide +kernel
theorem dX0_opens_123 : decode cX0_opens 123 = .ok (.ifCond .eq 7, 3) := by decide +kernel
theorem dX0_opens_126 : decode cX0_opens 126 = .ok (.iconst 1, 1) := by decide +kernel
theorem dX0_opens_127 : decode cX0_opens 127 = .ok (.goto 4, 3) := by decide +kernel
theorem dX0_opens_130 : decode cX0_opens 130 = .ok (.iconst 0, 1) := by decide +kernel
theorem dX0_opens_131 : decode cX0_opens 131 = .ok (.ireturn, 1) := by decide +kernel
def fn_X0_opens (h : aH) (p0 : Nat) (p1 : Nat) (p2 : Int32) : Option (Int32 × aH) :=
  (gR h p1 6 0).bind fun a1 =>
  (gR h p0 0 3).bind fun a2 =>
  (aI h a2 14 p2).bind fun x3 =>
  (aI h a1 14 x3).bind fun x4 =>
  (gR h p1 6 1).bind fun a5 =>
  (gR h p0 0 3).bind fun a6 =>
  (aI h a6 14 p2).bind fun x7 =>
  (aI h a5 14 x7).bind fun x8 =>
  (gR h p0 0 5).bind fun a9 =>
  (aI h a9 14 p2).bind fun x10 =>
  if x10 = 0 then
    (gR h p1 6 0).bind fun a26 =>
    (gR h p0 0 4).bind fun a27 =>
    (aI h a27 14 p2).bind fun x28 =>
    (aI h a26 14 x28).bind fun x29 =>
    if x4 ≤ x29 then
      some (0, h)
    else
      some (1, h)
  else
    (gR h p0 0 5).bind fun a11 =>
    (aI h a11 14 p2).bind fun x12 =>
    if x12 = 1 then
      if x4 ≤ x8 then
        some (0, h)
      else
        some (1, h)
    else
      (some (1 <<< (p2 &&& 31))).bind fun x13 =>
      ((
        if x4 < x8 then
          some h
        else
          (gI h p1 6 2).bind fun x21 =>
          (pI h p1 6 2 (x21 ||| x13)).bind fun h22 =>
          some h22
      ) : Option (aH)).bind fun t14 =>
      ((
        if x4 = 0 then
          (gI t14 p1 6 2).bind fun x18 =>
          (pI t14 p1 6 2 (x18 &&& (x13 ^^^ (-1)))).bind fun h19 =>
          some h19
        else
          some t14
      ) : Option (aH)).bind fun t15 =>
      (gI t15 p1 6 2).bind fun x16 =>
      if (x16 &&& x13) = 0 then
        some (0, t15)
      else
        some (1, t15)
set_option maxRecDepth 20000 in
set_option maxHeartbeats 4000000 in
theorem ev_X0_opens {l : Launch} {g : aG} {d : Nat} (hd : 0 ≤ d) (h : aH) (p0 : Nat) (p1 : Nat) (p2 : Int32) (o : Int32 × aH) (hf : fn_X0_opens h p0 p1 p2 = some o) : EvM l g d yX0_opens cX0_opens 6 (some .boolean) [.ref p0, .ref p1, .int p2] h (some (.int o.1), o.2) := by
  refine EvM.of mk_X0_opens (Nat.le_of_ble_eq_true rfl) ?_
  intro Γ hl hg hq X
  have hd1 : 0 ≤ d := by omega
  have hk : RqI Γ o := hq
  unfold fn_X0_opens at hf
  show Jd Γ (0, 0) 0 [some (.ref p0), some (.ref p1), some (.int p2), none, none, none] [] h
  refine r_aload_n (pc := 0) X dX0_opens_0 rfl ?_
  obtain ⟨a1, ea1, hf⟩ := ob hf
  refine r_getR (pc := 1) X dX0_opens_1 fl_X0_62 rfl ea1 ?_
  refine r_aload_n (pc := 4) X dX0_opens_4 rfl ?_
  obtain ⟨a2, ea2, hf⟩ := ob hf
  refine r_getR (pc := 5) X dX0_opens_5 fl_X0_9 rfl ea2 ?_
  refine r_iload_n (pc := 8) X dX0_opens_8 rfl ?_
  obtain ⟨x3, ex3, hf⟩ := ob hf
  refine r_iald (pc := 9) X dX0_opens_9 ex3 ?_
  obtain ⟨x4, ex4, hf⟩ := ob hf
  refine r_iald (pc := 10) X dX0_opens_10 ex4 ?_
  refine r_istore_n (pc := 11) X [some (.ref p0), some (.ref p1), some (.int p2), some (.int x4), none, none] dX0_opens_11 (by decide) rfl ?_
  refine r_aload_n (pc := 12) X dX0_opens_12 rfl ?_
  obtain ⟨a5, ea5, hf⟩ := ob hf
  refine r_getR (pc := 13) X dX0_opens_13 fl_X0_72 rfl ea5 ?_
  refine r_aload_n (pc := 16) X dX0_opens_16 rfl ?_
  obtain ⟨a6, ea6, hf⟩ := ob hf
  refine r_getR (pc := 17) X dX0_opens_17 fl_X0_9 rfl ea6 ?_
  refine r_iload_n (pc := 20) X dX0_opens_20 rfl ?_
  obtain ⟨x7, ex7, hf⟩ := ob hf
  refine r_iald (pc := 21) X dX0_opens_21 ex7 ?_
  obtain ⟨x8, ex8, hf⟩ := ob hf
  refine r_iald (pc := 22) X dX0_opens_22 ex8 ?_
  refine r_istore (pc := 23) X [some (.ref p0), some (.ref p1), some (.int p2), some (.int x4), some (.int x8), none] dX0_opens_23 (by decide) rfl ?_
  refine r_aload_n (pc := 25) X dX0_opens_25 rfl ?_
  obtain ⟨a9, ea9, hf⟩ := ob hf
  refine r_getR (pc := 26) X dX0_opens_26 fl_X0_18 rfl ea9 ?_
  refine r_iload_n (pc := 29) X dX0_opens_29 rfl ?_
  obtain ⟨x10, ex10, hf⟩ := ob hf
  refine r_iald (pc := 30) X dX0_opens_30 ex10 ?_
  refine r_if_ne (pc := 31) X 55 dX0_opens_31 (by decide) (fun c31 => ?_) (fun c31 => ?_)
  · rw [if_neg c31] at hf
    refine r_aload_n (pc := 55) X dX0_opens_55 rfl ?_
    obtain ⟨a11, ea11, hf⟩ := ob hf
    refine r_getR (pc := 56) X dX0_opens_56 fl_X0_18 rfl ea11 ?_
    refine r_iload_n (pc := 59) X dX0_opens_59 rfl ?_
    obtain ⟨x12, ex12, hf⟩ := ob hf
    refine r_iald (pc := 60) X dX0_opens_60 ex12 ?_
    refine r_iconst (pc := 61) X 1 dX0_opens_61 (by decide) ?_
    refine r_icmp_ne (pc := 62) X 77 dX0_opens_62 (by decide) (fun c25 => ?_) (fun c25 => ?_)
    · rw [if_neg c25] at hf
      refine r_iconst (pc := 77) X 1 dX0_opens_77 (by decide) ?_
      refine r_iload_n (pc := 78) X dX0_opens_78 rfl ?_
      refine r_ishl (pc := 79) X dX0_opens_79 ?_
      obtain ⟨x13, ex13, hf⟩ := ob hf
      refine r_nmI ex13 ?_
      refine r_istore (pc := 80) X [some (.ref p0), some (.ref p1), some (.int p2), some (.int x4), some (.int x8), some (.int x13)] dX0_opens_80 (by decide) rfl ?_
      refine r_iload_n (pc := 82) X dX0_opens_82 rfl ?_
      refine r_iload (pc := 83) X dX0_opens_83 rfl ?_
      obtain ⟨t14, et14, hf⟩ := ob hf
      have Jt14 : Jd Γ (0, 0) 99 [some (.ref p0), some (.ref p1), some (.int p2), some (.int x4), some (.int x8), some (.int x13)] [] t14 := by
        refine r_iload_n (pc := 99) X dX0_opens_99 rfl ?_
        obtain ⟨t15, et15, hf⟩ := ob hf
        have Jt15 : Jd Γ (0, 0) 116 [some (.ref p0), some (.ref p1), some (.int p2), some (.int x4), some (.int x8), some (.int x13)] [] t15 := by
          refine r_aload_n (pc := 116) X dX0_opens_116 rfl ?_
          obtain ⟨x16, ex16, hf⟩ := ob hf
          refine r_getI (pc := 117) X dX0_opens_117 fl_X0_75 rfl ex16 ?_
          refine r_iload (pc := 120) X dX0_opens_120 rfl ?_
          refine r_iand (pc := 122) X dX0_opens_122 ?_
          refine r_if_eq (pc := 123) X 130 dX0_opens_123 (by decide) (fun c17 => ?_) (fun c17 => ?_)
          · rw [if_pos c17] at hf
            refine r_iconst (pc := 130) X 0 dX0_opens_130 (by decide) ?_
            obtain rfl := Option.some.inj hf
            exact r_zret (pc := 131) X dX0_opens_131 (Or.inl rfl) hk
          · rw [if_neg c17] at hf
            refine r_iconst (pc := 126) X 1 dX0_opens_126 (by decide) ?_
            refine r_goto (pc := 127) X 131 dX0_opens_127 (by decide) ?_
            obtain rfl := Option.some.inj hf
            exact r_zret (pc := 131) X dX0_opens_131 (Or.inr rfl) hk
        refine r_if_ne (pc := 100) X 116 dX0_opens_100 (by decide) (fun c20 => ?_) (fun c20 => ?_)
        · rw [if_neg c20] at et15
          obtain rfl := Option.some.inj et15
          exact Jt15
        · rw [if_pos c20] at et15
          refine r_aload_n (pc := 103) X dX0_opens_103 rfl ?_
          refine r_dup (pc := 104) X dX0_opens_104 rfl ?_
          obtain ⟨x18, ex18, et15⟩ := ob et15
          refine r_getI (pc := 105) X dX0_opens_105 fl_X0_75 rfl ex18 ?_
          refine r_iload (pc := 108) X dX0_opens_108 rfl ?_
          refine r_iconst (pc := 110) X (-1) dX0_opens_110 (by decide) ?_
          refine r_ixor (pc := 111) X dX0_opens_111 ?_
          refine r_iand (pc := 112) X dX0_opens_112 ?_
          obtain ⟨h19, eh19, et15⟩ := ob et15
          refine r_putI (pc := 113) X dX0_opens_113 fp_X0_75 rfl eh19 ?_
          obtain rfl := Option.some.inj et15
          exact Jt15
      refine r_icmp_lt (pc := 85) X 99 dX0_opens_85 (by decide) (fun c23 => ?_) (fun c23 => ?_)
      · rw [if_pos c23] at et14
        obtain rfl := Option.some.inj et14
        exact Jt14
      · rw [if_neg c23] at et14
        refine r_aload_n (pc := 88) X dX0_opens_88 rfl ?_
        refine r_dup (pc := 89) X dX0_opens_89 rfl ?_
        obtain ⟨x21, ex21, et14⟩ := ob et14
        refine r_getI (pc := 90) X dX0_opens_90 fl_X0_75 rfl ex21 ?_
        refine r_iload (pc := 93) X dX0_opens_93 rfl ?_
        refine r_ior (pc := 95) X dX0_opens_95 ?_
        obtain ⟨h22, eh22, et14⟩ := ob et14
        refine r_putI (pc := 96) X dX0_opens_96 fp_X0_75 rfl eh22 ?_
        obtain rfl := Option.some.inj et14
        exact Jt14
    · rw [if_pos c25] at hf
      refine r_iload_n (pc := 65) X dX0_opens_65 rfl ?_
      refine r_iload (pc := 66) X dX0_opens_66 rfl ?_
      refine r_icmp_le (pc := 68) X 75 dX0_opens_68 (by decide) (fun c24 => ?_) (fun c24 => ?_)
      · rw [if_pos c24] at hf
        refine r_iconst (pc := 75) X 0 dX0_opens_75 (by decide) ?_
        obtain rfl := Option.some.inj hf
        exact r_zret (pc := 76) X dX0_opens_76 (Or.inl rfl) hk
      · rw [if_neg c24] at hf
        refine r_iconst (pc := 71) X 1 dX0_opens_71 (by decide) ?_
        refine r_goto (pc := 72) X 76 dX0_opens_72 (by decide) ?_
        obtain rfl := Option.some.inj hf
        exact r_zret (pc := 76) X dX0_opens_76 (Or.inr rfl) hk
  · rw [if_pos c31] at hf
    refine r_iload_n (pc := 34) X dX0_opens_34 rfl ?_
    refine r_aload_n (pc := 35) X dX0_opens_35 rfl ?_
    obtain ⟨a26, ea26, hf⟩ := ob hf
    refine r_getR (pc := 36) X dX0_opens_36 fl_X0_62 rfl ea26 ?_
    refine r_aload_n (pc := 39) X dX0_opens_39 rfl ?_
    obtain ⟨a27, ea27, hf⟩ := ob hf
    refine r_getR (pc := 40) X dX0_opens_40 fl_X0_15 rfl ea27 ?_
    refine r_iload_n (pc := 43) X dX0_opens_43 rfl ?_
    obtain ⟨x28, ex28, hf⟩ := ob hf
    refine r_iald (pc := 44) X dX0_opens_44 ex28 ?_
    obtain ⟨x29, ex29, hf⟩ := ob hf
    refine r_iald (pc := 45) X dX0_opens_45 ex29 ?_
    refine r_icmp_le (pc := 46) X 53 dX0_opens_46 (by decide) (fun c30 => ?_) (fun c30 => ?_)
    · rw [if_pos c30] at hf
      refine r_iconst (pc := 53) X 0 dX0_opens_53 (by decide) ?_
      obtain rfl := Option.some.inj hf
      exact r_zret (pc := 54) X dX0_opens_54 (Or.inl rfl) hk
    · rw [if_neg c30] at hf
      refine r_iconst (pc := 49) X 1 dX0_opens_49 (by decide) ?_
      refine r_goto (pc := 50) X 54 dX0_opens_50 (by decide) ?_
      obtain rfl := Option.some.inj hf
      exact r_zret (pc := 54) X dX0_opens_54 (Or.inr rfl) hk

theorem dX0_flow_0 : decode cX0_flow 0 = .ok (.aload_n 1, 1) := by decide +kernel
theorem dX0_flow_1 : decode cX0_flow 1 = .ok (.getfield 62, 3) := by decide +kernel
theorem dX0_flow_4 : decode cX0_flow 4 = .ok (.aload_n 0, 1) := by decide +kernel
theorem dX0_flow_5 : decode cX0_flow 5 = .ok (.getfield 9, 3) := by decide +kernel
theorem dX0_flow_8 : decode cX0_flow 8 = .ok (.iload_n 3, 1) := by decide +kernel
theorem dX0_flow_9 : decode cX0_flow 9 = .ok (.iaload, 1) := by decide +kernel
theorem dX0_flow_10 : decode cX0_flow 10 = .ok (.iaload, 1) := by decide +kernel
theorem dX0_flow_11 : decode cX0_flow 11 = .ok (.istore 4, 2) := by decide +kernel
theorem dX0_flow_13 : decode cX0_flow 13 = .ok (.aload_n 1, 1) := by decide +kernel
theorem dX0_flow_14 : decode cX0_flow 14 = .ok (.getfield 62, 3) := by decide +kernel
theorem dX0_flow_17 : decode cX0_flow 17 = .ok (.aload_n 0, 1) := by decide +kernel
theorem dX0_flow_18 : decode cX0_flow 18 = .ok (.getfield 15, 3) := by decide +kernel
theorem dX0_flow_21 : decode cX0_flow 21 = .ok (.iload_n 3, 1) := by decide +kernel
theorem dX0_flow_22 : decode cX0_flow 22 = .ok (.iaload, 1) := by decide +kernel
theorem dX0_flow_23 : decode cX0_flow 23 = .ok (.iaload, 1) := by decide +kernel
theorem dX0_flow_24 : decode cX0_flow 24 = .ok (.istore 5, 2) := by decide +kernel
theorem dX0_flow_26 : decode cX0_flow 26 = .ok (.iload 4, 2) := by decide +kernel
theorem dX0_flow_28 : decode cX0_flow 28 = .ok (.bipush 9, 2) := by decide +kernel
theorem dX0_flow_30 : decode cX0_flow 30 = .ok (.iload 5, 2) := by decide +kernel
theorem dX0_flow_32 : decode cX0_flow 32 = .ok (.isub, 1) := by decide +kernel
theorem dX0_flow_33 : decode cX0_flow 33 = .ok (.invokestatic 85, 3) := by decide +kernel
theorem dX0_flow_36 : decode cX0_flow 36 = .ok (.istore 6, 2) := by decide +kernel
theorem dX0_flow_38 : decode cX0_flow 38 = .ok (.aload_n 0, 1) := by decide +kernel
theorem dX0_flow_39 : decode cX0_flow 39 = .ok (.getfield 26, 3) := by decide +kernel
theorem dX0_flow_42 : decode cX0_flow 42 = .ok (.iconst 0, 1) := by decide +kernel
theorem dX0_flow_43 : decode cX0_flow 43 = .ok (.iload 4, 2) := by decide +kernel
theorem dX0_flow_45 : decode cX0_flow 45 = .ok (.iastore, 1) := by decide +kernel
theorem dX0_flow_46 : decode cX0_flow 46 = .ok (.aload_n 0, 1) := by decide +kernel
theorem dX0_flow_47 : decode cX0_flow 47 = .ok (.getfield 26, 3) := by decide +kernel
theorem dX0_flow_50 : decode cX0_flow 50 = .ok (.iconst 1, 1) := by decide +kernel
theorem dX0_flow_51 : decode cX0_flow 51 = .ok (.iload 5, 2) := by decide +kernel
theorem dX0_flow_53 : decode cX0_flow 53 = .ok (.iastore, 1) := by decide +kernel
theorem dX0_flow_54 : decode cX0_flow 54 = .ok (.aload_n 0, 1) := by decide +kernel
theorem dX0_flow_55 : decode cX0_flow 55 = .ok (.getfield 26, 3) := by decide +kernel
theorem dX0_flow_58 : decode cX0_flow 58 = .ok (.iconst 2, 1) := by decide +kernel
theorem dX0_flow_59 : decode cX0_flow 59 = .ok (.aload_n 1, 1) := by decide +kernel
theorem dX0_flow_60 : decode cX0_flow 60 = .ok (.getfield 72, 3) := by decide +kernel
theorem dX0_flow_63 : decode cX0_flow 63 = .ok (.aload_n 0, 1) := by decide +kernel
theorem dX0_flow_64 : decode cX0_flow 64 = .ok (.getfield 9, 3) := by decide +kernel
theorem dX0_flow_67 : decode cX0_flow 67 = .ok (.iload_n 3, 1) := by decide +kernel
theorem dX0_flow_68 : decode cX0_flow 68 = .ok (.iaload, 1) := by decide +kernel
theorem dX0_flow_69 : decode cX0_flow 69 = .ok (.iaload, 1) := by decide +kernel
theorem dX0_flow_70 : decode cX0_flow 70 = .ok (.iastore, 1) := by decide +kernel
theorem dX0_flow_71 : decode cX0_flow 71 = .ok (.aload_n 0, 1) := by decide +kernel
theorem dX0_flow_72 : decode cX0_flow 72 = .ok (.getfield 26, 3) := by decide +kernel
theorem dX0_flow_75 : decode cX0_flow 75 = .ok (.iconst 3, 1) := by decide +kernel
theorem dX0_flow_76 : decode cX0_flow 76 = .ok (.aload_n 1, 1) := by decide +kernel
theorem dX0_flow_77 : decode cX0_flow 77 = .ok (.getfield 72, 3) := by decide +kernel
theorem dX0_flow_80 : decode cX0_flow 80 = .ok (.aload_n 0, 1) := by decide +kernel
theorem dX0_flow_81 : decode cX0_flow 81 = .ok (.getfield 15, 3) := by decide +kernel
theorem dX0_flow_84 : decode cX0_flow 84 = .ok (.iload_n 3, 1) := by decide +kernel
theorem dX0_flow_85 : decode cX0_flow 85 = .ok (.iaload, 1) := by decide +kernel
theorem dX0_flow_86 : decode cX0_flow 86 = .ok (.iaload, 1) := by decide +kernel
theorem dX0_flow_87 : decode cX0_flow 87 = .ok (.iastore, 1) := by decide +kernel
theorem dX0_flow_88 : decode cX0_flow 88 = .ok (.aload_n 0, 1) := by decide +kernel
theorem dX0_flow_89 : decode cX0_flow 89 = .ok (.getfield 26, 3) := by decide +kernel
theorem dX0_flow_92 : decode cX0_flow 92 = .ok (.iconst 4, 1) := by decide +kernel
theorem dX0_flow_93 : decode cX0_flow 93 = .ok (.iload_n 3, 1) := by decide +kernel
theorem dX0_flow_94 : decode cX0_flow 94 = .ok (.iastore, 1) := by decide +kernel
theorem dX0_flow_95 : decode cX0_flow 95 = .ok (.aload_n 0, 1) := by decide +kernel
theorem dX0_flow_96 : decode cX0_flow 96 = .ok (.getfield 26, 3) := by decide +kernel
theorem dX0_flow_99 : decode cX0_flow 99 = .ok (.iconst 5, 1) := by decide +kernel
theorem dX0_flow_100 : decode cX0_flow 100 = .ok (.aload_n 0, 1) := by decide +kernel
theorem dX0_flow_101 : decode cX0_flow 101 = .ok (.getfield 18, 3) := by decide +kernel
theorem dX0_flow_104 : decode cX0_flow 104 = .ok (.iload_n 3, 1) := by decide +kernel
theorem dX0_flow_105 : decode cX0_flow 105 = .ok (.iaload, 1) := by decide +kernel
theorem dX0_flow_106 : decode cX0_flow 106 = .ok (.iastore, 1) := by decide +kernel
theorem dX0_flow_107 : decode cX0_flow 107 = .ok (.aload_n 0, 1) := by decide +kernel
theorem dX0_flow_108 : decode cX0_flow 108 = .ok (.getfield 26, 3) := by decide +kernel
theorem dX0_flow_111 : decode cX0_flow 111 = .ok (.bipush 6, 2) := by decide +kernel
theorem dX0_flow_113 : decode cX0_flow 113 = .ok (.aload_n 1, 1) := by decide +kernel
theorem dX0_flow_114 : decode cX0_flow 114 = .ok (.getfield 69, 3) := by decide +kernel
theorem dX0_flow_117 : decode cX0_flow 117 = .ok (.iconst 3, 1) := by decide +kernel
theorem dX0_flow_118 : decode cX0_flow 118 = .ok (.iand, 1) := by decide +kernel
theorem dX0_flow_119 : decode cX0_flow 119 = .ok (.iastore, 1) := by decide +kernel
theorem dX0_flow_120 : decode cX0_flow 120 = .ok (.iload 6, 2) := by decide +kernel
theorem dX0_flow_122 : decode cX0_flow 122 = .ok (.ifCond .gt 7, 3) := by decide +kernel
theorem dX0_flow_125 : decode cX0_flow 125 = .ok (.iconst 0, 1) := by decide +kernel
theorem dX0_flow_126 : decode cX0_flow 126 = .ok (.goto 20, 3) := by decide +kernel
theorem dX0_flow_129 : decode cX0_flow 129 = .ok (.iconst 0, 1) := by decide +kernel
theorem dX0_flow_130 : decode cX0_flow 130 = .ok (.iload 6, 2) := by decide +kernel
theorem dX0_flow_132 : decode cX0_flow 132 = .ok (.aload_n 2, 1) := by decide +kernel
theorem dX0_flow_133 : decode cX0_flow 133 = .ok (.aload_n 0, 1) := by decide +kernel
theorem dX0_flow_134 : decode cX0_flow 134 = .ok (.getfield 26, 3) := by decide +kernel
theorem dX0_flow_137 : decode cX0_flow 137 = .ok (.invokevirtual 91, 3) := by decide +kernel
theorem dX0_flow_140 : decode cX0_flow 140 = .ok (.invokestatic 85, 3) := by decide +kernel
theorem dX0_flow_143 : decode cX0_flow 143 = .ok (.invokestatic 95, 3) := by decide +kernel
theorem dX0_flow_146 : decode cX0_flow 146 = .ok (.ireturn, 1) := by decide +kernel
def fn_X0_flow (h : aH) (p0 : Nat) (p1 : Nat) (p2 : Nat) (p3 : Int32) : Option (Int32 × aH) :=
  (gR h p1 6 0).bind fun a1 =>
  (gR h p0 0 3).bind fun a2 =>
  (aI h a2 14 p3).bind fun x3 =>
  (aI h a1 14 x3).bind fun x4 =>
  (gR h p1 6 0).bind fun a5 =>
  (gR h p0 0 4).bind fun a6 =>
  (aI h a6 14 p3).bind fun x7 =>
  (aI h a5 14 x7).bind fun x8 =>
  (some (mn x4 (9 - x8))).bind fun x9 =>
  (gR h p0 0 6).bind fun a10 =>
  (wI h a10 0 x4).bind fun h11 =>
  (gR h11 p0 0 6).bind fun a12 =>
  (wI h11 a12 1 x8).bind fun h13 =>
  (gR h13 p0 0 6).bind fun a14 =>
  (gR h13 p1 6 1).bind fun a15 =>
  (gR h13 p0 0 3).bind fun a16 =>
  (aI h13 a16 14 p3).bind fun x17 =>
  (aI h13 a15 14 x17).bind fun x18 =>
  (wI h13 a14 2 x18).bind fun h19 =>
  (gR h19 p0 0 6).bind fun a20 =>
  (gR h19 p1 6 1).bind fun a21 =>
  (gR h19 p0 0 4).bind fun a22 =>
  (aI h19 a22 14 p3).bind fun x23 =>
  (aI h19 a21 14 x23).bind fun x24 =>
  (wI h19 a20 3 x24).bind fun h25 =>
  (gR h25 p0 0 6).bind fun a26 =>
  (wI h25 a26 4 p3).bind fun h27 =>
  (gR h27 p0 0 6).bind fun a28 =>
  (gR h27 p0 0 5).bind fun a29 =>
  (aI h27 a29 14 p3).bind fun x30 =>
  (wI h27 a28 5 x30).bind fun h31 =>
  (gR h31 p0 0 6).bind fun a32 =>
  (gI h31 p1 6 4).bind fun x33 =>
  (wI h31 a32 6 (x33 &&& 3)).bind fun h34 =>
  if x9 ≤ 0 then
    some (0, h34)
  else
    (gR h34 p0 0 6).bind fun a35 =>
    (ck h34 p2 3).bind fun u36 =>
    (fn_X4_value h34 p2 a35).bind fun o37 =>
    some ((mx 0 (mn x9 o37.1)), o37.2)
set_option maxRecDepth 20000 in
set_option maxHeartbeats 4000000 in
theorem ev_X0_flow {l : Launch} {g : aG} {d : Nat} (hd : 2 ≤ d) (h : aH) (p0 : Nat) (p1 : Nat) (p2 : Nat) (p3 : Int32) (o : Int32 × aH) (hf : fn_X0_flow h p0 p1 p2 p3 = some o) : EvM l g d yX0_flow cX0_flow 7 (some .int) [.ref p0, .ref p1, .ref p2, .int p3] h (some (.int o.1), o.2) := by
  refine EvM.of mk_X0_flow (Nat.le_of_ble_eq_true rfl) ?_
  intro Γ hl hg hq X
  have hd1 : 1 ≤ d := by omega
  have hk : RqI Γ o := hq
  unfold fn_X0_flow at hf
  show Jd Γ (0, 0) 0 [some (.ref p0), some (.ref p1), some (.ref p2), some (.int p3), none, none, none] [] h
  refine r_aload_n (pc := 0) X dX0_flow_0 rfl ?_
  obtain ⟨a1, ea1, hf⟩ := ob hf
  refine r_getR (pc := 1) X dX0_flow_1 fl_X0_62 rfl ea1 ?_
  refine r_aload_n (pc := 4) X dX0_flow_4 rfl ?_
  obtain ⟨a2, ea2, hf⟩ := ob hf
  refine r_getR (pc := 5) X dX0_flow_5 fl_X0_9 rfl ea2 ?_
  refine r_iload_n (pc := 8) X dX0_flow_8 rfl ?_
  obtain ⟨x3, ex3, hf⟩ := ob hf
  refine r_iald (pc := 9) X dX0_flow_9 ex3 ?_
  obtain ⟨x4, ex4, hf⟩ := ob hf
  refine r_iald (pc := 10) X dX0_flow_10 ex4 ?_
  refine r_istore (pc := 11) X [some (.ref p0), some (.ref p1), some (.ref p2), some (.int p3), some (.int x4), none, none] dX0_flow_11 (by decide) rfl ?_
  refine r_aload_n (pc := 13) X dX0_flow_13 rfl ?_
  obtain ⟨a5, ea5, hf⟩ := ob hf
  refine r_getR (pc := 14) X dX0_flow_14 fl_X0_62 rfl ea5 ?_
  refine r_aload_n (pc := 17) X dX0_flow_17 rfl ?_
  obtain ⟨a6, ea6, hf⟩ := ob hf
  refine r_getR (pc := 18) X dX0_flow_18 fl_X0_15 rfl ea6 ?_
  refine r_iload_n (pc := 21) X dX0_flow_21 rfl ?_
  obtain ⟨x7, ex7, hf⟩ := ob hf
  refine r_iald (pc := 22) X dX0_flow_22 ex7 ?_
  obtain ⟨x8, ex8, hf⟩ := ob hf
  refine r_iald (pc := 23) X dX0_flow_23 ex8 ?_
  refine r_istore (pc := 24) X [some (.ref p0), some (.ref p1), some (.ref p2), some (.int p3), some (.int x4), some (.int x8), none] dX0_flow_24 (by decide) rfl ?_
  refine r_iload (pc := 26) X dX0_flow_26 rfl ?_
  refine r_bipush (pc := 28) X 9 dX0_flow_28 (by decide) ?_
  refine r_iload (pc := 30) X dX0_flow_30 rfl ?_
  refine r_isub (pc := 32) X dX0_flow_32 ?_
  refine r_min (pc := 33) X dX0_flow_33 ml_X0_85 ⟨Nat.le_refl _, Nat.le_refl _⟩ hd1 (Nat.le_of_ble_eq_true rfl) ?_
  obtain ⟨x9, ex9, hf⟩ := ob hf
  refine r_nmI ex9 ?_
  refine r_istore (pc := 36) X [some (.ref p0), some (.ref p1), some (.ref p2), some (.int p3), some (.int x4), some (.int x8), some (.int x9)] dX0_flow_36 (by decide) rfl ?_
  refine r_aload_n (pc := 38) X dX0_flow_38 rfl ?_
  obtain ⟨a10, ea10, hf⟩ := ob hf
  refine r_getR (pc := 39) X dX0_flow_39 fl_X0_26 rfl ea10 ?_
  refine r_iconst (pc := 42) X 0 dX0_flow_42 (by decide) ?_
  refine r_iload (pc := 43) X dX0_flow_43 rfl ?_
  obtain ⟨h11, eh11, hf⟩ := ob hf
  refine r_iast (pc := 45) X dX0_flow_45 eh11 ?_
  refine r_aload_n (pc := 46) X dX0_flow_46 rfl ?_
  obtain ⟨a12, ea12, hf⟩ := ob hf
  refine r_getR (pc := 47) X dX0_flow_47 fl_X0_26 rfl ea12 ?_
  refine r_iconst (pc := 50) X 1 dX0_flow_50 (by decide) ?_
  refine r_iload (pc := 51) X dX0_flow_51 rfl ?_
  obtain ⟨h13, eh13, hf⟩ := ob hf
  refine r_iast (pc := 53) X dX0_flow_53 eh13 ?_
  refine r_aload_n (pc := 54) X dX0_flow_54 rfl ?_
  obtain ⟨a14, ea14, hf⟩ := ob hf
  refine r_getR (pc := 55) X dX0_flow_55 fl_X0_26 rfl ea14 ?_
  refine r_iconst (pc := 58) X 2 dX0_flow_58 (by decide) ?_
  refine r_aload_n (pc := 59) X dX0_flow_59 rfl ?_
  obtain ⟨a15, ea15, hf⟩ := ob hf
  refine r_getR (pc := 60) X dX0_flow_60 fl_X0_72 rfl ea15 ?_
  refine r_aload_n (pc := 63) X dX0_flow_63 rfl ?_
  obtain ⟨a16, ea16, hf⟩ := ob hf
  refine r_getR (pc := 64) X dX0_flow_64 fl_X0_9 rfl ea16 ?_
  refine r_iload_n (pc := 67) X dX0_flow_67 rfl ?_
  obtain ⟨x17, ex17, hf⟩ := ob hf
  refine r_iald (pc := 68) X dX0_flow_68 ex17 ?_
  obtain ⟨x18, ex18, hf⟩ := ob hf
  refine r_iald (pc := 69) X dX0_flow_69 ex18 ?_
  obtain ⟨h19, eh19, hf⟩ := ob hf
  refine r_iast (pc := 70) X dX0_flow_70 eh19 ?_
  refine r_aload_n (pc := 71) X dX0_flow_71 rfl ?_
  obtain ⟨a20, ea20, hf⟩ := ob hf
  refine r_getR (pc := 72) X dX0_flow_72 fl_X0_26 rfl ea20 ?_
  refine r_iconst (pc := 75) X 3 dX0_flow_75 (by decide) ?_
  refine r_aload_n (pc := 76) X dX0_flow_76 rfl ?_
  obtain ⟨a21, ea21, hf⟩ := ob hf
  refine r_getR (pc := 77) X dX0_flow_77 fl_X0_72 rfl ea21 ?_
  refine r_aload_n (pc := 80) X dX0_flow_80 rfl ?_
  obtain ⟨a22, ea22, hf⟩ := ob hf
  refine r_getR (pc := 81) X dX0_flow_81 fl_X0_15 rfl ea22 ?_
  refine r_iload_n (pc := 84) X dX0_flow_84 rfl ?_
  obtain ⟨x23, ex23, hf⟩ := ob hf
  refine r_iald (pc := 85) X dX0_flow_85 ex23 ?_
  obtain ⟨x24, ex24, hf⟩ := ob hf
  refine r_iald (pc := 86) X dX0_flow_86 ex24 ?_
  obtain ⟨h25, eh25, hf⟩ := ob hf
  refine r_iast (pc := 87) X dX0_flow_87 eh25 ?_
  refine r_aload_n (pc := 88) X dX0_flow_88 rfl ?_
  obtain ⟨a26, ea26, hf⟩ := ob hf
  refine r_getR (pc := 89) X dX0_flow_89 fl_X0_26 rfl ea26 ?_
  refine r_iconst (pc := 92) X 4 dX0_flow_92 (by decide) ?_
  refine r_iload_n (pc := 93) X dX0_flow_93 rfl ?_
  obtain ⟨h27, eh27, hf⟩ := ob hf
  refine r_iast (pc := 94) X dX0_flow_94 eh27 ?_
  refine r_aload_n (pc := 95) X dX0_flow_95 rfl ?_
  obtain ⟨a28, ea28, hf⟩ := ob hf
  refine r_getR (pc := 96) X dX0_flow_96 fl_X0_26 rfl ea28 ?_
  refine r_iconst (pc := 99) X 5 dX0_flow_99 (by decide) ?_
  refine r_aload_n (pc := 100) X dX0_flow_100 rfl ?_
  obtain ⟨a29, ea29, hf⟩ := ob hf
  refine r_getR (pc := 101) X dX0_flow_101 fl_X0_18 rfl ea29 ?_
  refine r_iload_n (pc := 104) X dX0_flow_104 rfl ?_
  obtain ⟨x30, ex30, hf⟩ := ob hf
  refine r_iald (pc := 105) X dX0_flow_105 ex30 ?_
  obtain ⟨h31, eh31, hf⟩ := ob hf
  refine r_iast (pc := 106) X dX0_flow_106 eh31 ?_
  refine r_aload_n (pc := 107) X dX0_flow_107 rfl ?_
  obtain ⟨a32, ea32, hf⟩ := ob hf
  refine r_getR (pc := 108) X dX0_flow_108 fl_X0_26 rfl ea32 ?_
  refine r_bipush (pc := 111) X 6 dX0_flow_111 (by decide) ?_
  refine r_aload_n (pc := 113) X dX0_flow_113 rfl ?_
  obtain ⟨x33, ex33, hf⟩ := ob hf
  refine r_getI (pc := 114) X dX0_flow_114 fl_X0_69 rfl ex33 ?_
  refine r_iconst (pc := 117) X 3 dX0_flow_117 (by decide) ?_
  refine r_iand (pc := 118) X dX0_flow_118 ?_
  obtain ⟨h34, eh34, hf⟩ := ob hf
  refine r_iast (pc := 119) X dX0_flow_119 eh34 ?_
  refine r_iload (pc := 120) X dX0_flow_120 rfl ?_
  refine r_if_gt (pc := 122) X 129 dX0_flow_122 (by decide) (fun c38 => ?_) (fun c38 => ?_)
  · rw [if_neg c38] at hf
    refine r_iconst (pc := 129) X 0 dX0_flow_129 (by decide) ?_
    refine r_iload (pc := 130) X dX0_flow_130 rfl ?_
    refine r_aload_n (pc := 132) X dX0_flow_132 rfl ?_
    refine r_aload_n (pc := 133) X dX0_flow_133 rfl ?_
    obtain ⟨a35, ea35, hf⟩ := ob hf
    refine r_getR (pc := 134) X dX0_flow_134 fl_X0_26 rfl ea35 ?_
    obtain ⟨u36, eu36, hf⟩ := ob hf
    obtain ⟨o37, eo37, hf⟩ := ob hf
    refine r_callVI (pc := 137) X [.ref a35] dX0_flow_137 ml_X0_91 vo_X4_value ⟨Nat.le_refl _, Nat.le_refl _⟩ eu36 (ev_X4_value (d := d - 1) (by omega) _ _ _ _ eo37) hd1 rfl (Nat.le_of_ble_eq_true rfl) rfl ?_
    refine r_min (pc := 140) X dX0_flow_140 ml_X0_85 ⟨Nat.le_refl _, Nat.le_refl _⟩ hd1 (Nat.le_of_ble_eq_true rfl) ?_
    refine r_max (pc := 143) X dX0_flow_143 ml_X0_95 ⟨Nat.le_refl _, Nat.le_refl _⟩ hd1 (Nat.le_of_ble_eq_true rfl) ?_
    obtain rfl := Option.some.inj hf
    exact r_iret (pc := 146) X dX0_flow_146 hk
  · rw [if_pos c38] at hf
    refine r_iconst (pc := 125) X 0 dX0_flow_125 (by decide) ?_
    refine r_goto (pc := 126) X 146 dX0_flow_126 (by decide) ?_
    obtain rfl := Option.some.inj hf
    exact r_iret (pc := 146) X dX0_flow_146 hk

theorem dX0_leak_0 : decode cX0_leak 0 = .ok (.iconst 0, 1) := by decide +kernel
theorem dX0_leak_1 : decode cX0_leak 1 = .ok (.istore_n 2, 1) := by decide +kernel
theorem dX0_leak_2 : decode cX0_leak 2 = .ok (.iload_n 2, 1) := by decide +kernel
theorem dX0_leak_3 : decode cX0_leak 3 = .ok (.aload_n 0, 1) := by decide +kernel
theorem dX0_leak_4 : decode cX0_leak 4 = .ok (.getfield 29, 3) := by decide +kernel
theorem dX0_leak_7 : decode cX0_leak 7 = .ok (.if_icmp .ge 62, 3) := by decide +kernel
theorem dX0_leak_10 : decode cX0_leak 10 = .ok (.aload_n 0, 1) := by decide +kernel
theorem dX0_leak_11 : decode cX0_leak 11 = .ok (.iload_n 2, 1) := by decide +kernel
theorem dX0_leak_12 : decode cX0_leak 12 = .ok (.invokevirtual 78, 3) := by decide +kernel
theorem dX0_leak_15 : decode cX0_leak 15 = .ok (.ifCond .eq 48, 3) := by decide +kernel
theorem dX0_leak_18 : decode cX0_leak 18 = .ok (.aload_n 1, 1) := by decide +kernel
theorem dX0_leak_19 : decode cX0_leak 19 = .ok (.getfield 62, 3) := by decide +kernel
theorem dX0_leak_22 : decode cX0_leak 22 = .ok (.iload_n 2, 1) := by decide +kernel
theorem dX0_leak_23 : decode cX0_leak 23 = .ok (.iaload, 1) := by decide +kernel
theorem dX0_leak_24 : decode cX0_leak 24 = .ok (.ifCond .le 39, 3) := by decide +kernel
theorem dX0_leak_27 : decode cX0_leak 27 = .ok (.aload_n 1, 1) := by decide +kernel
theorem dX0_leak_28 : decode cX0_leak 28 = .ok (.getfield 62, 3) := by decide +kernel
theorem dX0_leak_31 : decode cX0_leak 31 = .ok (.iload_n 2, 1) := by decide +kernel
theorem dX0_leak_32 : decode cX0_leak 32 = .ok (.dup2, 1) := by decide +kernel
theorem dX0_leak_33 : decode cX0_leak 33 = .ok (.iaload, 1) := by decide +kernel
theorem dX0_leak_34 : decode cX0_leak 34 = .ok (.iconst 1, 1) := by decide +kernel
theorem dX0_leak_35 : decode cX0_leak 35 = .ok (.isub, 1) := by decide +kernel
theorem dX0_leak_36 : decode cX0_leak 36 = .ok (.iastore, 1) := by decide +kernel
theorem dX0_leak_37 : decode cX0_leak 37 = .ok (.aload_n 1, 1) := by decide +kernel
theorem dX0_leak_38 : decode cX0_leak 38 = .ok (.sipush 9999, 3) := by decide +kernel
theorem dX0_leak_41 : decode cX0_leak 41 = .ok (.aload_n 1, 1) := by decide +kernel
theorem dX0_leak_42 : decode cX0_leak 42 = .ok (.getfield 82, 3) := by decide +kernel
theorem dX0_leak_45 : decode cX0_leak 45 = .ok (.iconst 1, 1) := by decide +kernel
theorem dX0_leak_46 : decode cX0_leak 46 = .ok (.iadd, 1) := by decide +kernel
theorem dX0_leak_47 : decode cX0_leak 47 = .ok (.invokestatic 85, 3) := by decide +kernel
theorem dX0_leak_50 : decode cX0_leak 50 = .ok (.putfield 82, 3) := by decide +kernel
theorem dX0_leak_53 : decode cX0_leak 53 = .ok (.aload_n 0, 1) := by decide +kernel
theorem dX0_leak_54 : decode cX0_leak 54 = .ok (.dup, 1) := by decide +kernel
theorem dX0_leak_55 : decode cX0_leak 55 = .ok (.getfield 42, 3) := by decide +kernel
theorem dX0_leak_58 : decode cX0_leak 58 = .ok (.iconst 1, 1) := by decide +kernel
theorem dX0_leak_59 : decode cX0_leak 59 = .ok (.iadd, 1) := by decide +kernel
theorem dX0_leak_60 : decode cX0_leak 60 = .ok (.putfield 42, 3) := by decide +kernel
theorem dX0_leak_63 : decode cX0_leak 63 = .ok (.iinc 2 1, 3) := by decide +kernel
theorem dX0_leak_66 : decode cX0_leak 66 = .ok (.goto (-64), 3) := by decide +kernel
theorem dX0_leak_69 : decode cX0_leak 69 = .ok (.return_, 1) := by decide +kernel
def lb_X0_leak_2 (v0 : Nat) (v1 : Nat) (s : Int32 × aH) : Option ((Int32 × aH) ⊕ ((aH))) :=
  (gI s.2 v0 0 0).bind fun x1 =>
  if s.1 < x1 then
    (ck s.2 v0 0).bind fun u2 =>
    (fn_X0_leaks s.2 v0 s.1).bind fun x3 =>
    if x3 = 0 then
      (some (s.1 + 1)).bind fun x4 =>
      some (.inl (x4, s.2))
    else
      (gR s.2 v1 6 0).bind fun a5 =>
      (aI s.2 a5 14 s.1).bind fun x6 =>
      if x6 ≤ 0 then
        (some (s.1 + 1)).bind fun x7 =>
        some (.inl (x7, s.2))
      else
        (gR s.2 v1 6 0).bind fun a8 =>
        (aI s.2 a8 14 s.1).bind fun x9 =>
        (wI s.2 a8 s.1 (x9 - 1)).bind fun h10 =>
        (gI h10 v1 6 5).bind fun x11 =>
        (pI h10 v1 6 5 (mn 9999 (x11 + 1))).bind fun h12 =>
        (gI h12 v0 0 9).bind fun x13 =>
        (pI h12 v0 0 9 (x13 + 1)).bind fun h14 =>
        (some (s.1 + 1)).bind fun x15 =>
        some (.inl (x15, h14))
  else
    some (.inr s.2)
def hd_X0_leak_2 (Γ : aC) (v0 : Nat) (v1 : Nat) (s : Int32 × aH) : Prop := Jd Γ (0, 0) 2 [some (.ref v0), some (.ref v1), some (.int s.1)] [] s.2
def ex_X0_leak_2 (Γ : aC) (v0 : Nat) (v1 : Nat) (r : (aH)) : Prop := (fun r => RqV Γ r) r
set_option maxRecDepth 20000 in
set_option maxHeartbeats 4000000 in
theorem lw_X0_leak_2 {Γ : aC} {d : Nat} (X : Cx Γ RX0 cX0_leak 3 none (d, 0, 0)) (hd : 1 ≤ d) (v0 : Nat) (v1 : Nat) : ∀ n s o, lp (lb_X0_leak_2 v0 v1) n s = some o → ex_X0_leak_2 Γ v0 v1 o → hd_X0_leak_2 Γ v0 v1 s := by
  have hd1 : 1 ≤ d := by omega
  refine J_lp _ _ _ ?_
  intro s o hf hk
  unfold lb_X0_leak_2 at hf
  refine r_iload_n (pc := 2) X dX0_leak_2 rfl ?_
  refine r_aload_n (pc := 3) X dX0_leak_3 rfl ?_
  obtain ⟨x1, ex1, hf⟩ := ob hf
  refine r_getI (pc := 4) X dX0_leak_4 fl_X0_29 rfl ex1 ?_
  refine r_icmp_ge (pc := 7) X 69 dX0_leak_7 (by decide) (fun c18 => ?_) (fun c18 => ?_)
  · rw [if_neg c18] at hf
    obtain rfl := Option.some.inj hf
    exact r_vret (pc := 69) X dX0_leak_69 hk
  · rw [if_pos c18] at hf
    refine r_aload_n (pc := 10) X dX0_leak_10 rfl ?_
    refine r_iload_n (pc := 11) X dX0_leak_11 rfl ?_
    obtain ⟨u2, eu2, hf⟩ := ob hf
    obtain ⟨x3, ex3, hf⟩ := ob hf
    refine r_callVI (pc := 12) X [.int s.1] dX0_leak_12 ml_X0_78 vo_X0_leaks ⟨Nat.le_refl _, Nat.le_refl _⟩ eu2 (ev_X0_leaks (d := d - 1) (by omega) _ _ _ _ ex3) hd1 rfl (Nat.le_of_ble_eq_true rfl) rfl ?_
    refine r_if_eq (pc := 15) X 63 dX0_leak_15 (by decide) (fun c17 => ?_) (fun c17 => ?_)
    · rw [if_pos c17] at hf
      obtain ⟨x4, ex4, hf⟩ := ob hf
      refine r_iinc2 (pc := 63) X 1 [some (.ref v0), some (.ref v1), some (.int x4)] dX0_leak_63 (by decide) rfl (by decide) ex4 rfl ?_
      refine r_goto (pc := 66) X 2 dX0_leak_66 (by decide) ?_
      obtain rfl := Option.some.inj hf
      exact hk
    · rw [if_neg c17] at hf
      refine r_aload_n (pc := 18) X dX0_leak_18 rfl ?_
      obtain ⟨a5, ea5, hf⟩ := ob hf
      refine r_getR (pc := 19) X dX0_leak_19 fl_X0_62 rfl ea5 ?_
      refine r_iload_n (pc := 22) X dX0_leak_22 rfl ?_
      obtain ⟨x6, ex6, hf⟩ := ob hf
      refine r_iald (pc := 23) X dX0_leak_23 ex6 ?_
      refine r_if_le (pc := 24) X 63 dX0_leak_24 (by decide) (fun c16 => ?_) (fun c16 => ?_)
      · rw [if_pos c16] at hf
        obtain ⟨x7, ex7, hf⟩ := ob hf
        refine r_iinc2 (pc := 63) X 1 [some (.ref v0), some (.ref v1), some (.int x7)] dX0_leak_63 (by decide) rfl (by decide) ex7 rfl ?_
        refine r_goto (pc := 66) X 2 dX0_leak_66 (by decide) ?_
        obtain rfl := Option.some.inj hf
        exact hk
      · rw [if_neg c16] at hf
        refine r_aload_n (pc := 27) X dX0_leak_27 rfl ?_
        obtain ⟨a8, ea8, hf⟩ := ob hf
        refine r_getR (pc := 28) X dX0_leak_28 fl_X0_62 rfl ea8 ?_
        refine r_iload_n (pc := 31) X dX0_leak_31 rfl ?_
        refine r_dup2 (pc := 32) X dX0_leak_32 rfl rfl ?_
        obtain ⟨x9, ex9, hf⟩ := ob hf
        refine r_iald (pc := 33) X dX0_leak_33 ex9 ?_
        refine r_iconst (pc := 34) X 1 dX0_leak_34 (by decide) ?_
        refine r_isub (pc := 35) X dX0_leak_35 ?_
        obtain ⟨h10, eh10, hf⟩ := ob hf
        refine r_iast (pc := 36) X dX0_leak_36 eh10 ?_
        refine r_aload_n (pc := 37) X dX0_leak_37 rfl ?_
        refine r_sipush (pc := 38) X 9999 dX0_leak_38 (by decide) ?_
        refine r_aload_n (pc := 41) X dX0_leak_41 rfl ?_
        obtain ⟨x11, ex11, hf⟩ := ob hf
        refine r_getI (pc := 42) X dX0_leak_42 fl_X0_82 rfl ex11 ?_
        refine r_iconst (pc := 45) X 1 dX0_leak_45 (by decide) ?_
        refine r_iadd (pc := 46) X dX0_leak_46 ?_
        refine r_min (pc := 47) X dX0_leak_47 ml_X0_85 ⟨Nat.le_refl _, Nat.le_refl _⟩ hd1 (Nat.le_of_ble_eq_true rfl) ?_
        obtain ⟨h12, eh12, hf⟩ := ob hf
        refine r_putI (pc := 50) X dX0_leak_50 fp_X0_82 rfl eh12 ?_
        refine r_aload_n (pc := 53) X dX0_leak_53 rfl ?_
        refine r_dup (pc := 54) X dX0_leak_54 rfl ?_
        obtain ⟨x13, ex13, hf⟩ := ob hf
        refine r_getI (pc := 55) X dX0_leak_55 fl_X0_42 rfl ex13 ?_
        refine r_iconst (pc := 58) X 1 dX0_leak_58 (by decide) ?_
        refine r_iadd (pc := 59) X dX0_leak_59 ?_
        obtain ⟨h14, eh14, hf⟩ := ob hf
        refine r_putI (pc := 60) X dX0_leak_60 fp_X0_42 rfl eh14 ?_
        obtain ⟨x15, ex15, hf⟩ := ob hf
        refine r_iinc2 (pc := 63) X 1 [some (.ref v0), some (.ref v1), some (.int x15)] dX0_leak_63 (by decide) rfl (by decide) ex15 rfl ?_
        refine r_goto (pc := 66) X 2 dX0_leak_66 (by decide) ?_
        obtain rfl := Option.some.inj hf
        exact hk
def fn_X0_leak (h : aH) (p0 : Nat) (p1 : Nat) : Option (aH) :=
  (lp (lb_X0_leak_2 p0 p1) lpN (0, h)).bind fun o19 =>
  some o19
set_option maxRecDepth 20000 in
set_option maxHeartbeats 4000000 in
theorem ev_X0_leak {l : Launch} {g : aG} {d : Nat} (hd : 1 ≤ d) (h : aH) (p0 : Nat) (p1 : Nat) (o : aH) (hf : fn_X0_leak h p0 p1 = some o) : EvM l g d yX0_leak cX0_leak 3 none [.ref p0, .ref p1] h (none, o) := by
  refine EvM.of mk_X0_leak (Nat.le_of_ble_eq_true rfl) ?_
  intro Γ hl hg hq X
  have hd1 : 1 ≤ d := by omega
  have hk : RqV Γ o := hq
  unfold fn_X0_leak at hf
  show Jd Γ (0, 0) 0 [some (.ref p0), some (.ref p1), none] [] h
  refine r_iconst (pc := 0) X 0 dX0_leak_0 (by decide) ?_
  refine r_istore_n (pc := 1) X [some (.ref p0), some (.ref p1), some (.int 0)] dX0_leak_1 (by decide) rfl ?_
  obtain ⟨o19, eo19, hf⟩ := ob hf
  refine (lw_X0_leak_2 X hd _ _ lpN _ o19 eo19 ?_)
  obtain rfl := Option.some.inj hf
  exact hk

theorem dX0_pass_0 : decode cX0_pass 0 = .ok (.iconst 0, 1) := by decide +kernel
theorem dX0_pass_1 : decode cX0_pass 1 = .ok (.istore_n 3, 1) := by decide +kernel
theorem dX0_pass_2 : decode cX0_pass 2 = .ok (.iload_n 3, 1) := by decide +kernel
theorem dX0_pass_3 : decode cX0_pass 3 = .ok (.aload_n 0, 1) := by decide +kernel
theorem dX0_pass_4 : decode cX0_pass 4 = .ok (.getfield 33, 3) := by decide +kernel
theorem dX0_pass_7 : decode cX0_pass 7 = .ok (.if_icmp .ge 92, 3) := by decide +kernel
theorem dX0_pass_10 : decode cX0_pass 10 = .ok (.aload_n 1, 1) := by decide +kernel
theorem dX0_pass_11 : decode cX0_pass 11 = .ok (.getfield 49, 3) := by decide +kernel
theorem dX0_pass_14 : decode cX0_pass 14 = .ok (.iload_n 3, 1) := by decide +kernel
theorem dX0_pass_15 : decode cX0_pass 15 = .ok (.ishr, 1) := by decide +kernel
theorem dX0_pass_16 : decode cX0_pass 16 = .ok (.iconst 1, 1) := by decide +kernel
theorem dX0_pass_17 : decode cX0_pass 17 = .ok (.iand, 1) := by decide +kernel
theorem dX0_pass_18 : decode cX0_pass 18 = .ok (.ifCond .ne 75, 3) := by decide +kernel
theorem dX0_pass_21 : decode cX0_pass 21 = .ok (.aload_n 0, 1) := by decide +kernel
theorem dX0_pass_22 : decode cX0_pass 22 = .ok (.aload_n 1, 1) := by decide +kernel
theorem dX0_pass_23 : decode cX0_pass 23 = .ok (.iload_n 3, 1) := by decide +kernel
theorem dX0_pass_24 : decode cX0_pass 24 = .ok (.invokevirtual 54, 3) := by decide +kernel
theorem dX0_pass_27 : decode cX0_pass 27 = .ok (.ifCond .eq 66, 3) := by decide +kernel
theorem dX0_pass_30 : decode cX0_pass 30 = .ok (.aload_n 0, 1) := by decide +kernel
theorem dX0_pass_31 : decode cX0_pass 31 = .ok (.aload_n 1, 1) := by decide +kernel
theorem dX0_pass_32 : decode cX0_pass 32 = .ok (.aload_n 2, 1) := by decide +kernel
theorem dX0_pass_33 : decode cX0_pass 33 = .ok (.iload_n 3, 1) := by decide +kernel
theorem dX0_pass_34 : decode cX0_pass 34 = .ok (.invokevirtual 58, 3) := by decide +kernel
theorem dX0_pass_37 : decode cX0_pass 37 = .ok (.istore 4, 2) := by decide +kernel
theorem dX0_pass_39 : decode cX0_pass 39 = .ok (.aload_n 1, 1) := by decide +kernel
theorem dX0_pass_40 : decode cX0_pass 40 = .ok (.getfield 62, 3) := by decide +kernel
theorem dX0_pass_43 : decode cX0_pass 43 = .ok (.aload_n 0, 1) := by decide +kernel
theorem dX0_pass_44 : decode cX0_pass 44 = .ok (.getfield 9, 3) := by decide +kernel
theorem dX0_pass_47 : decode cX0_pass 47 = .ok (.iload_n 3, 1) := by decide +kernel
theorem dX0_pass_48 : decode cX0_pass 48 = .ok (.iaload, 1) := by decide +kernel
theorem dX0_pass_49 : decode cX0_pass 49 = .ok (.dup2, 1) := by decide +kernel
theorem dX0_pass_50 : decode cX0_pass 50 = .ok (.iaload, 1) := by decide +kernel
theorem dX0_pass_51 : decode cX0_pass 51 = .ok (.iload 4, 2) := by decide +kernel
theorem dX0_pass_53 : decode cX0_pass 53 = .ok (.isub, 1) := by decide +kernel
theorem dX0_pass_54 : decode cX0_pass 54 = .ok (.iastore, 1) := by decide +kernel
theorem dX0_pass_55 : decode cX0_pass 55 = .ok (.aload_n 1, 1) := by decide +kernel
theorem dX0_pass_56 : decode cX0_pass 56 = .ok (.getfield 62, 3) := by decide +kernel
theorem dX0_pass_59 : decode cX0_pass 59 = .ok (.aload_n 0, 1) := by decide +kernel
theorem dX0_pass_60 : decode cX0_pass 60 = .ok (.getfield 15, 3) := by decide +kernel
theorem dX0_pass_63 : decode cX0_pass 63 = .ok (.iload_n 3, 1) := by decide +kernel
theorem dX0_pass_64 : decode cX0_pass 64 = .ok (.iaload, 1) := by decide +kernel
theorem dX0_pass_65 : decode cX0_pass 65 = .ok (.dup2, 1) := by decide +kernel
theorem dX0_pass_66 : decode cX0_pass 66 = .ok (.iaload, 1) := by decide +kernel
theorem dX0_pass_67 : decode cX0_pass 67 = .ok (.iload 4, 2) := by decide +kernel
theorem dX0_pass_69 : decode cX0_pass 69 = .ok (.iadd, 1) := by decide +kernel
theorem dX0_pass_70 : decode cX0_pass 70 = .ok (.iastore, 1) := by decide +kernel
theorem dX0_pass_71 : decode cX0_pass 71 = .ok (.aload_n 0, 1) := by decide +kernel
theorem dX0_pass_72 : decode cX0_pass 72 = .ok (.getfield 21, 3) := by decide +kernel
theorem dX0_pass_75 : decode cX0_pass 75 = .ok (.iload_n 3, 1) := by decide +kernel
theorem dX0_pass_76 : decode cX0_pass 76 = .ok (.dup2, 1) := by decide +kernel
theorem dX0_pass_77 : decode cX0_pass 77 = .ok (.iaload, 1) := by decide +kernel
theorem dX0_pass_78 : decode cX0_pass 78 = .ok (.iload 4, 2) := by decide +kernel
theorem dX0_pass_80 : decode cX0_pass 80 = .ok (.iadd, 1) := by decide +kernel
theorem dX0_pass_81 : decode cX0_pass 81 = .ok (.iastore, 1) := by decide +kernel
theorem dX0_pass_82 : decode cX0_pass 82 = .ok (.aload_n 0, 1) := by decide +kernel
theorem dX0_pass_83 : decode cX0_pass 83 = .ok (.dup, 1) := by decide +kernel
theorem dX0_pass_84 : decode cX0_pass 84 = .ok (.getfield 39, 3) := by decide +kernel
theorem dX0_pass_87 : decode cX0_pass 87 = .ok (.iload 4, 2) := by decide +kernel
theorem dX0_pass_89 : decode cX0_pass 89 = .ok (.iadd, 1) := by decide +kernel
theorem dX0_pass_90 : decode cX0_pass 90 = .ok (.putfield 39, 3) := by decide +kernel
theorem dX0_pass_93 : decode cX0_pass 93 = .ok (.iinc 3 1, 3) := by decide +kernel
theorem dX0_pass_96 : decode cX0_pass 96 = .ok (.goto (-94), 3) := by decide +kernel
theorem dX0_pass_99 : decode cX0_pass 99 = .ok (.aload_n 0, 1) := by decide +kernel
theorem dX0_pass_100 : decode cX0_pass 100 = .ok (.aload_n 1, 1) := by decide +kernel
theorem dX0_pass_101 : decode cX0_pass 101 = .ok (.invokevirtual 65, 3) := by decide +kernel
theorem dX0_pass_104 : decode cX0_pass 104 = .ok (.aload_n 1, 1) := by decide +kernel
theorem dX0_pass_105 : decode cX0_pass 105 = .ok (.dup, 1) := by decide +kernel
theorem dX0_pass_106 : decode cX0_pass 106 = .ok (.getfield 69, 3) := by decide +kernel
theorem dX0_pass_109 : decode cX0_pass 109 = .ok (.iconst 1, 1) := by decide +kernel
theorem dX0_pass_110 : decode cX0_pass 110 = .ok (.iadd, 1) := by decide +kernel
theorem dX0_pass_111 : decode cX0_pass 111 = .ok (.putfield 69, 3) := by decide +kernel
theorem dX0_pass_114 : decode cX0_pass 114 = .ok (.return_, 1) := by decide +kernel
def lb_X0_pass_2 (v0 : Nat) (v1 : Nat) (v2 : Nat) (s : Int32 × aH) : Option ((Int32 × aH) ⊕ ((aH))) :=
  (gI s.2 v0 0 1).bind fun x1 =>
  if s.1 < x1 then
    (gI s.2 v1 6 3).bind fun x2 =>
    if ((x2 >>> (s.1 &&& 31)) &&& 1) = 0 then
      (ck s.2 v0 0).bind fun u4 =>
      (fn_X0_opens s.2 v0 v1 s.1).bind fun o5 =>
      if o5.1 = 0 then
        (some (s.1 + 1)).bind fun x6 =>
        some (.inl (x6, o5.2))
      else
        (ck o5.2 v0 0).bind fun u7 =>
        (fn_X0_flow o5.2 v0 v1 v2 s.1).bind fun o8 =>
        (gR o8.2 v1 6 0).bind fun a9 =>
        (gR o8.2 v0 0 3).bind fun a10 =>
        (aI o8.2 a10 14 s.1).bind fun x11 =>
        (aI o8.2 a9 14 x11).bind fun x12 =>
        (wI o8.2 a9 x11 (x12 - o8.1)).bind fun h13 =>
        (gR h13 v1 6 0).bind fun a14 =>
        (gR h13 v0 0 4).bind fun a15 =>
        (aI h13 a15 14 s.1).bind fun x16 =>
        (aI h13 a14 14 x16).bind fun x17 =>
        (wI h13 a14 x16 (x17 + o8.1)).bind fun h18 =>
        (gR h18 v0 0 7).bind fun a19 =>
        (aI h18 a19 14 s.1).bind fun x20 =>
        (wI h18 a19 s.1 (x20 + o8.1)).bind fun h21 =>
        (gI h21 v0 0 8).bind fun x22 =>
        (pI h21 v0 0 8 (x22 + o8.1)).bind fun h23 =>
        (some (s.1 + 1)).bind fun x24 =>
        some (.inl (x24, h23))
    else
      (some (s.1 + 1)).bind fun x3 =>
      some (.inl (x3, s.2))
  else
    some (.inr s.2)
def hd_X0_pass_2 (Γ : aC) (v0 : Nat) (v1 : Nat) (v2 : Nat) (s : Int32 × aH) : Prop := ∀ (j4 : Option Value), Jd Γ (0, 0) 2 [some (.ref v0), some (.ref v1), some (.ref v2), some (.int s.1), j4] [] s.2
def ex_X0_pass_2 (Γ : aC) (v0 : Nat) (v1 : Nat) (v2 : Nat) (r : (aH)) : Prop := (fun r => ∀ (j3 : Option Value) (j4 : Option Value), Jd Γ (0, 0) 99 [some (.ref v0), some (.ref v1), some (.ref v2), j3, j4] [] r) r
set_option maxRecDepth 20000 in
set_option maxHeartbeats 4000000 in
theorem lw_X0_pass_2 {Γ : aC} {d : Nat} (X : Cx Γ RX0 cX0_pass 5 none (d, 0, 0)) (hd : 3 ≤ d) (v0 : Nat) (v1 : Nat) (v2 : Nat) : ∀ n s o, lp (lb_X0_pass_2 v0 v1 v2) n s = some o → ex_X0_pass_2 Γ v0 v1 v2 o → hd_X0_pass_2 Γ v0 v1 v2 s := by
  have hd1 : 1 ≤ d := by omega
  refine J_lp _ _ _ ?_
  intro s o hf hk j4
  unfold lb_X0_pass_2 at hf
  refine r_iload_n (pc := 2) X dX0_pass_2 rfl ?_
  refine r_aload_n (pc := 3) X dX0_pass_3 rfl ?_
  obtain ⟨x1, ex1, hf⟩ := ob hf
  refine r_getI (pc := 4) X dX0_pass_4 fl_X0_33 rfl ex1 ?_
  refine r_icmp_ge (pc := 7) X 99 dX0_pass_7 (by decide) (fun c27 => ?_) (fun c27 => ?_)
  · rw [if_neg c27] at hf
    obtain rfl := Option.some.inj hf
    exact hk _ _
  · rw [if_pos c27] at hf
    refine r_aload_n (pc := 10) X dX0_pass_10 rfl ?_
    obtain ⟨x2, ex2, hf⟩ := ob hf
    refine r_getI (pc := 11) X dX0_pass_11 fl_X0_49 rfl ex2 ?_
    refine r_iload_n (pc := 14) X dX0_pass_14 rfl ?_
    refine r_ishr (pc := 15) X dX0_pass_15 ?_
    refine r_iconst (pc := 16) X 1 dX0_pass_16 (by decide) ?_
    refine r_iand (pc := 17) X dX0_pass_17 ?_
    refine r_if_ne (pc := 18) X 93 dX0_pass_18 (by decide) (fun c26 => ?_) (fun c26 => ?_)
    · rw [if_neg c26] at hf
      obtain ⟨x3, ex3, hf⟩ := ob hf
      refine r_iinc2 (pc := 93) X 1 [some (.ref v0), some (.ref v1), some (.ref v2), some (.int x3), j4] dX0_pass_93 (by decide) rfl (by decide) ex3 rfl ?_
      refine r_goto (pc := 96) X 2 dX0_pass_96 (by decide) ?_
      obtain rfl := Option.some.inj hf
      exact hk _
    · rw [if_pos c26] at hf
      refine r_aload_n (pc := 21) X dX0_pass_21 rfl ?_
      refine r_aload_n (pc := 22) X dX0_pass_22 rfl ?_
      refine r_iload_n (pc := 23) X dX0_pass_23 rfl ?_
      obtain ⟨u4, eu4, hf⟩ := ob hf
      obtain ⟨o5, eo5, hf⟩ := ob hf
      refine r_callVI (pc := 24) X [.ref v1, .int s.1] dX0_pass_24 ml_X0_54 vo_X0_opens ⟨Nat.le_refl _, Nat.le_refl _⟩ eu4 (ev_X0_opens (d := d - 1) (by omega) _ _ _ _ _ eo5) hd1 rfl (Nat.le_of_ble_eq_true rfl) rfl ?_
      refine r_if_eq (pc := 27) X 93 dX0_pass_27 (by decide) (fun c25 => ?_) (fun c25 => ?_)
      · rw [if_pos c25] at hf
        obtain ⟨x6, ex6, hf⟩ := ob hf
        refine r_iinc2 (pc := 93) X 1 [some (.ref v0), some (.ref v1), some (.ref v2), some (.int x6), j4] dX0_pass_93 (by decide) rfl (by decide) ex6 rfl ?_
        refine r_goto (pc := 96) X 2 dX0_pass_96 (by decide) ?_
        obtain rfl := Option.some.inj hf
        exact hk _
      · rw [if_neg c25] at hf
        refine r_aload_n (pc := 30) X dX0_pass_30 rfl ?_
        refine r_aload_n (pc := 31) X dX0_pass_31 rfl ?_
        refine r_aload_n (pc := 32) X dX0_pass_32 rfl ?_
        refine r_iload_n (pc := 33) X dX0_pass_33 rfl ?_
        obtain ⟨u7, eu7, hf⟩ := ob hf
        obtain ⟨o8, eo8, hf⟩ := ob hf
        refine r_callVI (pc := 34) X [.ref v1, .ref v2, .int s.1] dX0_pass_34 ml_X0_58 vo_X0_flow ⟨Nat.le_refl _, Nat.le_refl _⟩ eu7 (ev_X0_flow (d := d - 1) (by omega) _ _ _ _ _ _ eo8) hd1 rfl (Nat.le_of_ble_eq_true rfl) rfl ?_
        refine r_istore (pc := 37) X [some (.ref v0), some (.ref v1), some (.ref v2), some (.int s.1), some (.int o8.1)] dX0_pass_37 (by decide) rfl ?_
        refine r_aload_n (pc := 39) X dX0_pass_39 rfl ?_
        obtain ⟨a9, ea9, hf⟩ := ob hf
        refine r_getR (pc := 40) X dX0_pass_40 fl_X0_62 rfl ea9 ?_
        refine r_aload_n (pc := 43) X dX0_pass_43 rfl ?_
        obtain ⟨a10, ea10, hf⟩ := ob hf
        refine r_getR (pc := 44) X dX0_pass_44 fl_X0_9 rfl ea10 ?_
        refine r_iload_n (pc := 47) X dX0_pass_47 rfl ?_
        obtain ⟨x11, ex11, hf⟩ := ob hf
        refine r_iald (pc := 48) X dX0_pass_48 ex11 ?_
        refine r_dup2 (pc := 49) X dX0_pass_49 rfl rfl ?_
        obtain ⟨x12, ex12, hf⟩ := ob hf
        refine r_iald (pc := 50) X dX0_pass_50 ex12 ?_
        refine r_iload (pc := 51) X dX0_pass_51 rfl ?_
        refine r_isub (pc := 53) X dX0_pass_53 ?_
        obtain ⟨h13, eh13, hf⟩ := ob hf
        refine r_iast (pc := 54) X dX0_pass_54 eh13 ?_
        refine r_aload_n (pc := 55) X dX0_pass_55 rfl ?_
        obtain ⟨a14, ea14, hf⟩ := ob hf
        refine r_getR (pc := 56) X dX0_pass_56 fl_X0_62 rfl ea14 ?_
        refine r_aload_n (pc := 59) X dX0_pass_59 rfl ?_
        obtain ⟨a15, ea15, hf⟩ := ob hf
        refine r_getR (pc := 60) X dX0_pass_60 fl_X0_15 rfl ea15 ?_
        refine r_iload_n (pc := 63) X dX0_pass_63 rfl ?_
        obtain ⟨x16, ex16, hf⟩ := ob hf
        refine r_iald (pc := 64) X dX0_pass_64 ex16 ?_
        refine r_dup2 (pc := 65) X dX0_pass_65 rfl rfl ?_
        obtain ⟨x17, ex17, hf⟩ := ob hf
        refine r_iald (pc := 66) X dX0_pass_66 ex17 ?_
        refine r_iload (pc := 67) X dX0_pass_67 rfl ?_
        refine r_iadd (pc := 69) X dX0_pass_69 ?_
        obtain ⟨h18, eh18, hf⟩ := ob hf
        refine r_iast (pc := 70) X dX0_pass_70 eh18 ?_
        refine r_aload_n (pc := 71) X dX0_pass_71 rfl ?_
        obtain ⟨a19, ea19, hf⟩ := ob hf
        refine r_getR (pc := 72) X dX0_pass_72 fl_X0_21 rfl ea19 ?_
        refine r_iload_n (pc := 75) X dX0_pass_75 rfl ?_
        refine r_dup2 (pc := 76) X dX0_pass_76 rfl rfl ?_
        obtain ⟨x20, ex20, hf⟩ := ob hf
        refine r_iald (pc := 77) X dX0_pass_77 ex20 ?_
        refine r_iload (pc := 78) X dX0_pass_78 rfl ?_
        refine r_iadd (pc := 80) X dX0_pass_80 ?_
        obtain ⟨h21, eh21, hf⟩ := ob hf
        refine r_iast (pc := 81) X dX0_pass_81 eh21 ?_
        refine r_aload_n (pc := 82) X dX0_pass_82 rfl ?_
        refine r_dup (pc := 83) X dX0_pass_83 rfl ?_
        obtain ⟨x22, ex22, hf⟩ := ob hf
        refine r_getI (pc := 84) X dX0_pass_84 fl_X0_39 rfl ex22 ?_
        refine r_iload (pc := 87) X dX0_pass_87 rfl ?_
        refine r_iadd (pc := 89) X dX0_pass_89 ?_
        obtain ⟨h23, eh23, hf⟩ := ob hf
        refine r_putI (pc := 90) X dX0_pass_90 fp_X0_39 rfl eh23 ?_
        obtain ⟨x24, ex24, hf⟩ := ob hf
        refine r_iinc2 (pc := 93) X 1 [some (.ref v0), some (.ref v1), some (.ref v2), some (.int x24), some (.int o8.1)] dX0_pass_93 (by decide) rfl (by decide) ex24 rfl ?_
        refine r_goto (pc := 96) X 2 dX0_pass_96 (by decide) ?_
        obtain rfl := Option.some.inj hf
        exact hk _
def fn_X0_pass (h : aH) (p0 : Nat) (p1 : Nat) (p2 : Nat) : Option (aH) :=
  (lp (lb_X0_pass_2 p0 p1 p2) lpN (0, h)).bind fun o28 =>
  (ck o28 p0 0).bind fun u31 =>
  (fn_X0_leak o28 p0 p1).bind fun h32 =>
  (gI h32 p1 6 4).bind fun x33 =>
  (pI h32 p1 6 4 (x33 + 1)).bind fun h34 =>
  some h34
set_option maxRecDepth 20000 in
set_option maxHeartbeats 4000000 in
theorem ev_X0_pass {l : Launch} {g : aG} {d : Nat} (hd : 3 ≤ d) (h : aH) (p0 : Nat) (p1 : Nat) (p2 : Nat) (o : aH) (hf : fn_X0_pass h p0 p1 p2 = some o) : EvM l g d yX0_pass cX0_pass 5 none [.ref p0, .ref p1, .ref p2] h (none, o) := by
  refine EvM.of mk_X0_pass (Nat.le_of_ble_eq_true rfl) ?_
  intro Γ hl hg hq X
  have hd1 : 1 ≤ d := by omega
  have hk : RqV Γ o := hq
  unfold fn_X0_pass at hf
  show Jd Γ (0, 0) 0 [some (.ref p0), some (.ref p1), some (.ref p2), none, none] [] h
  refine r_iconst (pc := 0) X 0 dX0_pass_0 (by decide) ?_
  refine r_istore_n (pc := 1) X [some (.ref p0), some (.ref p1), some (.ref p2), some (.int 0), none] dX0_pass_1 (by decide) rfl ?_
  obtain ⟨o28, eo28, hf⟩ := ob hf
  refine (lw_X0_pass_2 X hd _ _ _ lpN _ o28 eo28 ?_) _
  intro j29 j30
  refine r_aload_n (pc := 99) X dX0_pass_99 rfl ?_
  refine r_aload_n (pc := 100) X dX0_pass_100 rfl ?_
  obtain ⟨u31, eu31, hf⟩ := ob hf
  obtain ⟨h32, eh32, hf⟩ := ob hf
  refine r_callVV (pc := 101) X [.ref p1] dX0_pass_101 ml_X0_65 vo_X0_leak ⟨Nat.le_refl _, Nat.le_refl _⟩ eu31 (ev_X0_leak (d := d - 1) (by omega) _ _ _ _ eh32) hd1 rfl (Nat.le_of_ble_eq_true rfl) rfl ?_
  refine r_aload_n (pc := 104) X dX0_pass_104 rfl ?_
  refine r_dup (pc := 105) X dX0_pass_105 rfl ?_
  obtain ⟨x33, ex33, hf⟩ := ob hf
  refine r_getI (pc := 106) X dX0_pass_106 fl_X0_69 rfl ex33 ?_
  refine r_iconst (pc := 109) X 1 dX0_pass_109 (by decide) ?_
  refine r_iadd (pc := 110) X dX0_pass_110 ?_
  obtain ⟨h34, eh34, hf⟩ := ob hf
  refine r_putI (pc := 111) X dX0_pass_111 fp_X0_69 rfl eh34 ?_
  obtain rfl := Option.some.inj hf
  exact r_vret (pc := 114) X dX0_pass_114 hk

theorem dX0_run_0 : decode cX0_run 0 = .ok (.iconst 0, 1) := by decide +kernel
theorem dX0_run_1 : decode cX0_run 1 = .ok (.istore 4, 2) := by decide +kernel
theorem dX0_run_3 : decode cX0_run 3 = .ok (.iload 4, 2) := by decide +kernel
theorem dX0_run_5 : decode cX0_run 5 = .ok (.iload_n 3, 1) := by decide +kernel
theorem dX0_run_6 : decode cX0_run 6 = .ok (.if_icmp .ge 15, 3) := by decide +kernel
theorem dX0_run_9 : decode cX0_run 9 = .ok (.aload_n 0, 1) := by decide +kernel
theorem dX0_run_10 : decode cX0_run 10 = .ok (.aload_n 1, 1) := by decide +kernel
theorem dX0_run_11 : decode cX0_run 11 = .ok (.aload_n 2, 1) := by decide +kernel
theorem dX0_run_12 : decode cX0_run 12 = .ok (.invokevirtual 45, 3) := by decide +kernel
theorem dX0_run_15 : decode cX0_run 15 = .ok (.iinc 4 1, 3) := by decide +kernel
theorem dX0_run_18 : decode cX0_run 18 = .ok (.goto (-15), 3) := by decide +kernel
theorem dX0_run_21 : decode cX0_run 21 = .ok (.return_, 1) := by decide +kernel
def lb_X0_run_3 (v0 : Nat) (v1 : Nat) (v2 : Nat) (v3 : Int32) (s : Int32 × aH) : Option ((Int32 × aH) ⊕ ((aH))) :=
  if s.1 < v3 then
    (ck s.2 v0 0).bind fun u1 =>
    (fn_X0_pass s.2 v0 v1 v2).bind fun h2 =>
    (some (s.1 + 1)).bind fun x3 =>
    some (.inl (x3, h2))
  else
    some (.inr s.2)
def hd_X0_run_3 (Γ : aC) (v0 : Nat) (v1 : Nat) (v2 : Nat) (v3 : Int32) (s : Int32 × aH) : Prop := Jd Γ (0, 0) 3 [some (.ref v0), some (.ref v1), some (.ref v2), some (.int v3), some (.int s.1)] [] s.2
def ex_X0_run_3 (Γ : aC) (v0 : Nat) (v1 : Nat) (v2 : Nat) (v3 : Int32) (r : (aH)) : Prop := (fun r => RqV Γ r) r
set_option maxRecDepth 20000 in
set_option maxHeartbeats 4000000 in
theorem lw_X0_run_3 {Γ : aC} {d : Nat} (X : Cx Γ RX0 cX0_run 5 none (d, 0, 0)) (hd : 4 ≤ d) (v0 : Nat) (v1 : Nat) (v2 : Nat) (v3 : Int32) : ∀ n s o, lp (lb_X0_run_3 v0 v1 v2 v3) n s = some o → ex_X0_run_3 Γ v0 v1 v2 v3 o → hd_X0_run_3 Γ v0 v1 v2 v3 s := by
  have hd1 : 1 ≤ d := by omega
  refine J_lp _ _ _ ?_
  intro s o hf hk
  unfold lb_X0_run_3 at hf
  refine r_iload (pc := 3) X dX0_run_3 rfl ?_
  refine r_iload_n (pc := 5) X dX0_run_5 rfl ?_
  refine r_icmp_ge (pc := 6) X 21 dX0_run_6 (by decide) (fun c4 => ?_) (fun c4 => ?_)
  · rw [if_neg c4] at hf
    obtain rfl := Option.some.inj hf
    exact r_vret (pc := 21) X dX0_run_21 hk
  · rw [if_pos c4] at hf
    refine r_aload_n (pc := 9) X dX0_run_9 rfl ?_
    refine r_aload_n (pc := 10) X dX0_run_10 rfl ?_
    refine r_aload_n (pc := 11) X dX0_run_11 rfl ?_
    obtain ⟨u1, eu1, hf⟩ := ob hf
    obtain ⟨h2, eh2, hf⟩ := ob hf
    refine r_callVV (pc := 12) X [.ref v1, .ref v2] dX0_run_12 ml_X0_45 vo_X0_pass ⟨Nat.le_refl _, Nat.le_refl _⟩ eu1 (ev_X0_pass (d := d - 1) (by omega) _ _ _ _ _ eh2) hd1 rfl (Nat.le_of_ble_eq_true rfl) rfl ?_
    obtain ⟨x3, ex3, hf⟩ := ob hf
    refine r_iinc2 (pc := 15) X 1 [some (.ref v0), some (.ref v1), some (.ref v2), some (.int v3), some (.int x3)] dX0_run_15 (by decide) rfl (by decide) ex3 rfl ?_
    refine r_goto (pc := 18) X 3 dX0_run_18 (by decide) ?_
    obtain rfl := Option.some.inj hf
    exact hk
def fn_X0_run (h : aH) (p0 : Nat) (p1 : Nat) (p2 : Nat) (p3 : Int32) : Option (aH) :=
  (lp (lb_X0_run_3 p0 p1 p2 p3) lpN (0, h)).bind fun o5 =>
  some o5
set_option maxRecDepth 20000 in
set_option maxHeartbeats 4000000 in
theorem ev_X0_run {l : Launch} {g : aG} {d : Nat} (hd : 4 ≤ d) (h : aH) (p0 : Nat) (p1 : Nat) (p2 : Nat) (p3 : Int32) (o : aH) (hf : fn_X0_run h p0 p1 p2 p3 = some o) : EvM l g d yX0_run cX0_run 5 none [.ref p0, .ref p1, .ref p2, .int p3] h (none, o) := by
  refine EvM.of mk_X0_run (Nat.le_of_ble_eq_true rfl) ?_
  intro Γ hl hg hq X
  have hd1 : 1 ≤ d := by omega
  have hk : RqV Γ o := hq
  unfold fn_X0_run at hf
  show Jd Γ (0, 0) 0 [some (.ref p0), some (.ref p1), some (.ref p2), some (.int p3), none] [] h
  refine r_iconst (pc := 0) X 0 dX0_run_0 (by decide) ?_
  refine r_istore (pc := 1) X [some (.ref p0), some (.ref p1), some (.ref p2), some (.int p3), some (.int 0)] dX0_run_1 (by decide) rfl ?_
  obtain ⟨o5, eo5, hf⟩ := ob hf
  refine (lw_X0_run_3 X hd _ _ _ _ lpN _ o5 eo5 ?_)
  obtain rfl := Option.some.inj hf
  exact hk

theorem dX0_fill_0 : decode cX0_fill 0 = .ok (.aload_n 1, 1) := by decide +kernel
theorem dX0_fill_1 : decode cX0_fill 1 = .ok (.getfield 62, 3) := by decide +kernel
theorem dX0_fill_4 : decode cX0_fill 4 = .ok (.iload_n 2, 1) := by decide +kernel
theorem dX0_fill_5 : decode cX0_fill 5 = .ok (.iaload, 1) := by decide +kernel
theorem dX0_fill_6 : decode cX0_fill 6 = .ok (.iload_n 3, 1) := by decide +kernel
theorem dX0_fill_7 : decode cX0_fill 7 = .ok (.iadd, 1) := by decide +kernel
theorem dX0_fill_8 : decode cX0_fill 8 = .ok (.bipush 9, 2) := by decide +kernel
theorem dX0_fill_10 : decode cX0_fill 10 = .ok (.if_icmp .le 5, 3) := by decide +kernel
theorem dX0_fill_13 : decode cX0_fill 13 = .ok (.iconst 0, 1) := by decide +kernel
theorem dX0_fill_14 : decode cX0_fill 14 = .ok (.ireturn, 1) := by decide +kernel
theorem dX0_fill_15 : decode cX0_fill 15 = .ok (.aload_n 1, 1) := by decide +kernel
theorem dX0_fill_16 : decode cX0_fill 16 = .ok (.getfield 62, 3) := by decide +kernel
theorem dX0_fill_19 : decode cX0_fill 19 = .ok (.iload_n 2, 1) := by decide +kernel
theorem dX0_fill_20 : decode cX0_fill 20 = .ok (.dup2, 1) := by decide +kernel
theorem dX0_fill_21 : decode cX0_fill 21 = .ok (.iaload, 1) := by decide +kernel
theorem dX0_fill_22 : decode cX0_fill 22 = .ok (.iload_n 3, 1) := by decide +kernel
theorem dX0_fill_23 : decode cX0_fill 23 = .ok (.iadd, 1) := by decide +kernel
theorem dX0_fill_24 : decode cX0_fill 24 = .ok (.iastore, 1) := by decide +kernel
theorem dX0_fill_25 : decode cX0_fill 25 = .ok (.iconst 1, 1) := by decide +kernel
theorem dX0_fill_26 : decode cX0_fill 26 = .ok (.ireturn, 1) := by decide +kernel
def fn_X0_fill (h : aH) (p0 : Nat) (p1 : Nat) (p2 : Int32) (p3 : Int32) : Option (Int32 × aH) :=
  (gR h p1 6 0).bind fun a1 =>
  (aI h a1 14 p2).bind fun x2 =>
  if (x2 + p3) ≤ 9 then
    (gR h p1 6 0).bind fun a3 =>
    (aI h a3 14 p2).bind fun x4 =>
    (wI h a3 p2 (x4 + p3)).bind fun h5 =>
    some (1, h5)
  else
    some (0, h)
set_option maxRecDepth 20000 in
set_option maxHeartbeats 4000000 in
theorem ev_X0_fill {l : Launch} {g : aG} {d : Nat} (hd : 0 ≤ d) (h : aH) (p0 : Nat) (p1 : Nat) (p2 : Int32) (p3 : Int32) (o : Int32 × aH) (hf : fn_X0_fill h p0 p1 p2 p3 = some o) : EvM l g d yX0_fill cX0_fill 4 (some .boolean) [.ref p0, .ref p1, .int p2, .int p3] h (some (.int o.1), o.2) := by
  refine EvM.of mk_X0_fill (Nat.le_of_ble_eq_true rfl) ?_
  intro Γ hl hg hq X
  have hd1 : 0 ≤ d := by omega
  have hk : RqI Γ o := hq
  unfold fn_X0_fill at hf
  show Jd Γ (0, 0) 0 [some (.ref p0), some (.ref p1), some (.int p2), some (.int p3)] [] h
  refine r_aload_n (pc := 0) X dX0_fill_0 rfl ?_
  obtain ⟨a1, ea1, hf⟩ := ob hf
  refine r_getR (pc := 1) X dX0_fill_1 fl_X0_62 rfl ea1 ?_
  refine r_iload_n (pc := 4) X dX0_fill_4 rfl ?_
  obtain ⟨x2, ex2, hf⟩ := ob hf
  refine r_iald (pc := 5) X dX0_fill_5 ex2 ?_
  refine r_iload_n (pc := 6) X dX0_fill_6 rfl ?_
  refine r_iadd (pc := 7) X dX0_fill_7 ?_
  refine r_bipush (pc := 8) X 9 dX0_fill_8 (by decide) ?_
  refine r_icmp_le (pc := 10) X 15 dX0_fill_10 (by decide) (fun c6 => ?_) (fun c6 => ?_)
  · rw [if_pos c6] at hf
    refine r_aload_n (pc := 15) X dX0_fill_15 rfl ?_
    obtain ⟨a3, ea3, hf⟩ := ob hf
    refine r_getR (pc := 16) X dX0_fill_16 fl_X0_62 rfl ea3 ?_
    refine r_iload_n (pc := 19) X dX0_fill_19 rfl ?_
    refine r_dup2 (pc := 20) X dX0_fill_20 rfl rfl ?_
    obtain ⟨x4, ex4, hf⟩ := ob hf
    refine r_iald (pc := 21) X dX0_fill_21 ex4 ?_
    refine r_iload_n (pc := 22) X dX0_fill_22 rfl ?_
    refine r_iadd (pc := 23) X dX0_fill_23 ?_
    obtain ⟨h5, eh5, hf⟩ := ob hf
    refine r_iast (pc := 24) X dX0_fill_24 eh5 ?_
    refine r_iconst (pc := 25) X 1 dX0_fill_25 (by decide) ?_
    obtain rfl := Option.some.inj hf
    exact r_zret (pc := 26) X dX0_fill_26 (Or.inr rfl) hk
  · rw [if_neg c6] at hf
    refine r_iconst (pc := 13) X 0 dX0_fill_13 (by decide) ?_
    obtain rfl := Option.some.inj hf
    exact r_zret (pc := 14) X dX0_fill_14 (Or.inl rfl) hk

theorem dX0_carry_0 : decode cX0_carry 0 = .ok (.aload_n 0, 1) := by decide +kernel
theorem dX0_carry_1 : decode cX0_carry 1 = .ok (.getfield 9, 3) := by decide +kernel
theorem dX0_carry_4 : decode cX0_carry 4 = .ok (.iload_n 2, 1) := by decide +kernel
theorem dX0_carry_5 : decode cX0_carry 5 = .ok (.iaload, 1) := by decide +kernel
theorem dX0_carry_6 : decode cX0_carry 6 = .ok (.istore_n 3, 1) := by decide +kernel
theorem dX0_carry_7 : decode cX0_carry 7 = .ok (.aload_n 0, 1) := by decide +kernel
theorem dX0_carry_8 : decode cX0_carry 8 = .ok (.getfield 15, 3) := by decide +kernel
theorem dX0_carry_11 : decode cX0_carry 11 = .ok (.iload_n 2, 1) := by decide +kernel
theorem dX0_carry_12 : decode cX0_carry 12 = .ok (.iaload, 1) := by decide +kernel
theorem dX0_carry_13 : decode cX0_carry 13 = .ok (.istore 4, 2) := by decide +kernel
theorem dX0_carry_15 : decode cX0_carry 15 = .ok (.aload_n 1, 1) := by decide +kernel
theorem dX0_carry_16 : decode cX0_carry 16 = .ok (.getfield 62, 3) := by decide +kernel
theorem dX0_carry_19 : decode cX0_carry 19 = .ok (.iload_n 3, 1) := by decide +kernel
theorem dX0_carry_20 : decode cX0_carry 20 = .ok (.iaload, 1) := by decide +kernel
theorem dX0_carry_21 : decode cX0_carry 21 = .ok (.ifCond .eq 15, 3) := by decide +kernel
theorem dX0_carry_24 : decode cX0_carry 24 = .ok (.aload_n 1, 1) := by decide +kernel
theorem dX0_carry_25 : decode cX0_carry 25 = .ok (.getfield 62, 3) := by decide +kernel
theorem dX0_carry_28 : decode cX0_carry 28 = .ok (.iload 4, 2) := by decide +kernel
theorem dX0_carry_30 : decode cX0_carry 30 = .ok (.iaload, 1) := by decide +kernel
theorem dX0_carry_31 : decode cX0_carry 31 = .ok (.bipush 9, 2) := by decide +kernel
theorem dX0_carry_33 : decode cX0_carry 33 = .ok (.if_icmp .ne 5, 3) := by decide +kernel
theorem dX0_carry_36 : decode cX0_carry 36 = .ok (.iconst 0, 1) := by decide +kernel
theorem dX0_carry_37 : decode cX0_carry 37 = .ok (.ireturn, 1) := by decide +kernel
theorem dX0_carry_38 : decode cX0_carry 38 = .ok (.aload_n 1, 1) := by decide +kernel
theorem dX0_carry_39 : decode cX0_carry 39 = .ok (.getfield 62, 3) := by decide +kernel
theorem dX0_carry_42 : decode cX0_carry 42 = .ok (.iload_n 3, 1) := by decide +kernel
theorem dX0_carry_43 : decode cX0_carry 43 = .ok (.dup2, 1) := by decide +kernel
theorem dX0_carry_44 : decode cX0_carry 44 = .ok (.iaload, 1) := by decide +kernel
theorem dX0_carry_45 : decode cX0_carry 45 = .ok (.iconst 1, 1) := by decide +kernel
theorem dX0_carry_46 : decode cX0_carry 46 = .ok (.isub, 1) := by decide +kernel
theorem dX0_carry_47 : decode cX0_carry 47 = .ok (.iastore, 1) := by decide +kernel
theorem dX0_carry_48 : decode cX0_carry 48 = .ok (.aload_n 1, 1) := by decide +kernel
theorem dX0_carry_49 : decode cX0_carry 49 = .ok (.getfield 62, 3) := by decide +kernel
theorem dX0_carry_52 : decode cX0_carry 52 = .ok (.iload 4, 2) := by decide +kernel
theorem dX0_carry_54 : decode cX0_carry 54 = .ok (.dup2, 1) := by decide +kernel
theorem dX0_carry_55 : decode cX0_carry 55 = .ok (.iaload, 1) := by decide +kernel
theorem dX0_carry_56 : decode cX0_carry 56 = .ok (.iconst 1, 1) := by decide +kernel
theorem dX0_carry_57 : decode cX0_carry 57 = .ok (.iadd, 1) := by decide +kernel
theorem dX0_carry_58 : decode cX0_carry 58 = .ok (.iastore, 1) := by decide +kernel
theorem dX0_carry_59 : decode cX0_carry 59 = .ok (.iconst 1, 1) := by decide +kernel
theorem dX0_carry_60 : decode cX0_carry 60 = .ok (.ireturn, 1) := by decide +kernel
def fn_X0_carry (h : aH) (p0 : Nat) (p1 : Nat) (p2 : Int32) : Option (Int32 × aH) :=
  (gR h p0 0 3).bind fun a1 =>
  (aI h a1 14 p2).bind fun x2 =>
  (gR h p0 0 4).bind fun a3 =>
  (aI h a3 14 p2).bind fun x4 =>
  (gR h p1 6 0).bind fun a5 =>
  (aI h a5 14 x2).bind fun x6 =>
  if x6 = 0 then
    some (0, h)
  else
    (gR h p1 6 0).bind fun a7 =>
    (aI h a7 14 x4).bind fun x8 =>
    if x8 = 9 then
      some (0, h)
    else
      (gR h p1 6 0).bind fun a9 =>
      (aI h a9 14 x2).bind fun x10 =>
      (wI h a9 x2 (x10 - 1)).bind fun h11 =>
      (gR h11 p1 6 0).bind fun a12 =>
      (aI h11 a12 14 x4).bind fun x13 =>
      (wI h11 a12 x4 (x13 + 1)).bind fun h14 =>
      some (1, h14)
set_option maxRecDepth 20000 in
set_option maxHeartbeats 4000000 in
theorem ev_X0_carry {l : Launch} {g : aG} {d : Nat} (hd : 0 ≤ d) (h : aH) (p0 : Nat) (p1 : Nat) (p2 : Int32) (o : Int32 × aH) (hf : fn_X0_carry h p0 p1 p2 = some o) : EvM l g d yX0_carry cX0_carry 5 (some .boolean) [.ref p0, .ref p1, .int p2] h (some (.int o.1), o.2) := by
  refine EvM.of mk_X0_carry (Nat.le_of_ble_eq_true rfl) ?_
  intro Γ hl hg hq X
  have hd1 : 0 ≤ d := by omega
  have hk : RqI Γ o := hq
  unfold fn_X0_carry at hf
  show Jd Γ (0, 0) 0 [some (.ref p0), some (.ref p1), some (.int p2), none, none] [] h
  refine r_aload_n (pc := 0) X dX0_carry_0 rfl ?_
  obtain ⟨a1, ea1, hf⟩ := ob hf
  refine r_getR (pc := 1) X dX0_carry_1 fl_X0_9 rfl ea1 ?_
  refine r_iload_n (pc := 4) X dX0_carry_4 rfl ?_
  obtain ⟨x2, ex2, hf⟩ := ob hf
  refine r_iald (pc := 5) X dX0_carry_5 ex2 ?_
  refine r_istore_n (pc := 6) X [some (.ref p0), some (.ref p1), some (.int p2), some (.int x2), none] dX0_carry_6 (by decide) rfl ?_
  refine r_aload_n (pc := 7) X dX0_carry_7 rfl ?_
  obtain ⟨a3, ea3, hf⟩ := ob hf
  refine r_getR (pc := 8) X dX0_carry_8 fl_X0_15 rfl ea3 ?_
  refine r_iload_n (pc := 11) X dX0_carry_11 rfl ?_
  obtain ⟨x4, ex4, hf⟩ := ob hf
  refine r_iald (pc := 12) X dX0_carry_12 ex4 ?_
  refine r_istore (pc := 13) X [some (.ref p0), some (.ref p1), some (.int p2), some (.int x2), some (.int x4)] dX0_carry_13 (by decide) rfl ?_
  refine r_aload_n (pc := 15) X dX0_carry_15 rfl ?_
  obtain ⟨a5, ea5, hf⟩ := ob hf
  refine r_getR (pc := 16) X dX0_carry_16 fl_X0_62 rfl ea5 ?_
  refine r_iload_n (pc := 19) X dX0_carry_19 rfl ?_
  obtain ⟨x6, ex6, hf⟩ := ob hf
  refine r_iald (pc := 20) X dX0_carry_20 ex6 ?_
  refine r_if_eq (pc := 21) X 36 dX0_carry_21 (by decide) (fun c16 => ?_) (fun c16 => ?_)
  · rw [if_pos c16] at hf
    refine r_iconst (pc := 36) X 0 dX0_carry_36 (by decide) ?_
    obtain rfl := Option.some.inj hf
    exact r_zret (pc := 37) X dX0_carry_37 (Or.inl rfl) hk
  · rw [if_neg c16] at hf
    refine r_aload_n (pc := 24) X dX0_carry_24 rfl ?_
    obtain ⟨a7, ea7, hf⟩ := ob hf
    refine r_getR (pc := 25) X dX0_carry_25 fl_X0_62 rfl ea7 ?_
    refine r_iload (pc := 28) X dX0_carry_28 rfl ?_
    obtain ⟨x8, ex8, hf⟩ := ob hf
    refine r_iald (pc := 30) X dX0_carry_30 ex8 ?_
    refine r_bipush (pc := 31) X 9 dX0_carry_31 (by decide) ?_
    refine r_icmp_ne (pc := 33) X 38 dX0_carry_33 (by decide) (fun c15 => ?_) (fun c15 => ?_)
    · rw [if_neg c15] at hf
      refine r_aload_n (pc := 38) X dX0_carry_38 rfl ?_
      obtain ⟨a9, ea9, hf⟩ := ob hf
      refine r_getR (pc := 39) X dX0_carry_39 fl_X0_62 rfl ea9 ?_
      refine r_iload_n (pc := 42) X dX0_carry_42 rfl ?_
      refine r_dup2 (pc := 43) X dX0_carry_43 rfl rfl ?_
      obtain ⟨x10, ex10, hf⟩ := ob hf
      refine r_iald (pc := 44) X dX0_carry_44 ex10 ?_
      refine r_iconst (pc := 45) X 1 dX0_carry_45 (by decide) ?_
      refine r_isub (pc := 46) X dX0_carry_46 ?_
      obtain ⟨h11, eh11, hf⟩ := ob hf
      refine r_iast (pc := 47) X dX0_carry_47 eh11 ?_
      refine r_aload_n (pc := 48) X dX0_carry_48 rfl ?_
      obtain ⟨a12, ea12, hf⟩ := ob hf
      refine r_getR (pc := 49) X dX0_carry_49 fl_X0_62 rfl ea12 ?_
      refine r_iload (pc := 52) X dX0_carry_52 rfl ?_
      refine r_dup2 (pc := 54) X dX0_carry_54 rfl rfl ?_
      obtain ⟨x13, ex13, hf⟩ := ob hf
      refine r_iald (pc := 55) X dX0_carry_55 ex13 ?_
      refine r_iconst (pc := 56) X 1 dX0_carry_56 (by decide) ?_
      refine r_iadd (pc := 57) X dX0_carry_57 ?_
      obtain ⟨h14, eh14, hf⟩ := ob hf
      refine r_iast (pc := 58) X dX0_carry_58 eh14 ?_
      refine r_iconst (pc := 59) X 1 dX0_carry_59 (by decide) ?_
      obtain rfl := Option.some.inj hf
      exact r_zret (pc := 60) X dX0_carry_60 (Or.inr rfl) hk
    · rw [if_pos c15] at hf
      refine r_iconst (pc := 36) X 0 dX0_carry_36 (by decide) ?_
      obtain rfl := Option.some.inj hf
      exact r_zret (pc := 37) X dX0_carry_37 (Or.inl rfl) hk
