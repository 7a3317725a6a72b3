theorem dX12_thrown_0 : decode cX12_thrown 0 = .ok (.aload_n 0, 1) := by decide +kernel
theorem dX12_thrown_1 : decode cX12_thrown 1 = .ok (.getfield 100, 3) := by decide +kernel
theorem dX12_thrown_4 : decode cX12_thrown 4 = .ok (.ireturn, 1) := by decide +kernel
def fn_X12_thrown (h : aH) (p0 : Nat) : Option (Int32) :=
  (gI h p0 11 11).bind fun x1 =>
  some x1
set_option maxRecDepth 20000 in
set_option maxHeartbeats 4000000 in
theorem ev_X12_thrown {l : Launch} {g : aG} {d : Nat} (hd : 0 ≤ d) (h : aH) (p0 : Nat) (o : Int32) (hf : fn_X12_thrown h p0 = some o) : EvM l g d yX12_thrown cX12_thrown 1 (some .int) [.ref p0] h (some (.int o), h) := by
  refine EvM.of mk_X12_thrown (Nat.le_of_ble_eq_true rfl) ?_
  intro Γ hl hg hq X
  have hd1 : 0 ≤ d := by omega
  have hk : RpI h Γ o := hq
  unfold fn_X12_thrown at hf
  show Jd Γ (0, 0) 0 [some (.ref p0)] [] h
  refine r_aload_n (pc := 0) X dX12_thrown_0 rfl ?_
  obtain ⟨x1, ex1, hf⟩ := ob hf
  refine r_getI (pc := 1) X dX12_thrown_1 fl_X12_100 rfl ex1 ?_
  obtain rfl := Option.some.inj hf
  exact r_iret (pc := 4) X dX12_thrown_4 hk

theorem dX12_in_0 : decode cX12_in 0 = .ok (.iload_n 0, 1) := by decide +kernel
theorem dX12_in_1 : decode cX12_in 1 = .ok (.iload_n 1, 1) := by decide +kernel
theorem dX12_in_2 : decode cX12_in 2 = .ok (.if_icmp .lt 12, 3) := by decide +kernel
theorem dX12_in_5 : decode cX12_in 5 = .ok (.iload_n 0, 1) := by decide +kernel
theorem dX12_in_6 : decode cX12_in 6 = .ok (.iload_n 2, 1) := by decide +kernel
theorem dX12_in_7 : decode cX12_in 7 = .ok (.if_icmp .gt 7, 3) := by decide +kernel
theorem dX12_in_10 : decode cX12_in 10 = .ok (.iconst 1, 1) := by decide +kernel
theorem dX12_in_11 : decode cX12_in 11 = .ok (.goto 4, 3) := by decide +kernel
theorem dX12_in_14 : decode cX12_in 14 = .ok (.iconst 0, 1) := by decide +kernel
theorem dX12_in_15 : decode cX12_in 15 = .ok (.ireturn, 1) := by decide +kernel
def fn_X12_in (h : aH) (p0 : Int32) (p1 : Int32) (p2 : Int32) : Option (Int32) :=
  if p0 < p1 then
    some 0
  else
    if p0 ≤ p2 then
      some 1
    else
      some 0
set_option maxRecDepth 20000 in
set_option maxHeartbeats 4000000 in
theorem ev_X12_in {l : Launch} {g : aG} {d : Nat} (hd : 0 ≤ d) (h : aH) (p0 : Int32) (p1 : Int32) (p2 : Int32) (o : Int32) (hf : fn_X12_in h p0 p1 p2 = some o) : EvM l g d yX12_in cX12_in 3 (some .boolean) [.int p0, .int p1, .int p2] h (some (.int o), h) := by
  refine EvM.of mk_X12_in (Nat.le_of_ble_eq_true rfl) ?_
  intro Γ hl hg hq X
  have hd1 : 0 ≤ d := by omega
  have hk : RpI h Γ o := hq
  unfold fn_X12_in at hf
  show Jd Γ (0, 0) 0 [some (.int p0), some (.int p1), some (.int p2)] [] h
  refine r_iload_n (pc := 0) X dX12_in_0 rfl ?_
  refine r_iload_n (pc := 1) X dX12_in_1 rfl ?_
  refine r_icmp_lt (pc := 2) X 14 dX12_in_2 (by decide) (fun c2 => ?_) (fun c2 => ?_)
  · rw [if_pos c2] at hf
    refine r_iconst (pc := 14) X 0 dX12_in_14 (by decide) ?_
    obtain rfl := Option.some.inj hf
    exact r_zret (pc := 15) X dX12_in_15 (Or.inl rfl) hk
  · rw [if_neg c2] at hf
    refine r_iload_n (pc := 5) X dX12_in_5 rfl ?_
    refine r_iload_n (pc := 6) X dX12_in_6 rfl ?_
    refine r_icmp_gt (pc := 7) X 14 dX12_in_7 (by decide) (fun c1 => ?_) (fun c1 => ?_)
    · rw [if_neg c1] at hf
      refine r_iconst (pc := 14) X 0 dX12_in_14 (by decide) ?_
      obtain rfl := Option.some.inj hf
      exact r_zret (pc := 15) X dX12_in_15 (Or.inl rfl) hk
    · rw [if_pos c1] at hf
      refine r_iconst (pc := 10) X 1 dX12_in_10 (by decide) ?_
      refine r_goto (pc := 11) X 15 dX12_in_11 (by decide) ?_
      obtain rfl := Option.some.inj hf
      exact r_zret (pc := 15) X dX12_in_15 (Or.inr rfl) hk

theorem dX12_has_0 : decode cX12_has 0 = .ok (.iload_n 0, 1) := by decide +kernel
theorem dX12_has_1 : decode cX12_has 1 = .ok (.iload_n 1, 1) := by decide +kernel
theorem dX12_has_2 : decode cX12_has 2 = .ok (.ishr, 1) := by decide +kernel
theorem dX12_has_3 : decode cX12_has 3 = .ok (.iconst 1, 1) := by decide +kernel
theorem dX12_has_4 : decode cX12_has 4 = .ok (.iand, 1) := by decide +kernel
theorem dX12_has_5 : decode cX12_has 5 = .ok (.iconst 1, 1) := by decide +kernel
theorem dX12_has_6 : decode cX12_has 6 = .ok (.if_icmp .ne 7, 3) := by decide +kernel
theorem dX12_has_9 : decode cX12_has 9 = .ok (.iconst 1, 1) := by decide +kernel
theorem dX12_has_10 : decode cX12_has 10 = .ok (.goto 4, 3) := by decide +kernel
theorem dX12_has_13 : decode cX12_has 13 = .ok (.iconst 0, 1) := by decide +kernel
theorem dX12_has_14 : decode cX12_has 14 = .ok (.ireturn, 1) := by decide +kernel
def fn_X12_has (h : aH) (p0 : Int32) (p1 : Int32) : Option (Int32) :=
  if ((p0 >>> (p1 &&& 31)) &&& 1) = 1 then
    some 1
  else
    some 0
set_option maxRecDepth 20000 in
set_option maxHeartbeats 4000000 in
theorem ev_X12_has {l : Launch} {g : aG} {d : Nat} (hd : 0 ≤ d) (h : aH) (p0 : Int32) (p1 : Int32) (o : Int32) (hf : fn_X12_has h p0 p1 = some o) : EvM l g d yX12_has cX12_has 2 (some .boolean) [.int p0, .int p1] h (some (.int o), h) := by
  refine EvM.of mk_X12_has (Nat.le_of_ble_eq_true rfl) ?_
  intro Γ hl hg hq X
  have hd1 : 0 ≤ d := by omega
  have hk : RpI h Γ o := hq
  unfold fn_X12_has at hf
  show Jd Γ (0, 0) 0 [some (.int p0), some (.int p1)] [] h
  refine r_iload_n (pc := 0) X dX12_has_0 rfl ?_
  refine r_iload_n (pc := 1) X dX12_has_1 rfl ?_
  refine r_ishr (pc := 2) X dX12_has_2 ?_
  refine r_iconst (pc := 3) X 1 dX12_has_3 (by decide) ?_
  refine r_iand (pc := 4) X dX12_has_4 ?_
  refine r_iconst (pc := 5) X 1 dX12_has_5 (by decide) ?_
  refine r_icmp_ne (pc := 6) X 13 dX12_has_6 (by decide) (fun c1 => ?_) (fun c1 => ?_)
  · rw [if_neg c1] at hf
    refine r_iconst (pc := 13) X 0 dX12_has_13 (by decide) ?_
    obtain rfl := Option.some.inj hf
    exact r_zret (pc := 14) X dX12_has_14 (Or.inl rfl) hk
  · rw [if_pos c1] at hf
    refine r_iconst (pc := 9) X 1 dX12_has_9 (by decide) ?_
    refine r_goto (pc := 10) X 14 dX12_has_10 (by decide) ?_
    obtain rfl := Option.some.inj hf
    exact r_zret (pc := 14) X dX12_has_14 (Or.inr rfl) hk

theorem dX12_lost_0 : decode cX12_lost 0 = .ok (.aload_n 0, 1) := by decide +kernel
theorem dX12_lost_1 : decode cX12_lost 1 = .ok (.iconst 1, 1) := by decide +kernel
theorem dX12_lost_2 : decode cX12_lost 2 = .ok (.putfield 100, 3) := by decide +kernel
theorem dX12_lost_5 : decode cX12_lost 5 = .ok (.iconst 0, 1) := by decide +kernel
theorem dX12_lost_6 : decode cX12_lost 6 = .ok (.ireturn, 1) := by decide +kernel
def fn_X12_lost (h : aH) (p0 : Nat) : Option (Int32 × aH) :=
  (pI h p0 11 11 1).bind fun h1 =>
  some (0, h1)
set_option maxRecDepth 20000 in
set_option maxHeartbeats 4000000 in
theorem ev_X12_lost {l : Launch} {g : aG} {d : Nat} (hd : 0 ≤ d) (h : aH) (p0 : Nat) (o : Int32 × aH) (hf : fn_X12_lost h p0 = some o) : EvM l g d yX12_lost cX12_lost 1 (some .int) [.ref p0] h (some (.int o.1), o.2) := by
  refine EvM.of mk_X12_lost (Nat.le_of_ble_eq_true rfl) ?_
  intro Γ hl hg hq X
  have hd1 : 0 ≤ d := by omega
  have hk : RqI Γ o := hq
  unfold fn_X12_lost at hf
  show Jd Γ (0, 0) 0 [some (.ref p0)] [] h
  refine r_aload_n (pc := 0) X dX12_lost_0 rfl ?_
  refine r_iconst (pc := 1) X 1 dX12_lost_1 (by decide) ?_
  obtain ⟨h1, eh1, hf⟩ := ob hf
  refine r_putI (pc := 2) X dX12_lost_2 fp_X12_100 rfl eh1 ?_
  refine r_iconst (pc := 5) X 0 dX12_lost_5 (by decide) ?_
  obtain rfl := Option.some.inj hf
  exact r_iret (pc := 6) X dX12_lost_6 hk

theorem dX12_tell_0 : decode cX12_tell 0 = .ok (.aload_n 0, 1) := by decide +kernel
theorem dX12_tell_1 : decode cX12_tell 1 = .ok (.getfield 26, 3) := by decide +kernel
theorem dX12_tell_4 : decode cX12_tell 4 = .ok (.aload_n 0, 1) := by decide +kernel
theorem dX12_tell_5 : decode cX12_tell 5 = .ok (.getfield 104, 3) := by decide +kernel
theorem dX12_tell_8 : decode cX12_tell 8 = .ok (.lload_n 1, 1) := by decide +kernel
theorem dX12_tell_9 : decode cX12_tell 9 = .ok (.lastore, 1) := by decide +kernel
theorem dX12_tell_10 : decode cX12_tell 10 = .ok (.aload_n 0, 1) := by decide +kernel
theorem dX12_tell_11 : decode cX12_tell 11 = .ok (.dup, 1) := by decide +kernel
theorem dX12_tell_12 : decode cX12_tell 12 = .ok (.getfield 104, 3) := by decide +kernel
theorem dX12_tell_15 : decode cX12_tell 15 = .ok (.iconst 1, 1) := by decide +kernel
theorem dX12_tell_16 : decode cX12_tell 16 = .ok (.iadd, 1) := by decide +kernel
theorem dX12_tell_17 : decode cX12_tell 17 = .ok (.putfield 104, 3) := by decide +kernel
theorem dX12_tell_20 : decode cX12_tell 20 = .ok (.return_, 1) := by decide +kernel
def fn_X12_tell (h : aH) (p0 : Nat) (p1 : Int64) : Option (aH) :=
  (gR h p0 11 9).bind fun a1 =>
  (gI h p0 11 10).bind fun x2 =>
  (wJ h a1 x2 p1).bind fun h3 =>
  (gI h3 p0 11 10).bind fun x4 =>
  (pI h3 p0 11 10 (x4 + 1)).bind fun h5 =>
  some h5
set_option maxRecDepth 20000 in
set_option maxHeartbeats 4000000 in
theorem ev_X12_tell {l : Launch} {g : aG} {d : Nat} (hd : 0 ≤ d) (h : aH) (p0 : Nat) (p1 : Int64) (o : aH) (hf : fn_X12_tell h p0 p1 = some o) : EvM l g d yX12_tell cX12_tell 3 none [.ref p0, .long p1] h (none, o) := by
  refine EvM.of mk_X12_tell (Nat.le_of_ble_eq_true rfl) ?_
  intro Γ hl hg hq X
  have hd1 : 0 ≤ d := by omega
  have hk : RqV Γ o := hq
  unfold fn_X12_tell at hf
  show Jd Γ (0, 0) 0 [some (.ref p0), some (.long p1), none] [] h
  refine r_aload_n (pc := 0) X dX12_tell_0 rfl ?_
  obtain ⟨a1, ea1, hf⟩ := ob hf
  refine r_getR (pc := 1) X dX12_tell_1 fl_X12_26 rfl ea1 ?_
  refine r_aload_n (pc := 4) X dX12_tell_4 rfl ?_
  obtain ⟨x2, ex2, hf⟩ := ob hf
  refine r_getI (pc := 5) X dX12_tell_5 fl_X12_104 rfl ex2 ?_
  refine r_lload_n (pc := 8) X dX12_tell_8 rfl ?_
  obtain ⟨h3, eh3, hf⟩ := ob hf
  refine r_last (pc := 9) X dX12_tell_9 eh3 ?_
  refine r_aload_n (pc := 10) X dX12_tell_10 rfl ?_
  refine r_dup (pc := 11) X dX12_tell_11 rfl ?_
  obtain ⟨x4, ex4, hf⟩ := ob hf
  refine r_getI (pc := 12) X dX12_tell_12 fl_X12_104 rfl ex4 ?_
  refine r_iconst (pc := 15) X 1 dX12_tell_15 (by decide) ?_
  refine r_iadd (pc := 16) X dX12_tell_16 ?_
  obtain ⟨h5, eh5, hf⟩ := ob hf
  refine r_putI (pc := 17) X dX12_tell_17 fp_X12_104 rfl eh5 ?_
  obtain rfl := Option.some.inj hf
  exact r_vret (pc := 20) X dX12_tell_20 hk

theorem dX12_isBasin_0 : decode cX12_isBasin 0 = .ok (.iload_n 1, 1) := by decide +kernel
theorem dX12_isBasin_1 : decode cX12_isBasin 1 = .ok (.iconst 0, 1) := by decide +kernel
theorem dX12_isBasin_2 : decode cX12_isBasin 2 = .ok (.aload_n 0, 1) := by decide +kernel
theorem dX12_isBasin_3 : decode cX12_isBasin 3 = .ok (.getfield 107, 3) := by decide +kernel
theorem dX12_isBasin_6 : decode cX12_isBasin 6 = .ok (.iconst 1, 1) := by decide +kernel
theorem dX12_isBasin_7 : decode cX12_isBasin 7 = .ok (.isub, 1) := by decide +kernel
theorem dX12_isBasin_8 : decode cX12_isBasin 8 = .ok (.invokestatic 110, 3) := by decide +kernel
theorem dX12_isBasin_11 : decode cX12_isBasin 11 = .ok (.ireturn, 1) := by decide +kernel
def fn_X12_isBasin (h : aH) (p0 : Nat) (p1 : Int32) : Option (Int32) :=
  (gI h p0 11 1).bind fun x1 =>
  (fn_X12_in h p1 0 (x1 - 1)).bind fun x2 =>
  (bz x2).bind fun x3 =>
  some x3
set_option maxRecDepth 20000 in
set_option maxHeartbeats 4000000 in
theorem ev_X12_isBasin {l : Launch} {g : aG} {d : Nat} (hd : 1 ≤ d) (h : aH) (p0 : Nat) (p1 : Int32) (o : Int32) (hf : fn_X12_isBasin h p0 p1 = some o) : EvM l g d yX12_isBasin cX12_isBasin 2 (some .boolean) [.ref p0, .int p1] h (some (.int o), h) := by
  refine EvM.of mk_X12_isBasin (Nat.le_of_ble_eq_true rfl) ?_
  intro Γ hl hg hq X
  have hd1 : 1 ≤ d := by omega
  have hk : RpI h Γ o := hq
  unfold fn_X12_isBasin at hf
  show Jd Γ (0, 0) 0 [some (.ref p0), some (.int p1)] [] h
  refine r_iload_n (pc := 0) X dX12_isBasin_0 rfl ?_
  refine r_iconst (pc := 1) X 0 dX12_isBasin_1 (by decide) ?_
  refine r_aload_n (pc := 2) X dX12_isBasin_2 rfl ?_
  obtain ⟨x1, ex1, hf⟩ := ob hf
  refine r_getI (pc := 3) X dX12_isBasin_3 fl_X12_107 rfl ex1 ?_
  refine r_iconst (pc := 6) X 1 dX12_isBasin_6 (by decide) ?_
  refine r_isub (pc := 7) X dX12_isBasin_7 ?_
  obtain ⟨x2, ex2, hf⟩ := ob hf
  refine r_callSI (pc := 8) X [.int p1, .int 0, .int (x1 - 1)] dX12_isBasin_8 ml_X12_110 so_X12_in ⟨Nat.le_refl _, Nat.le_refl _⟩ (ev_X12_in (d := d - 1) (by omega) _ _ _ _ _ ex2) hd1 rfl (Nat.le_of_ble_eq_true rfl) rfl ?_
  obtain ⟨x3, ex3, hf⟩ := ob hf
  obtain rfl := Option.some.inj hf
  exact r_zretB (pc := 11) X dX12_isBasin_11 ex3 hk

theorem dX12_areTwo_0 : decode cX12_areTwo 0 = .ok (.aload_n 0, 1) := by decide +kernel
theorem dX12_areTwo_1 : decode cX12_areTwo 1 = .ok (.iload_n 1, 1) := by decide +kernel
theorem dX12_areTwo_2 : decode cX12_areTwo 2 = .ok (.invokevirtual 114, 3) := by decide +kernel
theorem dX12_areTwo_5 : decode cX12_areTwo 5 = .ok (.ifCond .eq 20, 3) := by decide +kernel
theorem dX12_areTwo_8 : decode cX12_areTwo 8 = .ok (.aload_n 0, 1) := by decide +kernel
theorem dX12_areTwo_9 : decode cX12_areTwo 9 = .ok (.iload_n 2, 1) := by decide +kernel
theorem dX12_areTwo_10 : decode cX12_areTwo 10 = .ok (.invokevirtual 114, 3) := by decide +kernel
theorem dX12_areTwo_13 : decode cX12_areTwo 13 = .ok (.ifCond .eq 12, 3) := by decide +kernel
theorem dX12_areTwo_16 : decode cX12_areTwo 16 = .ok (.iload_n 1, 1) := by decide +kernel
theorem dX12_areTwo_17 : decode cX12_areTwo 17 = .ok (.iload_n 2, 1) := by decide +kernel
theorem dX12_areTwo_18 : decode cX12_areTwo 18 = .ok (.if_icmp .eq 7, 3) := by decide +kernel
theorem dX12_areTwo_21 : decode cX12_areTwo 21 = .ok (.iconst 1, 1) := by decide +kernel
theorem dX12_areTwo_22 : decode cX12_areTwo 22 = .ok (.goto 4, 3) := by decide +kernel
theorem dX12_areTwo_25 : decode cX12_areTwo 25 = .ok (.iconst 0, 1) := by decide +kernel
theorem dX12_areTwo_26 : decode cX12_areTwo 26 = .ok (.ireturn, 1) := by decide +kernel
def fn_X12_areTwo (h : aH) (p0 : Nat) (p1 : Int32) (p2 : Int32) : Option (Int32) :=
  (ck h p0 11).bind fun u1 =>
  (fn_X12_isBasin h p0 p1).bind fun x2 =>
  if x2 = 0 then
    some 0
  else
    (ck h p0 11).bind fun u3 =>
    (fn_X12_isBasin h p0 p2).bind fun x4 =>
    if x4 = 0 then
      some 0
    else
      if p1 = p2 then
        some 0
      else
        some 1
set_option maxRecDepth 20000 in
set_option maxHeartbeats 4000000 in
theorem ev_X12_areTwo {l : Launch} {g : aG} {d : Nat} (hd : 2 ≤ d) (h : aH) (p0 : Nat) (p1 : Int32) (p2 : Int32) (o : Int32) (hf : fn_X12_areTwo h p0 p1 p2 = some o) : EvM l g d yX12_areTwo cX12_areTwo 3 (some .boolean) [.ref p0, .int p1, .int p2] h (some (.int o), h) := by
  refine EvM.of mk_X12_areTwo (Nat.le_of_ble_eq_true rfl) ?_
  intro Γ hl hg hq X
  have hd1 : 1 ≤ d := by omega
  have hk : RpI h Γ o := hq
  unfold fn_X12_areTwo at hf
  show Jd Γ (0, 0) 0 [some (.ref p0), some (.int p1), some (.int p2)] [] h
  refine r_aload_n (pc := 0) X dX12_areTwo_0 rfl ?_
  refine r_iload_n (pc := 1) X dX12_areTwo_1 rfl ?_
  obtain ⟨u1, eu1, hf⟩ := ob hf
  obtain ⟨x2, ex2, hf⟩ := ob hf
  refine r_callVI (pc := 2) X [.int p1] dX12_areTwo_2 ml_X12_114 vo_X12_isBasin ⟨Nat.le_refl _, Nat.le_refl _⟩ eu1 (ev_X12_isBasin (d := d - 1) (by omega) _ _ _ _ ex2) hd1 rfl (Nat.le_of_ble_eq_true rfl) rfl ?_
  refine r_if_eq (pc := 5) X 25 dX12_areTwo_5 (by decide) (fun c7 => ?_) (fun c7 => ?_)
  · rw [if_pos c7] at hf
    refine r_iconst (pc := 25) X 0 dX12_areTwo_25 (by decide) ?_
    obtain rfl := Option.some.inj hf
    exact r_zret (pc := 26) X dX12_areTwo_26 (Or.inl rfl) hk
  · rw [if_neg c7] at hf
    refine r_aload_n (pc := 8) X dX12_areTwo_8 rfl ?_
    refine r_iload_n (pc := 9) X dX12_areTwo_9 rfl ?_
    obtain ⟨u3, eu3, hf⟩ := ob hf
    obtain ⟨x4, ex4, hf⟩ := ob hf
    refine r_callVI (pc := 10) X [.int p2] dX12_areTwo_10 ml_X12_114 vo_X12_isBasin ⟨Nat.le_refl _, Nat.le_refl _⟩ eu3 (ev_X12_isBasin (d := d - 1) (by omega) _ _ _ _ ex4) hd1 rfl (Nat.le_of_ble_eq_true rfl) rfl ?_
    refine r_if_eq (pc := 13) X 25 dX12_areTwo_13 (by decide) (fun c6 => ?_) (fun c6 => ?_)
    · rw [if_pos c6] at hf
      refine r_iconst (pc := 25) X 0 dX12_areTwo_25 (by decide) ?_
      obtain rfl := Option.some.inj hf
      exact r_zret (pc := 26) X dX12_areTwo_26 (Or.inl rfl) hk
    · rw [if_neg c6] at hf
      refine r_iload_n (pc := 16) X dX12_areTwo_16 rfl ?_
      refine r_iload_n (pc := 17) X dX12_areTwo_17 rfl ?_
      refine r_icmp_eq (pc := 18) X 25 dX12_areTwo_18 (by decide) (fun c5 => ?_) (fun c5 => ?_)
      · rw [if_pos c5] at hf
        refine r_iconst (pc := 25) X 0 dX12_areTwo_25 (by decide) ?_
        obtain rfl := Option.some.inj hf
        exact r_zret (pc := 26) X dX12_areTwo_26 (Or.inl rfl) hk
      · rw [if_neg c5] at hf
        refine r_iconst (pc := 21) X 1 dX12_areTwo_21 (by decide) ?_
        refine r_goto (pc := 22) X 26 dX12_areTwo_22 (by decide) ?_
        obtain rfl := Option.some.inj hf
        exact r_zret (pc := 26) X dX12_areTwo_26 (Or.inr rfl) hk

theorem dX12_isSluice_0 : decode cX12_isSluice 0 = .ok (.iload_n 1, 1) := by decide +kernel
theorem dX12_isSluice_1 : decode cX12_isSluice 1 = .ok (.iconst 0, 1) := by decide +kernel
theorem dX12_isSluice_2 : decode cX12_isSluice 2 = .ok (.aload_n 0, 1) := by decide +kernel
theorem dX12_isSluice_3 : decode cX12_isSluice 3 = .ok (.getfield 118, 3) := by decide +kernel
theorem dX12_isSluice_6 : decode cX12_isSluice 6 = .ok (.iconst 1, 1) := by decide +kernel
theorem dX12_isSluice_7 : decode cX12_isSluice 7 = .ok (.isub, 1) := by decide +kernel
theorem dX12_isSluice_8 : decode cX12_isSluice 8 = .ok (.invokestatic 110, 3) := by decide +kernel
theorem dX12_isSluice_11 : decode cX12_isSluice 11 = .ok (.ireturn, 1) := by decide +kernel
def fn_X12_isSluice (h : aH) (p0 : Nat) (p1 : Int32) : Option (Int32) :=
  (gI h p0 11 2).bind fun x1 =>
  (fn_X12_in h p1 0 (x1 - 1)).bind fun x2 =>
  (bz x2).bind fun x3 =>
  some x3
set_option maxRecDepth 20000 in
set_option maxHeartbeats 4000000 in
theorem ev_X12_isSluice {l : Launch} {g : aG} {d : Nat} (hd : 1 ≤ d) (h : aH) (p0 : Nat) (p1 : Int32) (o : Int32) (hf : fn_X12_isSluice h p0 p1 = some o) : EvM l g d yX12_isSluice cX12_isSluice 2 (some .boolean) [.ref p0, .int p1] h (some (.int o), h) := by
  refine EvM.of mk_X12_isSluice (Nat.le_of_ble_eq_true rfl) ?_
  intro Γ hl hg hq X
  have hd1 : 1 ≤ d := by omega
  have hk : RpI h Γ o := hq
  unfold fn_X12_isSluice at hf
  show Jd Γ (0, 0) 0 [some (.ref p0), some (.int p1)] [] h
  refine r_iload_n (pc := 0) X dX12_isSluice_0 rfl ?_
  refine r_iconst (pc := 1) X 0 dX12_isSluice_1 (by decide) ?_
  refine r_aload_n (pc := 2) X dX12_isSluice_2 rfl ?_
  obtain ⟨x1, ex1, hf⟩ := ob hf
  refine r_getI (pc := 3) X dX12_isSluice_3 fl_X12_118 rfl ex1 ?_
  refine r_iconst (pc := 6) X 1 dX12_isSluice_6 (by decide) ?_
  refine r_isub (pc := 7) X dX12_isSluice_7 ?_
  obtain ⟨x2, ex2, hf⟩ := ob hf
  refine r_callSI (pc := 8) X [.int p1, .int 0, .int (x1 - 1)] dX12_isSluice_8 ml_X12_110 so_X12_in ⟨Nat.le_refl _, Nat.le_refl _⟩ (ev_X12_in (d := d - 1) (by omega) _ _ _ _ _ ex2) hd1 rfl (Nat.le_of_ble_eq_true rfl) rfl ?_
  obtain ⟨x3, ex3, hf⟩ := ob hf
  obtain rfl := Option.some.inj hf
  exact r_zretB (pc := 11) X dX12_isSluice_11 ex3 hk

theorem dX12_sign_0 : decode cX12_sign 0 = .ok (.aload_n 0, 1) := by decide +kernel
theorem dX12_sign_1 : decode cX12_sign 1 = .ok (.iconst 0, 1) := by decide +kernel
theorem dX12_sign_2 : decode cX12_sign 2 = .ok (.putfield 100, 3) := by decide +kernel
theorem dX12_sign_5 : decode cX12_sign 5 = .ok (.aload_n 0, 1) := by decide +kernel
theorem dX12_sign_6 : decode cX12_sign 6 = .ok (.getfield 121, 3) := by decide +kernel
theorem dX12_sign_9 : decode cX12_sign 9 = .ok (.iconst 4, 1) := by decide +kernel
theorem dX12_sign_10 : decode cX12_sign 10 = .ok (.iadd, 1) := by decide +kernel
theorem dX12_sign_11 : decode cX12_sign 11 = .ok (.bipush 80, 2) := by decide +kernel
theorem dX12_sign_13 : decode cX12_sign 13 = .ok (.if_icmp .le 5, 3) := by decide +kernel
theorem dX12_sign_16 : decode cX12_sign 16 = .ok (.iconst (-1), 1) := by decide +kernel
theorem dX12_sign_17 : decode cX12_sign 17 = .ok (.ireturn, 1) := by decide +kernel
theorem dX12_sign_18 : decode cX12_sign 18 = .ok (.iconst 3, 1) := by decide +kernel
theorem dX12_sign_19 : decode cX12_sign 19 = .ok (.istore_n 2, 1) := by decide +kernel
theorem dX12_sign_20 : decode cX12_sign 20 = .ok (.iload_n 2, 1) := by decide +kernel
theorem dX12_sign_21 : decode cX12_sign 21 = .ok (.ifCond .lt 32, 3) := by decide +kernel
theorem dX12_sign_24 : decode cX12_sign 24 = .ok (.aload_n 0, 1) := by decide +kernel
theorem dX12_sign_25 : decode cX12_sign 25 = .ok (.getfield 22, 3) := by decide +kernel
theorem dX12_sign_28 : decode cX12_sign 28 = .ok (.aload_n 0, 1) := by decide +kernel
theorem dX12_sign_29 : decode cX12_sign 29 = .ok (.dup, 1) := by decide +kernel
theorem dX12_sign_30 : decode cX12_sign 30 = .ok (.getfield 121, 3) := by decide +kernel
theorem dX12_sign_33 : decode cX12_sign 33 = .ok (.dup_x1, 1) := by decide +kernel
theorem dX12_sign_34 : decode cX12_sign 34 = .ok (.iconst 1, 1) := by decide +kernel
theorem dX12_sign_35 : decode cX12_sign 35 = .ok (.iadd, 1) := by decide +kernel
theorem dX12_sign_36 : decode cX12_sign 36 = .ok (.putfield 121, 3) := by decide +kernel
theorem dX12_sign_39 : decode cX12_sign 39 = .ok (.iload_n 1, 1) := by decide +kernel
theorem dX12_sign_40 : decode cX12_sign 40 = .ok (.bipush 8, 2) := by decide +kernel
theorem dX12_sign_42 : decode cX12_sign 42 = .ok (.iload_n 2, 1) := by decide +kernel
theorem dX12_sign_43 : decode cX12_sign 43 = .ok (.imul, 1) := by decide +kernel
theorem dX12_sign_44 : decode cX12_sign 44 = .ok (.ishr, 1) := by decide +kernel
theorem dX12_sign_45 : decode cX12_sign 45 = .ok (.i2b, 1) := by decide +kernel
theorem dX12_sign_46 : decode cX12_sign 46 = .ok (.bastore, 1) := by decide +kernel
theorem dX12_sign_47 : decode cX12_sign 47 = .ok (.iinc 2 (-1), 3) := by decide +kernel
theorem dX12_sign_50 : decode cX12_sign 50 = .ok (.goto (-30), 3) := by decide +kernel
theorem dX12_sign_53 : decode cX12_sign 53 = .ok (.aload_n 0, 1) := by decide +kernel
theorem dX12_sign_54 : decode cX12_sign 54 = .ok (.getfield 121, 3) := by decide +kernel
theorem dX12_sign_57 : decode cX12_sign 57 = .ok (.ireturn, 1) := by decide +kernel
def lb_X12_sign_20 (v0 : Nat) (v1 : Int32) (s : Int32 × aH) : Option ((Int32 × aH) ⊕ ((Int32 × aH))) :=
  if s.1 < 0 then
    (gI s.2 v0 11 8).bind fun x3 =>
    some (.inr (x3, s.2))
  else
    (gR s.2 v0 11 7).bind fun a4 =>
    (gI s.2 v0 11 8).bind fun x5 =>
    (pI s.2 v0 11 8 (x5 + 1)).bind fun h6 =>
    (wB h6 a4 x5 (Int8.toInt32 (Int32.toInt8 (v1 >>> ((8 * s.1) &&& 31))))).bind fun h7 =>
    (some (s.1 + (-1))).bind fun x8 =>
    some (.inl (x8, h7))
def hd_X12_sign_20 (Γ : aC) (v0 : Nat) (v1 : Int32) (s : Int32 × aH) : Prop := Jd Γ (0, 0) 20 [some (.ref v0), some (.int v1), some (.int s.1)] [] s.2
def ex_X12_sign_20 (Γ : aC) (v0 : Nat) (v1 : Int32) (r : (Int32 × aH)) : Prop := (fun r => RqI Γ r) r
set_option maxRecDepth 20000 in
set_option maxHeartbeats 4000000 in
theorem lw_X12_sign_20 {Γ : aC} {d : Nat} (X : Cx Γ RX12 cX12_sign 3 (some .int) (d, 0, 0)) (hd : 0 ≤ d) (v0 : Nat) (v1 : Int32) : ∀ n s o, lp (lb_X12_sign_20 v0 v1) n s = some o → ex_X12_sign_20 Γ v0 v1 o → hd_X12_sign_20 Γ v0 v1 s := by
  have hd1 : 0 ≤ d := by omega
  refine J_lp _ _ _ ?_
  intro s o hf hk
  unfold lb_X12_sign_20 at hf
  refine r_iload_n (pc := 20) X dX12_sign_20 rfl ?_
  refine r_if_lt (pc := 21) X 53 dX12_sign_21 (by decide) (fun c9 => ?_) (fun c9 => ?_)
  · rw [if_pos c9] at hf
    refine r_aload_n (pc := 53) X dX12_sign_53 rfl ?_
    obtain ⟨x3, ex3, hf⟩ := ob hf
    refine r_getI (pc := 54) X dX12_sign_54 fl_X12_121 rfl ex3 ?_
    obtain rfl := Option.some.inj hf
    exact r_iret (pc := 57) X dX12_sign_57 hk
  · rw [if_neg c9] at hf
    refine r_aload_n (pc := 24) X dX12_sign_24 rfl ?_
    obtain ⟨a4, ea4, hf⟩ := ob hf
    refine r_getR (pc := 25) X dX12_sign_25 fl_X12_22 rfl ea4 ?_
    refine r_aload_n (pc := 28) X dX12_sign_28 rfl ?_
    refine r_dup (pc := 29) X dX12_sign_29 rfl ?_
    obtain ⟨x5, ex5, hf⟩ := ob hf
    refine r_getI (pc := 30) X dX12_sign_30 fl_X12_121 rfl ex5 ?_
    refine r_dup_x1 (pc := 33) X dX12_sign_33 rfl rfl ?_
    refine r_iconst (pc := 34) X 1 dX12_sign_34 (by decide) ?_
    refine r_iadd (pc := 35) X dX12_sign_35 ?_
    obtain ⟨h6, eh6, hf⟩ := ob hf
    refine r_putI (pc := 36) X dX12_sign_36 fp_X12_121 rfl eh6 ?_
    refine r_iload_n (pc := 39) X dX12_sign_39 rfl ?_
    refine r_bipush (pc := 40) X 8 dX12_sign_40 (by decide) ?_
    refine r_iload_n (pc := 42) X dX12_sign_42 rfl ?_
    refine r_imul (pc := 43) X dX12_sign_43 ?_
    refine r_ishr (pc := 44) X dX12_sign_44 ?_
    refine r_i2b (pc := 45) X dX12_sign_45 ?_
    obtain ⟨h7, eh7, hf⟩ := ob hf
    refine r_bast (pc := 46) X dX12_sign_46 eh7 ?_
    obtain ⟨x8, ex8, hf⟩ := ob hf
    refine r_iinc2 (pc := 47) X (-1) [some (.ref v0), some (.int v1), some (.int x8)] dX12_sign_47 (by decide) rfl (by decide) ex8 rfl ?_
    refine r_goto (pc := 50) X 20 dX12_sign_50 (by decide) ?_
    obtain rfl := Option.some.inj hf
    exact hk
def fn_X12_sign (h : aH) (p0 : Nat) (p1 : Int32) : Option (Int32 × aH) :=
  (pI h p0 11 11 0).bind fun h1 =>
  (gI h1 p0 11 8).bind fun x2 =>
  if (x2 + 4) ≤ 80 then
    (lp (lb_X12_sign_20 p0 p1) lpN (3, h1)).bind fun o10 =>
    some o10
  else
    some ((-1), h1)
set_option maxRecDepth 20000 in
set_option maxHeartbeats 4000000 in
theorem ev_X12_sign {l : Launch} {g : aG} {d : Nat} (hd : 0 ≤ d) (h : aH) (p0 : Nat) (p1 : Int32) (o : Int32 × aH) (hf : fn_X12_sign h p0 p1 = some o) : EvM l g d yX12_sign cX12_sign 3 (some .int) [.ref p0, .int p1] h (some (.int o.1), o.2) := by
  refine EvM.of mk_X12_sign (Nat.le_of_ble_eq_true rfl) ?_
  intro Γ hl hg hq X
  have hd1 : 0 ≤ d := by omega
  have hk : RqI Γ o := hq
  unfold fn_X12_sign at hf
  show Jd Γ (0, 0) 0 [some (.ref p0), some (.int p1), none] [] h
  refine r_aload_n (pc := 0) X dX12_sign_0 rfl ?_
  refine r_iconst (pc := 1) X 0 dX12_sign_1 (by decide) ?_
  obtain ⟨h1, eh1, hf⟩ := ob hf
  refine r_putI (pc := 2) X dX12_sign_2 fp_X12_100 rfl eh1 ?_
  refine r_aload_n (pc := 5) X dX12_sign_5 rfl ?_
  obtain ⟨x2, ex2, hf⟩ := ob hf
  refine r_getI (pc := 6) X dX12_sign_6 fl_X12_121 rfl ex2 ?_
  refine r_iconst (pc := 9) X 4 dX12_sign_9 (by decide) ?_
  refine r_iadd (pc := 10) X dX12_sign_10 ?_
  refine r_bipush (pc := 11) X 80 dX12_sign_11 (by decide) ?_
  refine r_icmp_le (pc := 13) X 18 dX12_sign_13 (by decide) (fun c11 => ?_) (fun c11 => ?_)
  · rw [if_pos c11] at hf
    refine r_iconst (pc := 18) X 3 dX12_sign_18 (by decide) ?_
    refine r_istore_n (pc := 19) X [some (.ref p0), some (.int p1), some (.int 3)] dX12_sign_19 (by decide) rfl ?_
    obtain ⟨o10, eo10, hf⟩ := ob hf
    refine (lw_X12_sign_20 X hd _ _ lpN _ o10 eo10 ?_)
    obtain rfl := Option.some.inj hf
    exact hk
  · rw [if_neg c11] at hf
    refine r_iconst (pc := 16) X (-1) dX12_sign_16 (by decide) ?_
    obtain rfl := Option.some.inj hf
    exact r_iret (pc := 17) X dX12_sign_17 hk

theorem dX12_end_0 : decode cX12_end 0 = .ok (.aload_n 0, 1) := by decide +kernel
theorem dX12_end_1 : decode cX12_end 1 = .ok (.iconst 0, 1) := by decide +kernel
theorem dX12_end_2 : decode cX12_end 2 = .ok (.putfield 100, 3) := by decide +kernel
theorem dX12_end_5 : decode cX12_end 5 = .ok (.iload_n 1, 1) := by decide +kernel
theorem dX12_end_6 : decode cX12_end 6 = .ok (.iconst 0, 1) := by decide +kernel
theorem dX12_end_7 : decode cX12_end 7 = .ok (.aload_n 0, 1) := by decide +kernel
theorem dX12_end_8 : decode cX12_end 8 = .ok (.getfield 121, 3) := by decide +kernel
theorem dX12_end_11 : decode cX12_end 11 = .ok (.invokestatic 110, 3) := by decide +kernel
theorem dX12_end_14 : decode cX12_end 14 = .ok (.ifCond .ne 5, 3) := by decide +kernel
theorem dX12_end_17 : decode cX12_end 17 = .ok (.iconst 0, 1) := by decide +kernel
theorem dX12_end_18 : decode cX12_end 18 = .ok (.ireturn, 1) := by decide +kernel
theorem dX12_end_19 : decode cX12_end 19 = .ok (.aload_n 0, 1) := by decide +kernel
theorem dX12_end_20 : decode cX12_end 20 = .ok (.iload_n 1, 1) := by decide +kernel
theorem dX12_end_21 : decode cX12_end 21 = .ok (.putfield 121, 3) := by decide +kernel
theorem dX12_end_24 : decode cX12_end 24 = .ok (.iconst 1, 1) := by decide +kernel
theorem dX12_end_25 : decode cX12_end 25 = .ok (.ireturn, 1) := by decide +kernel
def fn_X12_end (h : aH) (p0 : Nat) (p1 : Int32) : Option (Int32 × aH) :=
  (pI h p0 11 11 0).bind fun h1 =>
  (gI h1 p0 11 8).bind fun x2 =>
  (fn_X12_in h1 p1 0 x2).bind fun x3 =>
  if x3 = 0 then
    some (0, h1)
  else
    (pI h1 p0 11 8 p1).bind fun h4 =>
    some (1, h4)
set_option maxRecDepth 20000 in
set_option maxHeartbeats 4000000 in
theorem ev_X12_end {l : Launch} {g : aG} {d : Nat} (hd : 1 ≤ d) (h : aH) (p0 : Nat) (p1 : Int32) (o : Int32 × aH) (hf : fn_X12_end h p0 p1 = some o) : EvM l g d yX12_end cX12_end 2 (some .boolean) [.ref p0, .int p1] h (some (.int o.1), o.2) := by
  refine EvM.of mk_X12_end (Nat.le_of_ble_eq_true rfl) ?_
  intro Γ hl hg hq X
  have hd1 : 1 ≤ d := by omega
  have hk : RqI Γ o := hq
  unfold fn_X12_end at hf
  show Jd Γ (0, 0) 0 [some (.ref p0), some (.int p1)] [] h
  refine r_aload_n (pc := 0) X dX12_end_0 rfl ?_
  refine r_iconst (pc := 1) X 0 dX12_end_1 (by decide) ?_
  obtain ⟨h1, eh1, hf⟩ := ob hf
  refine r_putI (pc := 2) X dX12_end_2 fp_X12_100 rfl eh1 ?_
  refine r_iload_n (pc := 5) X dX12_end_5 rfl ?_
  refine r_iconst (pc := 6) X 0 dX12_end_6 (by decide) ?_
  refine r_aload_n (pc := 7) X dX12_end_7 rfl ?_
  obtain ⟨x2, ex2, hf⟩ := ob hf
  refine r_getI (pc := 8) X dX12_end_8 fl_X12_121 rfl ex2 ?_
  obtain ⟨x3, ex3, hf⟩ := ob hf
  refine r_callSI (pc := 11) X [.int p1, .int 0, .int x2] dX12_end_11 ml_X12_110 so_X12_in ⟨Nat.le_refl _, Nat.le_refl _⟩ (ev_X12_in (d := d - 1) (by omega) _ _ _ _ _ ex3) hd1 rfl (Nat.le_of_ble_eq_true rfl) rfl ?_
  refine r_if_ne (pc := 14) X 19 dX12_end_14 (by decide) (fun c5 => ?_) (fun c5 => ?_)
  · rw [if_neg c5] at hf
    refine r_aload_n (pc := 19) X dX12_end_19 rfl ?_
    refine r_iload_n (pc := 20) X dX12_end_20 rfl ?_
    obtain ⟨h4, eh4, hf⟩ := ob hf
    refine r_putI (pc := 21) X dX12_end_21 fp_X12_121 rfl eh4 ?_
    refine r_iconst (pc := 24) X 1 dX12_end_24 (by decide) ?_
    obtain rfl := Option.some.inj hf
    exact r_zret (pc := 25) X dX12_end_25 (Or.inr rfl) hk
  · rw [if_pos c5] at hf
    refine r_iconst (pc := 17) X 0 dX12_end_17 (by decide) ?_
    obtain rfl := Option.some.inj hf
    exact r_zret (pc := 18) X dX12_end_18 (Or.inl rfl) hk

theorem dX12_begin_0 : decode cX12_begin 0 = .ok (.aload_n 0, 1) := by decide +kernel
theorem dX12_begin_1 : decode cX12_begin 1 = .ok (.aload_n 1, 1) := by decide +kernel
theorem dX12_begin_2 : decode cX12_begin 2 = .ok (.putfield 124, 3) := by decide +kernel
theorem dX12_begin_5 : decode cX12_begin 5 = .ok (.aload_n 0, 1) := by decide +kernel
theorem dX12_begin_6 : decode cX12_begin 6 = .ok (.iload_n 2, 1) := by decide +kernel
theorem dX12_begin_7 : decode cX12_begin 7 = .ok (.putfield 127, 3) := by decide +kernel
theorem dX12_begin_10 : decode cX12_begin 10 = .ok (.aload_n 0, 1) := by decide +kernel
theorem dX12_begin_11 : decode cX12_begin 11 = .ok (.iload_n 3, 1) := by decide +kernel
theorem dX12_begin_12 : decode cX12_begin 12 = .ok (.putfield 130, 3) := by decide +kernel
theorem dX12_begin_15 : decode cX12_begin 15 = .ok (.aload_n 0, 1) := by decide +kernel
theorem dX12_begin_16 : decode cX12_begin 16 = .ok (.iconst 0, 1) := by decide +kernel
theorem dX12_begin_17 : decode cX12_begin 17 = .ok (.putfield 133, 3) := by decide +kernel
theorem dX12_begin_20 : decode cX12_begin 20 = .ok (.aload_n 0, 1) := by decide +kernel
theorem dX12_begin_21 : decode cX12_begin 21 = .ok (.iconst (-1), 1) := by decide +kernel
theorem dX12_begin_22 : decode cX12_begin 22 = .ok (.putfield 136, 3) := by decide +kernel
theorem dX12_begin_25 : decode cX12_begin 25 = .ok (.return_, 1) := by decide +kernel
def fn_X12_begin (h : aH) (p0 : Nat) (p1 : Nat) (p2 : Int32) (p3 : Int32) : Option (aH) :=
  (pR h p0 11 12 p1).bind fun h1 =>
  (pI h1 p0 11 13 p2).bind fun h2 =>
  (pI h2 p0 11 14 p3).bind fun h3 =>
  (pI h3 p0 11 15 0).bind fun h4 =>
  (pI h4 p0 11 16 (-1)).bind fun h5 =>
  some h5
set_option maxRecDepth 20000 in
set_option maxHeartbeats 4000000 in
theorem ev_X12_begin {l : Launch} {g : aG} {d : Nat} (hd : 0 ≤ d) (h : aH) (p0 : Nat) (p1 : Nat) (p2 : Int32) (p3 : Int32) (o : aH) (hf : fn_X12_begin h p0 p1 p2 p3 = some o) : EvM l g d yX12_begin cX12_begin 4 none [.ref p0, .ref p1, .int p2, .int p3] h (none, o) := by
  refine EvM.of mk_X12_begin (Nat.le_of_ble_eq_true rfl) ?_
  intro Γ hl hg hq X
  have hd1 : 0 ≤ d := by omega
  have hk : RqV Γ o := hq
  unfold fn_X12_begin at hf
  show Jd Γ (0, 0) 0 [some (.ref p0), some (.ref p1), some (.int p2), some (.int p3)] [] h
  refine r_aload_n (pc := 0) X dX12_begin_0 rfl ?_
  refine r_aload_n (pc := 1) X dX12_begin_1 rfl ?_
  obtain ⟨h1, eh1, hf⟩ := ob hf
  refine r_putR (pc := 2) X dX12_begin_2 fp_X12_124 (fun _ => ⟨rfl, rfl⟩) rfl eh1 ?_
  refine r_aload_n (pc := 5) X dX12_begin_5 rfl ?_
  refine r_iload_n (pc := 6) X dX12_begin_6 rfl ?_
  obtain ⟨h2, eh2, hf⟩ := ob hf
  refine r_putI (pc := 7) X dX12_begin_7 fp_X12_127 rfl eh2 ?_
  refine r_aload_n (pc := 10) X dX12_begin_10 rfl ?_
  refine r_iload_n (pc := 11) X dX12_begin_11 rfl ?_
  obtain ⟨h3, eh3, hf⟩ := ob hf
  refine r_putI (pc := 12) X dX12_begin_12 fp_X12_130 rfl eh3 ?_
  refine r_aload_n (pc := 15) X dX12_begin_15 rfl ?_
  refine r_iconst (pc := 16) X 0 dX12_begin_16 (by decide) ?_
  obtain ⟨h4, eh4, hf⟩ := ob hf
  refine r_putI (pc := 17) X dX12_begin_17 fp_X12_133 rfl eh4 ?_
  refine r_aload_n (pc := 20) X dX12_begin_20 rfl ?_
  refine r_iconst (pc := 21) X (-1) dX12_begin_21 (by decide) ?_
  obtain ⟨h5, eh5, hf⟩ := ob hf
  refine r_putI (pc := 22) X dX12_begin_22 fp_X12_136 rfl eh5 ?_
  obtain rfl := Option.some.inj hf
  exact r_vret (pc := 25) X dX12_begin_25 hk

theorem dX12_beginText_0 : decode cX12_beginText 0 = .ok (.aload_n 0, 1) := by decide +kernel
theorem dX12_beginText_1 : decode cX12_beginText 1 = .ok (.aload_n 0, 1) := by decide +kernel
theorem dX12_beginText_2 : decode cX12_beginText 2 = .ok (.getfield 22, 3) := by decide +kernel
theorem dX12_beginText_5 : decode cX12_beginText 5 = .ok (.aload_n 0, 1) := by decide +kernel
theorem dX12_beginText_6 : decode cX12_beginText 6 = .ok (.getfield 121, 3) := by decide +kernel
theorem dX12_beginText_9 : decode cX12_beginText 9 = .ok (.iload_n 1, 1) := by decide +kernel
theorem dX12_beginText_10 : decode cX12_beginText 10 = .ok (.invokevirtual 139, 3) := by decide +kernel
theorem dX12_beginText_13 : decode cX12_beginText 13 = .ok (.aload_n 0, 1) := by decide +kernel
theorem dX12_beginText_14 : decode cX12_beginText 14 = .ok (.iconst 0, 1) := by decide +kernel
theorem dX12_beginText_15 : decode cX12_beginText 15 = .ok (.putfield 121, 3) := by decide +kernel
theorem dX12_beginText_18 : decode cX12_beginText 18 = .ok (.return_, 1) := by decide +kernel
def fn_X12_beginText (h : aH) (p0 : Nat) (p1 : Int32) : Option (aH) :=
  (gR h p0 11 7).bind fun a1 =>
  (gI h p0 11 8).bind fun x2 =>
  (ck h p0 11).bind fun u3 =>
  (fn_X12_begin h p0 a1 x2 p1).bind fun h4 =>
  (pI h4 p0 11 8 0).bind fun h5 =>
  some h5
set_option maxRecDepth 20000 in
set_option maxHeartbeats 4000000 in
theorem ev_X12_beginText {l : Launch} {g : aG} {d : Nat} (hd : 1 ≤ d) (h : aH) (p0 : Nat) (p1 : Int32) (o : aH) (hf : fn_X12_beginText h p0 p1 = some o) : EvM l g d yX12_beginText cX12_beginText 2 none [.ref p0, .int p1] h (none, o) := by
  refine EvM.of mk_X12_beginText (Nat.le_of_ble_eq_true rfl) ?_
  intro Γ hl hg hq X
  have hd1 : 1 ≤ d := by omega
  have hk : RqV Γ o := hq
  unfold fn_X12_beginText at hf
  show Jd Γ (0, 0) 0 [some (.ref p0), some (.int p1)] [] h
  refine r_aload_n (pc := 0) X dX12_beginText_0 rfl ?_
  refine r_aload_n (pc := 1) X dX12_beginText_1 rfl ?_
  obtain ⟨a1, ea1, hf⟩ := ob hf
  refine r_getR (pc := 2) X dX12_beginText_2 fl_X12_22 rfl ea1 ?_
  refine r_aload_n (pc := 5) X dX12_beginText_5 rfl ?_
  obtain ⟨x2, ex2, hf⟩ := ob hf
  refine r_getI (pc := 6) X dX12_beginText_6 fl_X12_121 rfl ex2 ?_
  refine r_iload_n (pc := 9) X dX12_beginText_9 rfl ?_
  obtain ⟨u3, eu3, hf⟩ := ob hf
  obtain ⟨h4, eh4, hf⟩ := ob hf
  refine r_callVV (pc := 10) X [.ref a1, .int x2, .int p1] dX12_beginText_10 ml_X12_139 vo_X12_begin ⟨Nat.le_refl _, Nat.le_refl _⟩ eu3 (ev_X12_begin (d := d - 1) (by omega) _ _ _ _ _ _ eh4) hd1 rfl (Nat.le_of_ble_eq_true rfl) rfl ?_
  refine r_aload_n (pc := 13) X dX12_beginText_13 rfl ?_
  refine r_iconst (pc := 14) X 0 dX12_beginText_14 (by decide) ?_
  obtain ⟨h5, eh5, hf⟩ := ob hf
  refine r_putI (pc := 15) X dX12_beginText_15 fp_X12_121 rfl eh5 ?_
  obtain rfl := Option.some.inj hf
  exact r_vret (pc := 18) X dX12_beginText_18 hk

theorem dX12_here_0 : decode cX12_here 0 = .ok (.aload_n 0, 1) := by decide +kernel
theorem dX12_here_1 : decode cX12_here 1 = .ok (.getfield 133, 3) := by decide +kernel
theorem dX12_here_4 : decode cX12_here 4 = .ok (.aload_n 0, 1) := by decide +kernel
theorem dX12_here_5 : decode cX12_here 5 = .ok (.getfield 127, 3) := by decide +kernel
theorem dX12_here_8 : decode cX12_here 8 = .ok (.if_icmp .ge 30, 3) := by decide +kernel
theorem dX12_here_11 : decode cX12_here 11 = .ok (.aload_n 0, 1) := by decide +kernel
theorem dX12_here_12 : decode cX12_here 12 = .ok (.getfield 133, 3) := by decide +kernel
theorem dX12_here_15 : decode cX12_here 15 = .ok (.aload_n 0, 1) := by decide +kernel
theorem dX12_here_16 : decode cX12_here 16 = .ok (.getfield 130, 3) := by decide +kernel
theorem dX12_here_19 : decode cX12_here 19 = .ok (.if_icmp .ge 19, 3) := by decide +kernel
theorem dX12_here_22 : decode cX12_here 22 = .ok (.aload_n 0, 1) := by decide +kernel
theorem dX12_here_23 : decode cX12_here 23 = .ok (.getfield 124, 3) := by decide +kernel
theorem dX12_here_26 : decode cX12_here 26 = .ok (.aload_n 0, 1) := by decide +kernel
theorem dX12_here_27 : decode cX12_here 27 = .ok (.getfield 133, 3) := by decide +kernel
theorem dX12_here_30 : decode cX12_here 30 = .ok (.baload, 1) := by decide +kernel
theorem dX12_here_31 : decode cX12_here 31 = .ok (.sipush 255, 3) := by decide +kernel
theorem dX12_here_34 : decode cX12_here 34 = .ok (.iand, 1) := by decide +kernel
theorem dX12_here_35 : decode cX12_here 35 = .ok (.goto 4, 3) := by decide +kernel
theorem dX12_here_38 : decode cX12_here 38 = .ok (.iconst (-1), 1) := by decide +kernel
theorem dX12_here_39 : decode cX12_here 39 = .ok (.ireturn, 1) := by decide +kernel
def fn_X12_here (h : aH) (p0 : Nat) : Option (Int32) :=
  (gI h p0 11 15).bind fun x1 =>
  (gI h p0 11 13).bind fun x2 =>
  if x1 < x2 then
    (gI h p0 11 15).bind fun x3 =>
    (gI h p0 11 14).bind fun x4 =>
    if x3 < x4 then
      (gR h p0 11 12).bind fun a5 =>
      (gI h p0 11 15).bind fun x6 =>
      (aI h a5 12 x6).bind fun x7 =>
      some (x7 &&& 255)
    else
      some (-1)
  else
    some (-1)
set_option maxRecDepth 20000 in
set_option maxHeartbeats 4000000 in
theorem ev_X12_here {l : Launch} {g : aG} {d : Nat} (hd : 0 ≤ d) (h : aH) (p0 : Nat) (o : Int32) (hf : fn_X12_here h p0 = some o) : EvM l g d yX12_here cX12_here 1 (some .int) [.ref p0] h (some (.int o), h) := by
  refine EvM.of mk_X12_here (Nat.le_of_ble_eq_true rfl) ?_
  intro Γ hl hg hq X
  have hd1 : 0 ≤ d := by omega
  have hk : RpI h Γ o := hq
  unfold fn_X12_here at hf
  show Jd Γ (0, 0) 0 [some (.ref p0)] [] h
  refine r_aload_n (pc := 0) X dX12_here_0 rfl ?_
  obtain ⟨x1, ex1, hf⟩ := ob hf
  refine r_getI (pc := 1) X dX12_here_1 fl_X12_133 rfl ex1 ?_
  refine r_aload_n (pc := 4) X dX12_here_4 rfl ?_
  obtain ⟨x2, ex2, hf⟩ := ob hf
  refine r_getI (pc := 5) X dX12_here_5 fl_X12_127 rfl ex2 ?_
  refine r_icmp_ge (pc := 8) X 38 dX12_here_8 (by decide) (fun c9 => ?_) (fun c9 => ?_)
  · rw [if_neg c9] at hf
    refine r_iconst (pc := 38) X (-1) dX12_here_38 (by decide) ?_
    obtain rfl := Option.some.inj hf
    exact r_iret (pc := 39) X dX12_here_39 hk
  · rw [if_pos c9] at hf
    refine r_aload_n (pc := 11) X dX12_here_11 rfl ?_
    obtain ⟨x3, ex3, hf⟩ := ob hf
    refine r_getI (pc := 12) X dX12_here_12 fl_X12_133 rfl ex3 ?_
    refine r_aload_n (pc := 15) X dX12_here_15 rfl ?_
    obtain ⟨x4, ex4, hf⟩ := ob hf
    refine r_getI (pc := 16) X dX12_here_16 fl_X12_130 rfl ex4 ?_
    refine r_icmp_ge (pc := 19) X 38 dX12_here_19 (by decide) (fun c8 => ?_) (fun c8 => ?_)
    · rw [if_neg c8] at hf
      refine r_iconst (pc := 38) X (-1) dX12_here_38 (by decide) ?_
      obtain rfl := Option.some.inj hf
      exact r_iret (pc := 39) X dX12_here_39 hk
    · rw [if_pos c8] at hf
      refine r_aload_n (pc := 22) X dX12_here_22 rfl ?_
      obtain ⟨a5, ea5, hf⟩ := ob hf
      refine r_getR (pc := 23) X dX12_here_23 fl_X12_124 rfl ea5 ?_
      refine r_aload_n (pc := 26) X dX12_here_26 rfl ?_
      obtain ⟨x6, ex6, hf⟩ := ob hf
      refine r_getI (pc := 27) X dX12_here_27 fl_X12_133 rfl ex6 ?_
      obtain ⟨x7, ex7, hf⟩ := ob hf
      refine r_bald (pc := 30) X dX12_here_30 ex7 ?_
      refine r_sipush (pc := 31) X 255 dX12_here_31 (by decide) ?_
      refine r_iand (pc := 34) X dX12_here_34 ?_
      refine r_goto (pc := 35) X 39 dX12_here_35 (by decide) ?_
      obtain rfl := Option.some.inj hf
      exact r_iret (pc := 39) X dX12_here_39 hk

theorem dX12_fine_0 : decode cX12_fine 0 = .ok (.aload_n 0, 1) := by decide +kernel
theorem dX12_fine_1 : decode cX12_fine 1 = .ok (.getfield 136, 3) := by decide +kernel
theorem dX12_fine_4 : decode cX12_fine 4 = .ok (.iconst (-1), 1) := by decide +kernel
theorem dX12_fine_5 : decode cX12_fine 5 = .ok (.if_icmp .ne 7, 3) := by decide +kernel
theorem dX12_fine_8 : decode cX12_fine 8 = .ok (.iconst 1, 1) := by decide +kernel
theorem dX12_fine_9 : decode cX12_fine 9 = .ok (.goto 4, 3) := by decide +kernel
theorem dX12_fine_12 : decode cX12_fine 12 = .ok (.iconst 0, 1) := by decide +kernel
theorem dX12_fine_13 : decode cX12_fine 13 = .ok (.ireturn, 1) := by decide +kernel
def fn_X12_fine (h : aH) (p0 : Nat) : Option (Int32) :=
  (gI h p0 11 16).bind fun x1 =>
  if x1 = (-1) then
    some 1
  else
    some 0
set_option maxRecDepth 20000 in
set_option maxHeartbeats 4000000 in
theorem ev_X12_fine {l : Launch} {g : aG} {d : Nat} (hd : 0 ≤ d) (h : aH) (p0 : Nat) (o : Int32) (hf : fn_X12_fine h p0 = some o) : EvM l g d yX12_fine cX12_fine 1 (some .boolean) [.ref p0] h (some (.int o), h) := by
  refine EvM.of mk_X12_fine (Nat.le_of_ble_eq_true rfl) ?_
  intro Γ hl hg hq X
  have hd1 : 0 ≤ d := by omega
  have hk : RpI h Γ o := hq
  unfold fn_X12_fine at hf
  show Jd Γ (0, 0) 0 [some (.ref p0)] [] h
  refine r_aload_n (pc := 0) X dX12_fine_0 rfl ?_
  obtain ⟨x1, ex1, hf⟩ := ob hf
  refine r_getI (pc := 1) X dX12_fine_1 fl_X12_136 rfl ex1 ?_
  refine r_iconst (pc := 4) X (-1) dX12_fine_4 (by decide) ?_
  refine r_icmp_ne (pc := 5) X 12 dX12_fine_5 (by decide) (fun c2 => ?_) (fun c2 => ?_)
  · rw [if_neg c2] at hf
    refine r_iconst (pc := 12) X 0 dX12_fine_12 (by decide) ?_
    obtain rfl := Option.some.inj hf
    exact r_zret (pc := 13) X dX12_fine_13 (Or.inl rfl) hk
  · rw [if_pos c2] at hf
    refine r_iconst (pc := 8) X 1 dX12_fine_8 (by decide) ?_
    refine r_goto (pc := 9) X 13 dX12_fine_9 (by decide) ?_
    obtain rfl := Option.some.inj hf
    exact r_zret (pc := 13) X dX12_fine_13 (Or.inr rfl) hk

theorem dX12_fault_0 : decode cX12_fault 0 = .ok (.aload_n 0, 1) := by decide +kernel
theorem dX12_fault_1 : decode cX12_fault 1 = .ok (.invokevirtual 143, 3) := by decide +kernel
theorem dX12_fault_4 : decode cX12_fault 4 = .ok (.ifCond .eq 8, 3) := by decide +kernel
theorem dX12_fault_7 : decode cX12_fault 7 = .ok (.aload_n 0, 1) := by decide +kernel
theorem dX12_fault_8 : decode cX12_fault 8 = .ok (.iload_n 1, 1) := by decide +kernel
theorem dX12_fault_9 : decode cX12_fault 9 = .ok (.putfield 136, 3) := by decide +kernel
theorem dX12_fault_12 : decode cX12_fault 12 = .ok (.return_, 1) := by decide +kernel
def fn_X12_fault (h : aH) (p0 : Nat) (p1 : Int32) : Option (aH) :=
  (ck h p0 11).bind fun u1 =>
  (fn_X12_fine h p0).bind fun x2 =>
  if x2 = 0 then
    some h
  else
    (pI h p0 11 16 p1).bind fun h3 =>
    some h3
set_option maxRecDepth 20000 in
set_option maxHeartbeats 4000000 in
theorem ev_X12_fault {l : Launch} {g : aG} {d : Nat} (hd : 1 ≤ d) (h : aH) (p0 : Nat) (p1 : Int32) (o : aH) (hf : fn_X12_fault h p0 p1 = some o) : EvM l g d yX12_fault cX12_fault 2 none [.ref p0, .int p1] h (none, o) := by
  refine EvM.of mk_X12_fault (Nat.le_of_ble_eq_true rfl) ?_
  intro Γ hl hg hq X
  have hd1 : 1 ≤ d := by omega
  have hk : RqV Γ o := hq
  unfold fn_X12_fault at hf
  show Jd Γ (0, 0) 0 [some (.ref p0), some (.int p1)] [] h
  refine r_aload_n (pc := 0) X dX12_fault_0 rfl ?_
  obtain ⟨u1, eu1, hf⟩ := ob hf
  obtain ⟨x2, ex2, hf⟩ := ob hf
  refine r_callVI (pc := 1) X [] dX12_fault_1 ml_X12_143 vo_X12_fine ⟨Nat.le_refl _, Nat.le_refl _⟩ eu1 (ev_X12_fine (d := d - 1) (by omega) _ _ _ ex2) hd1 rfl (Nat.le_of_ble_eq_true rfl) rfl ?_
  refine r_if_eq (pc := 4) X 12 dX12_fault_4 (by decide) (fun c4 => ?_) (fun c4 => ?_)
  · rw [if_pos c4] at hf
    obtain rfl := Option.some.inj hf
    exact r_vret (pc := 12) X dX12_fault_12 hk
  · rw [if_neg c4] at hf
    refine r_aload_n (pc := 7) X dX12_fault_7 rfl ?_
    refine r_iload_n (pc := 8) X dX12_fault_8 rfl ?_
    obtain ⟨h3, eh3, hf⟩ := ob hf
    refine r_putI (pc := 9) X dX12_fault_9 fp_X12_136 rfl eh3 ?_
    obtain rfl := Option.some.inj hf
    exact r_vret (pc := 12) X dX12_fault_12 hk

theorem dX12_passes_0 : decode cX12_passes 0 = .ok (.aload_n 0, 1) := by decide +kernel
theorem dX12_passes_1 : decode cX12_passes 1 = .ok (.invokevirtual 143, 3) := by decide +kernel
theorem dX12_passes_4 : decode cX12_passes 4 = .ok (.ifCond .eq 11, 3) := by decide +kernel
theorem dX12_passes_7 : decode cX12_passes 7 = .ok (.aload_n 0, 1) := by decide +kernel
theorem dX12_passes_8 : decode cX12_passes 8 = .ok (.invokevirtual 147, 3) := by decide +kernel
theorem dX12_passes_11 : decode cX12_passes 11 = .ok (.iload_n 1, 1) := by decide +kernel
theorem dX12_passes_12 : decode cX12_passes 12 = .ok (.if_icmp .eq 5, 3) := by decide +kernel
theorem dX12_passes_15 : decode cX12_passes 15 = .ok (.iconst 0, 1) := by decide +kernel
theorem dX12_passes_16 : decode cX12_passes 16 = .ok (.ireturn, 1) := by decide +kernel
theorem dX12_passes_17 : decode cX12_passes 17 = .ok (.aload_n 0, 1) := by decide +kernel
theorem dX12_passes_18 : decode cX12_passes 18 = .ok (.dup, 1) := by decide +kernel
theorem dX12_passes_19 : decode cX12_passes 19 = .ok (.getfield 133, 3) := by decide +kernel
theorem dX12_passes_22 : decode cX12_passes 22 = .ok (.iconst 1, 1) := by decide +kernel
theorem dX12_passes_23 : decode cX12_passes 23 = .ok (.iadd, 1) := by decide +kernel
theorem dX12_passes_24 : decode cX12_passes 24 = .ok (.putfield 133, 3) := by decide +kernel
theorem dX12_passes_27 : decode cX12_passes 27 = .ok (.iconst 1, 1) := by decide +kernel
theorem dX12_passes_28 : decode cX12_passes 28 = .ok (.ireturn, 1) := by decide +kernel
def fn_X12_passes (h : aH) (p0 : Nat) (p1 : Int32) : Option (Int32 × aH) :=
  (ck h p0 11).bind fun u1 =>
  (fn_X12_fine h p0).bind fun x2 =>
  if x2 = 0 then
    some (0, h)
  else
    (ck h p0 11).bind fun u3 =>
    (fn_X12_here h p0).bind fun x4 =>
    if x4 = p1 then
      (gI h p0 11 15).bind fun x5 =>
      (pI h p0 11 15 (x5 + 1)).bind fun h6 =>
      some (1, h6)
    else
      some (0, h)
set_option maxRecDepth 20000 in
set_option maxHeartbeats 4000000 in
theorem ev_X12_passes {l : Launch} {g : aG} {d : Nat} (hd : 1 ≤ d) (h : aH) (p0 : Nat) (p1 : Int32) (o : Int32 × aH) (hf : fn_X12_passes h p0 p1 = some o) : EvM l g d yX12_passes cX12_passes 2 (some .boolean) [.ref p0, .int p1] h (some (.int o.1), o.2) := by
  refine EvM.of mk_X12_passes (Nat.le_of_ble_eq_true rfl) ?_
  intro Γ hl hg hq X
  have hd1 : 1 ≤ d := by omega
  have hk : RqI Γ o := hq
  unfold fn_X12_passes at hf
  show Jd Γ (0, 0) 0 [some (.ref p0), some (.int p1)] [] h
  refine r_aload_n (pc := 0) X dX12_passes_0 rfl ?_
  obtain ⟨u1, eu1, hf⟩ := ob hf
  obtain ⟨x2, ex2, hf⟩ := ob hf
  refine r_callVI (pc := 1) X [] dX12_passes_1 ml_X12_143 vo_X12_fine ⟨Nat.le_refl _, Nat.le_refl _⟩ eu1 (ev_X12_fine (d := d - 1) (by omega) _ _ _ ex2) hd1 rfl (Nat.le_of_ble_eq_true rfl) rfl ?_
  refine r_if_eq (pc := 4) X 15 dX12_passes_4 (by decide) (fun c8 => ?_) (fun c8 => ?_)
  · rw [if_pos c8] at hf
    refine r_iconst (pc := 15) X 0 dX12_passes_15 (by decide) ?_
    obtain rfl := Option.some.inj hf
    exact r_zret (pc := 16) X dX12_passes_16 (Or.inl rfl) hk
  · rw [if_neg c8] at hf
    refine r_aload_n (pc := 7) X dX12_passes_7 rfl ?_
    obtain ⟨u3, eu3, hf⟩ := ob hf
    obtain ⟨x4, ex4, hf⟩ := ob hf
    refine r_callVI (pc := 8) X [] dX12_passes_8 ml_X12_147 vo_X12_here ⟨Nat.le_refl _, Nat.le_refl _⟩ eu3 (ev_X12_here (d := d - 1) (by omega) _ _ _ ex4) hd1 rfl (Nat.le_of_ble_eq_true rfl) rfl ?_
    refine r_iload_n (pc := 11) X dX12_passes_11 rfl ?_
    refine r_icmp_eq (pc := 12) X 17 dX12_passes_12 (by decide) (fun c7 => ?_) (fun c7 => ?_)
    · rw [if_pos c7] at hf
      refine r_aload_n (pc := 17) X dX12_passes_17 rfl ?_
      refine r_dup (pc := 18) X dX12_passes_18 rfl ?_
      obtain ⟨x5, ex5, hf⟩ := ob hf
      refine r_getI (pc := 19) X dX12_passes_19 fl_X12_133 rfl ex5 ?_
      refine r_iconst (pc := 22) X 1 dX12_passes_22 (by decide) ?_
      refine r_iadd (pc := 23) X dX12_passes_23 ?_
      obtain ⟨h6, eh6, hf⟩ := ob hf
      refine r_putI (pc := 24) X dX12_passes_24 fp_X12_133 rfl eh6 ?_
      refine r_iconst (pc := 27) X 1 dX12_passes_27 (by decide) ?_
      obtain rfl := Option.some.inj hf
      exact r_zret (pc := 28) X dX12_passes_28 (Or.inr rfl) hk
    · rw [if_neg c7] at hf
      refine r_iconst (pc := 15) X 0 dX12_passes_15 (by decide) ?_
      obtain rfl := Option.some.inj hf
      exact r_zret (pc := 16) X dX12_passes_16 (Or.inl rfl) hk

theorem dX12_need_0 : decode cX12_need 0 = .ok (.aload_n 0, 1) := by decide +kernel
theorem dX12_need_1 : decode cX12_need 1 = .ok (.iload_n 1, 1) := by decide +kernel
theorem dX12_need_2 : decode cX12_need 2 = .ok (.invokevirtual 151, 3) := by decide +kernel
theorem dX12_need_5 : decode cX12_need 5 = .ok (.ifCond .ne 11, 3) := by decide +kernel
theorem dX12_need_8 : decode cX12_need 8 = .ok (.aload_n 0, 1) := by decide +kernel
theorem dX12_need_9 : decode cX12_need 9 = .ok (.aload_n 0, 1) := by decide +kernel
theorem dX12_need_10 : decode cX12_need 10 = .ok (.getfield 133, 3) := by decide +kernel
theorem dX12_need_13 : decode cX12_need 13 = .ok (.invokevirtual 155, 3) := by decide +kernel
theorem dX12_need_16 : decode cX12_need 16 = .ok (.return_, 1) := by decide +kernel
def fn_X12_need (h : aH) (p0 : Nat) (p1 : Int32) : Option (aH) :=
  (ck h p0 11).bind fun u1 =>
  (fn_X12_passes h p0 p1).bind fun o2 =>
  if o2.1 = 0 then
    (gI o2.2 p0 11 15).bind fun x3 =>
    (ck o2.2 p0 11).bind fun u4 =>
    (fn_X12_fault o2.2 p0 x3).bind fun h5 =>
    some h5
  else
    some o2.2
set_option maxRecDepth 20000 in
set_option maxHeartbeats 4000000 in
theorem ev_X12_need {l : Launch} {g : aG} {d : Nat} (hd : 2 ≤ d) (h : aH) (p0 : Nat) (p1 : Int32) (o : aH) (hf : fn_X12_need h p0 p1 = some o) : EvM l g d yX12_need cX12_need 2 none [.ref p0, .int p1] h (none, o) := by
  refine EvM.of mk_X12_need (Nat.le_of_ble_eq_true rfl) ?_
  intro Γ hl hg hq X
  have hd1 : 1 ≤ d := by omega
  have hk : RqV Γ o := hq
  unfold fn_X12_need at hf
  show Jd Γ (0, 0) 0 [some (.ref p0), some (.int p1)] [] h
  refine r_aload_n (pc := 0) X dX12_need_0 rfl ?_
  refine r_iload_n (pc := 1) X dX12_need_1 rfl ?_
  obtain ⟨u1, eu1, hf⟩ := ob hf
  obtain ⟨o2, eo2, hf⟩ := ob hf
  refine r_callVI (pc := 2) X [.int p1] dX12_need_2 ml_X12_151 vo_X12_passes ⟨Nat.le_refl _, Nat.le_refl _⟩ eu1 (ev_X12_passes (d := d - 1) (by omega) _ _ _ _ eo2) hd1 rfl (Nat.le_of_ble_eq_true rfl) rfl ?_
  refine r_if_ne (pc := 5) X 16 dX12_need_5 (by decide) (fun c6 => ?_) (fun c6 => ?_)
  · rw [if_neg c6] at hf
    obtain rfl := Option.some.inj hf
    exact r_vret (pc := 16) X dX12_need_16 hk
  · rw [if_pos c6] at hf
    refine r_aload_n (pc := 8) X dX12_need_8 rfl ?_
    refine r_aload_n (pc := 9) X dX12_need_9 rfl ?_
    obtain ⟨x3, ex3, hf⟩ := ob hf
    refine r_getI (pc := 10) X dX12_need_10 fl_X12_133 rfl ex3 ?_
    obtain ⟨u4, eu4, hf⟩ := ob hf
    obtain ⟨h5, eh5, hf⟩ := ob hf
    refine r_callVV (pc := 13) X [.int x3] dX12_need_13 ml_X12_155 vo_X12_fault ⟨Nat.le_refl _, Nat.le_refl _⟩ eu4 (ev_X12_fault (d := d - 1) (by omega) _ _ _ _ eh5) hd1 rfl (Nat.le_of_ble_eq_true rfl) rfl ?_
    obtain rfl := Option.some.inj hf
    exact r_vret (pc := 16) X dX12_need_16 hk

theorem dX12_oneOf_0 : decode cX12_oneOf 0 = .ok (.aload_n 0, 1) := by decide +kernel
theorem dX12_oneOf_1 : decode cX12_oneOf 1 = .ok (.invokevirtual 143, 3) := by decide +kernel
theorem dX12_oneOf_4 : decode cX12_oneOf 4 = .ok (.ifCond .ne 5, 3) := by decide +kernel
theorem dX12_oneOf_7 : decode cX12_oneOf 7 = .ok (.iconst 0, 1) := by decide +kernel
theorem dX12_oneOf_8 : decode cX12_oneOf 8 = .ok (.ireturn, 1) := by decide +kernel
theorem dX12_oneOf_9 : decode cX12_oneOf 9 = .ok (.aload_n 0, 1) := by decide +kernel
theorem dX12_oneOf_10 : decode cX12_oneOf 10 = .ok (.invokevirtual 147, 3) := by decide +kernel
theorem dX12_oneOf_13 : decode cX12_oneOf 13 = .ok (.iload_n 1, 1) := by decide +kernel
theorem dX12_oneOf_14 : decode cX12_oneOf 14 = .ok (.iload_n 1, 1) := by decide +kernel
theorem dX12_oneOf_15 : decode cX12_oneOf 15 = .ok (.iload_n 2, 1) := by decide +kernel
theorem dX12_oneOf_16 : decode cX12_oneOf 16 = .ok (.iadd, 1) := by decide +kernel
theorem dX12_oneOf_17 : decode cX12_oneOf 17 = .ok (.iconst 1, 1) := by decide +kernel
theorem dX12_oneOf_18 : decode cX12_oneOf 18 = .ok (.isub, 1) := by decide +kernel
theorem dX12_oneOf_19 : decode cX12_oneOf 19 = .ok (.invokestatic 110, 3) := by decide +kernel
theorem dX12_oneOf_22 : decode cX12_oneOf 22 = .ok (.ifCond .ne 13, 3) := by decide +kernel
theorem dX12_oneOf_25 : decode cX12_oneOf 25 = .ok (.aload_n 0, 1) := by decide +kernel
theorem dX12_oneOf_26 : decode cX12_oneOf 26 = .ok (.aload_n 0, 1) := by decide +kernel
theorem dX12_oneOf_27 : decode cX12_oneOf 27 = .ok (.getfield 133, 3) := by decide +kernel
theorem dX12_oneOf_30 : decode cX12_oneOf 30 = .ok (.invokevirtual 155, 3) := by decide +kernel
theorem dX12_oneOf_33 : decode cX12_oneOf 33 = .ok (.iconst 0, 1) := by decide +kernel
theorem dX12_oneOf_34 : decode cX12_oneOf 34 = .ok (.ireturn, 1) := by decide +kernel
theorem dX12_oneOf_35 : decode cX12_oneOf 35 = .ok (.aload_n 0, 1) := by decide +kernel
theorem dX12_oneOf_36 : decode cX12_oneOf 36 = .ok (.dup, 1) := by decide +kernel
theorem dX12_oneOf_37 : decode cX12_oneOf 37 = .ok (.getfield 133, 3) := by decide +kernel
theorem dX12_oneOf_40 : decode cX12_oneOf 40 = .ok (.iconst 1, 1) := by decide +kernel
theorem dX12_oneOf_41 : decode cX12_oneOf 41 = .ok (.iadd, 1) := by decide +kernel
theorem dX12_oneOf_42 : decode cX12_oneOf 42 = .ok (.putfield 133, 3) := by decide +kernel
theorem dX12_oneOf_45 : decode cX12_oneOf 45 = .ok (.aload_n 0, 1) := by decide +kernel
theorem dX12_oneOf_46 : decode cX12_oneOf 46 = .ok (.getfield 124, 3) := by decide +kernel
theorem dX12_oneOf_49 : decode cX12_oneOf 49 = .ok (.aload_n 0, 1) := by decide +kernel
theorem dX12_oneOf_50 : decode cX12_oneOf 50 = .ok (.getfield 133, 3) := by decide +kernel
theorem dX12_oneOf_53 : decode cX12_oneOf 53 = .ok (.iconst 1, 1) := by decide +kernel
theorem dX12_oneOf_54 : decode cX12_oneOf 54 = .ok (.isub, 1) := by decide +kernel
theorem dX12_oneOf_55 : decode cX12_oneOf 55 = .ok (.baload, 1) := by decide +kernel
theorem dX12_oneOf_56 : decode cX12_oneOf 56 = .ok (.iload_n 1, 1) := by decide +kernel
theorem dX12_oneOf_57 : decode cX12_oneOf 57 = .ok (.isub, 1) := by decide +kernel
theorem dX12_oneOf_58 : decode cX12_oneOf 58 = .ok (.ireturn, 1) := by decide +kernel
def fn_X12_oneOf (h : aH) (p0 : Nat) (p1 : Int32) (p2 : Int32) : Option (Int32 × aH) :=
  (ck h p0 11).bind fun u1 =>
  (fn_X12_fine h p0).bind fun x2 =>
  if x2 = 0 then
    some (0, h)
  else
    (ck h p0 11).bind fun u3 =>
    (fn_X12_here h p0).bind fun x4 =>
    (fn_X12_in h x4 p1 ((p1 + p2) - 1)).bind fun x5 =>
    if x5 = 0 then
      (gI h p0 11 15).bind fun x11 =>
      (ck h p0 11).bind fun u12 =>
      (fn_X12_fault h p0 x11).bind fun h13 =>
      some (0, h13)
    else
      (gI h p0 11 15).bind fun x6 =>
      (pI h p0 11 15 (x6 + 1)).bind fun h7 =>
      (gR h7 p0 11 12).bind fun a8 =>
      (gI h7 p0 11 15).bind fun x9 =>
      (aI h7 a8 12 (x9 - 1)).bind fun x10 =>
      some ((x10 - p1), h7)
set_option maxRecDepth 20000 in
set_option maxHeartbeats 4000000 in
theorem ev_X12_oneOf {l : Launch} {g : aG} {d : Nat} (hd : 2 ≤ d) (h : aH) (p0 : Nat) (p1 : Int32) (p2 : Int32) (o : Int32 × aH) (hf : fn_X12_oneOf h p0 p1 p2 = some o) : EvM l g d yX12_oneOf cX12_oneOf 3 (some .int) [.ref p0, .int p1, .int p2] h (some (.int o.1), o.2) := by
  refine EvM.of mk_X12_oneOf (Nat.le_of_ble_eq_true rfl) ?_
  intro Γ hl hg hq X
  have hd1 : 1 ≤ d := by omega
  have hk : RqI Γ o := hq
  unfold fn_X12_oneOf at hf
  show Jd Γ (0, 0) 0 [some (.ref p0), some (.int p1), some (.int p2)] [] h
  refine r_aload_n (pc := 0) X dX12_oneOf_0 rfl ?_
  obtain ⟨u1, eu1, hf⟩ := ob hf
  obtain ⟨x2, ex2, hf⟩ := ob hf
  refine r_callVI (pc := 1) X [] dX12_oneOf_1 ml_X12_143 vo_X12_fine ⟨Nat.le_refl _, Nat.le_refl _⟩ eu1 (ev_X12_fine (d := d - 1) (by omega) _ _ _ ex2) hd1 rfl (Nat.le_of_ble_eq_true rfl) rfl ?_
  refine r_if_ne (pc := 4) X 9 dX12_oneOf_4 (by decide) (fun c15 => ?_) (fun c15 => ?_)
  · rw [if_neg c15] at hf
    refine r_aload_n (pc := 9) X dX12_oneOf_9 rfl ?_
    obtain ⟨u3, eu3, hf⟩ := ob hf
    obtain ⟨x4, ex4, hf⟩ := ob hf
    refine r_callVI (pc := 10) X [] dX12_oneOf_10 ml_X12_147 vo_X12_here ⟨Nat.le_refl _, Nat.le_refl _⟩ eu3 (ev_X12_here (d := d - 1) (by omega) _ _ _ ex4) hd1 rfl (Nat.le_of_ble_eq_true rfl) rfl ?_
    refine r_iload_n (pc := 13) X dX12_oneOf_13 rfl ?_
    refine r_iload_n (pc := 14) X dX12_oneOf_14 rfl ?_
    refine r_iload_n (pc := 15) X dX12_oneOf_15 rfl ?_
    refine r_iadd (pc := 16) X dX12_oneOf_16 ?_
    refine r_iconst (pc := 17) X 1 dX12_oneOf_17 (by decide) ?_
    refine r_isub (pc := 18) X dX12_oneOf_18 ?_
    obtain ⟨x5, ex5, hf⟩ := ob hf
    refine r_callSI (pc := 19) X [.int x4, .int p1, .int ((p1 + p2) - 1)] dX12_oneOf_19 ml_X12_110 so_X12_in ⟨Nat.le_refl _, Nat.le_refl _⟩ (ev_X12_in (d := d - 1) (by omega) _ _ _ _ _ ex5) hd1 rfl (Nat.le_of_ble_eq_true rfl) rfl ?_
    refine r_if_ne (pc := 22) X 35 dX12_oneOf_22 (by decide) (fun c14 => ?_) (fun c14 => ?_)
    · rw [if_neg c14] at hf
      refine r_aload_n (pc := 35) X dX12_oneOf_35 rfl ?_
      refine r_dup (pc := 36) X dX12_oneOf_36 rfl ?_
      obtain ⟨x6, ex6, hf⟩ := ob hf
      refine r_getI (pc := 37) X dX12_oneOf_37 fl_X12_133 rfl ex6 ?_
      refine r_iconst (pc := 40) X 1 dX12_oneOf_40 (by decide) ?_
      refine r_iadd (pc := 41) X dX12_oneOf_41 ?_
      obtain ⟨h7, eh7, hf⟩ := ob hf
      refine r_putI (pc := 42) X dX12_oneOf_42 fp_X12_133 rfl eh7 ?_
      refine r_aload_n (pc := 45) X dX12_oneOf_45 rfl ?_
      obtain ⟨a8, ea8, hf⟩ := ob hf
      refine r_getR (pc := 46) X dX12_oneOf_46 fl_X12_124 rfl ea8 ?_
      refine r_aload_n (pc := 49) X dX12_oneOf_49 rfl ?_
      obtain ⟨x9, ex9, hf⟩ := ob hf
      refine r_getI (pc := 50) X dX12_oneOf_50 fl_X12_133 rfl ex9 ?_
      refine r_iconst (pc := 53) X 1 dX12_oneOf_53 (by decide) ?_
      refine r_isub (pc := 54) X dX12_oneOf_54 ?_
      obtain ⟨x10, ex10, hf⟩ := ob hf
      refine r_bald (pc := 55) X dX12_oneOf_55 ex10 ?_
      refine r_iload_n (pc := 56) X dX12_oneOf_56 rfl ?_
      refine r_isub (pc := 57) X dX12_oneOf_57 ?_
      obtain rfl := Option.some.inj hf
      exact r_iret (pc := 58) X dX12_oneOf_58 hk
    · rw [if_pos c14] at hf
      refine r_aload_n (pc := 25) X dX12_oneOf_25 rfl ?_
      refine r_aload_n (pc := 26) X dX12_oneOf_26 rfl ?_
      obtain ⟨x11, ex11, hf⟩ := ob hf
      refine r_getI (pc := 27) X dX12_oneOf_27 fl_X12_133 rfl ex11 ?_
      obtain ⟨u12, eu12, hf⟩ := ob hf
      obtain ⟨h13, eh13, hf⟩ := ob hf
      refine r_callVV (pc := 30) X [.int x11] dX12_oneOf_30 ml_X12_155 vo_X12_fault ⟨Nat.le_refl _, Nat.le_refl _⟩ eu12 (ev_X12_fault (d := d - 1) (by omega) _ _ _ _ eh13) hd1 rfl (Nat.le_of_ble_eq_true rfl) rfl ?_
      refine r_iconst (pc := 33) X 0 dX12_oneOf_33 (by decide) ?_
      obtain rfl := Option.some.inj hf
      exact r_iret (pc := 34) X dX12_oneOf_34 hk
  · rw [if_pos c15] at hf
    refine r_iconst (pc := 7) X 0 dX12_oneOf_7 (by decide) ?_
    obtain rfl := Option.some.inj hf
    exact r_iret (pc := 8) X dX12_oneOf_8 hk

theorem dX12_number_0 : decode cX12_number 0 = .ok (.aload_n 0, 1) := by decide +kernel
theorem dX12_number_1 : decode cX12_number 1 = .ok (.bipush 48, 2) := by decide +kernel
theorem dX12_number_3 : decode cX12_number 3 = .ok (.bipush 10, 2) := by decide +kernel
theorem dX12_number_5 : decode cX12_number 5 = .ok (.invokevirtual 159, 3) := by decide +kernel
theorem dX12_number_8 : decode cX12_number 8 = .ok (.istore_n 2, 1) := by decide +kernel
theorem dX12_number_9 : decode cX12_number 9 = .ok (.iconst 1, 1) := by decide +kernel
theorem dX12_number_10 : decode cX12_number 10 = .ok (.istore_n 3, 1) := by decide +kernel
theorem dX12_number_11 : decode cX12_number 11 = .ok (.iload_n 3, 1) := by decide +kernel
theorem dX12_number_12 : decode cX12_number 12 = .ok (.iload_n 1, 1) := by decide +kernel
theorem dX12_number_13 : decode cX12_number 13 = .ok (.if_icmp .ge 44, 3) := by decide +kernel
theorem dX12_number_16 : decode cX12_number 16 = .ok (.aload_n 0, 1) := by decide +kernel
theorem dX12_number_17 : decode cX12_number 17 = .ok (.invokevirtual 143, 3) := by decide +kernel
theorem dX12_number_20 : decode cX12_number 20 = .ok (.ifCond .eq 37, 3) := by decide +kernel
theorem dX12_number_23 : decode cX12_number 23 = .ok (.aload_n 0, 1) := by decide +kernel
theorem dX12_number_24 : decode cX12_number 24 = .ok (.invokevirtual 147, 3) := by decide +kernel
theorem dX12_number_27 : decode cX12_number 27 = .ok (.bipush 48, 2) := by decide +kernel
theorem dX12_number_29 : decode cX12_number 29 = .ok (.bipush 57, 2) := by decide +kernel
theorem dX12_number_31 : decode cX12_number 31 = .ok (.invokestatic 110, 3) := by decide +kernel
theorem dX12_number_34 : decode cX12_number 34 = .ok (.ifCond .eq 23, 3) := by decide +kernel
theorem dX12_number_37 : decode cX12_number 37 = .ok (.bipush 10, 2) := by decide +kernel
theorem dX12_number_39 : decode cX12_number 39 = .ok (.iload_n 2, 1) := by decide +kernel
theorem dX12_number_40 : decode cX12_number 40 = .ok (.imul, 1) := by decide +kernel
theorem dX12_number_41 : decode cX12_number 41 = .ok (.aload_n 0, 1) := by decide +kernel
theorem dX12_number_42 : decode cX12_number 42 = .ok (.bipush 48, 2) := by decide +kernel
theorem dX12_number_44 : decode cX12_number 44 = .ok (.bipush 10, 2) := by decide +kernel
theorem dX12_number_46 : decode cX12_number 46 = .ok (.invokevirtual 159, 3) := by decide +kernel
theorem dX12_number_49 : decode cX12_number 49 = .ok (.iadd, 1) := by decide +kernel
theorem dX12_number_50 : decode cX12_number 50 = .ok (.istore_n 2, 1) := by decide +kernel
theorem dX12_number_51 : decode cX12_number 51 = .ok (.iinc 3 1, 3) := by decide +kernel
theorem dX12_number_54 : decode cX12_number 54 = .ok (.goto (-43), 3) := by decide +kernel
theorem dX12_number_57 : decode cX12_number 57 = .ok (.iload_n 2, 1) := by decide +kernel
theorem dX12_number_58 : decode cX12_number 58 = .ok (.ireturn, 1) := by decide +kernel
def lb_X12_number_11 (v0 : Nat) (v1 : Int32) (s : Int32 × Int32 × aH) : Option ((Int32 × Int32 × aH) ⊕ ((Int32 × aH))) :=
  if s.2.1 < v1 then
    (ck s.2.2 v0 11).bind fun u3 =>
    (fn_X12_fine s.2.2 v0).bind fun x4 =>
    if x4 = 0 then
      some (.inr (s.1, s.2.2))
    else
      (ck s.2.2 v0 11).bind fun u5 =>
      (fn_X12_here s.2.2 v0).bind fun x6 =>
      (fn_X12_in s.2.2 x6 48 57).bind fun x7 =>
      if x7 = 0 then
        some (.inr (s.1, s.2.2))
      else
        (ck s.2.2 v0 11).bind fun u8 =>
        (fn_X12_oneOf s.2.2 v0 48 10).bind fun o9 =>
        (some ((10 * s.1) + o9.1)).bind fun x10 =>
        (some (s.2.1 + 1)).bind fun x11 =>
        some (.inl (x10, x11, o9.2))
  else
    some (.inr (s.1, s.2.2))
def hd_X12_number_11 (Γ : aC) (v0 : Nat) (v1 : Int32) (s : Int32 × Int32 × aH) : Prop := Jd Γ (0, 0) 11 [some (.ref v0), some (.int v1), some (.int s.1), some (.int s.2.1)] [] s.2.2
def ex_X12_number_11 (Γ : aC) (v0 : Nat) (v1 : Int32) (r : (Int32 × aH)) : Prop := (fun r => RqI Γ r) r
set_option maxRecDepth 20000 in
set_option maxHeartbeats 4000000 in
theorem lw_X12_number_11 {Γ : aC} {d : Nat} (X : Cx Γ RX12 cX12_number 4 (some .int) (d, 0, 0)) (hd : 3 ≤ d) (v0 : Nat) (v1 : Int32) : ∀ n s o, lp (lb_X12_number_11 v0 v1) n s = some o → ex_X12_number_11 Γ v0 v1 o → hd_X12_number_11 Γ v0 v1 s := by
  have hd1 : 1 ≤ d := by omega
  refine J_lp _ _ _ ?_
  intro s o hf hk
  unfold lb_X12_number_11 at hf
  refine r_iload_n (pc := 11) X dX12_number_11 rfl ?_
  refine r_iload_n (pc := 12) X dX12_number_12 rfl ?_
  refine r_icmp_ge (pc := 13) X 57 dX12_number_13 (by decide) (fun c14 => ?_) (fun c14 => ?_)
  · rw [if_neg c14] at hf
    refine r_iload_n (pc := 57) X dX12_number_57 rfl ?_
    obtain rfl := Option.some.inj hf
    exact r_iret (pc := 58) X dX12_number_58 hk
  · rw [if_pos c14] at hf
    refine r_aload_n (pc := 16) X dX12_number_16 rfl ?_
    obtain ⟨u3, eu3, hf⟩ := ob hf
    obtain ⟨x4, ex4, hf⟩ := ob hf
    refine r_callVI (pc := 17) X [] dX12_number_17 ml_X12_143 vo_X12_fine ⟨Nat.le_refl _, Nat.le_refl _⟩ eu3 (ev_X12_fine (d := d - 1) (by omega) _ _ _ ex4) hd1 rfl (Nat.le_of_ble_eq_true rfl) rfl ?_
    refine r_if_eq (pc := 20) X 57 dX12_number_20 (by decide) (fun c13 => ?_) (fun c13 => ?_)
    · rw [if_pos c13] at hf
      refine r_iload_n (pc := 57) X dX12_number_57 rfl ?_
      obtain rfl := Option.some.inj hf
      exact r_iret (pc := 58) X dX12_number_58 hk
    · rw [if_neg c13] at hf
      refine r_aload_n (pc := 23) X dX12_number_23 rfl ?_
      obtain ⟨u5, eu5, hf⟩ := ob hf
      obtain ⟨x6, ex6, hf⟩ := ob hf
      refine r_callVI (pc := 24) X [] dX12_number_24 ml_X12_147 vo_X12_here ⟨Nat.le_refl _, Nat.le_refl _⟩ eu5 (ev_X12_here (d := d - 1) (by omega) _ _ _ ex6) hd1 rfl (Nat.le_of_ble_eq_true rfl) rfl ?_
      refine r_bipush (pc := 27) X 48 dX12_number_27 (by decide) ?_
      refine r_bipush (pc := 29) X 57 dX12_number_29 (by decide) ?_
      obtain ⟨x7, ex7, hf⟩ := ob hf
      refine r_callSI (pc := 31) X [.int x6, .int 48, .int 57] dX12_number_31 ml_X12_110 so_X12_in ⟨Nat.le_refl _, Nat.le_refl _⟩ (ev_X12_in (d := d - 1) (by omega) _ _ _ _ _ ex7) hd1 rfl (Nat.le_of_ble_eq_true rfl) rfl ?_
      refine r_if_eq (pc := 34) X 57 dX12_number_34 (by decide) (fun c12 => ?_) (fun c12 => ?_)
      · rw [if_pos c12] at hf
        refine r_iload_n (pc := 57) X dX12_number_57 rfl ?_
        obtain rfl := Option.some.inj hf
        exact r_iret (pc := 58) X dX12_number_58 hk
      · rw [if_neg c12] at hf
        refine r_bipush (pc := 37) X 10 dX12_number_37 (by decide) ?_
        refine r_iload_n (pc := 39) X dX12_number_39 rfl ?_
        refine r_imul (pc := 40) X dX12_number_40 ?_
        refine r_aload_n (pc := 41) X dX12_number_41 rfl ?_
        refine r_bipush (pc := 42) X 48 dX12_number_42 (by decide) ?_
        refine r_bipush (pc := 44) X 10 dX12_number_44 (by decide) ?_
        obtain ⟨u8, eu8, hf⟩ := ob hf
        obtain ⟨o9, eo9, hf⟩ := ob hf
        refine r_callVI (pc := 46) X [.int 48, .int 10] dX12_number_46 ml_X12_159 vo_X12_oneOf ⟨Nat.le_refl _, Nat.le_refl _⟩ eu8 (ev_X12_oneOf (d := d - 1) (by omega) _ _ _ _ _ eo9) hd1 rfl (Nat.le_of_ble_eq_true rfl) rfl ?_
        refine r_iadd (pc := 49) X dX12_number_49 ?_
        obtain ⟨x10, ex10, hf⟩ := ob hf
        refine r_nmI ex10 ?_
        refine r_istore_n (pc := 50) X [some (.ref v0), some (.int v1), some (.int x10), some (.int s.2.1)] dX12_number_50 (by decide) rfl ?_
        obtain ⟨x11, ex11, hf⟩ := ob hf
        refine r_iinc2 (pc := 51) X 1 [some (.ref v0), some (.int v1), some (.int x10), some (.int x11)] dX12_number_51 (by decide) rfl (by decide) ex11 rfl ?_
        refine r_goto (pc := 54) X 11 dX12_number_54 (by decide) ?_
        obtain rfl := Option.some.inj hf
        exact hk
def fn_X12_number (h : aH) (p0 : Nat) (p1 : Int32) : Option (Int32 × aH) :=
  (ck h p0 11).bind fun u1 =>
  (fn_X12_oneOf h p0 48 10).bind fun o2 =>
  (lp (lb_X12_number_11 p0 p1) lpN (o2.1, 1, o2.2)).bind fun o15 =>
  some o15
set_option maxRecDepth 20000 in
set_option maxHeartbeats 4000000 in
theorem ev_X12_number {l : Launch} {g : aG} {d : Nat} (hd : 3 ≤ d) (h : aH) (p0 : Nat) (p1 : Int32) (o : Int32 × aH) (hf : fn_X12_number h p0 p1 = some o) : EvM l g d yX12_number cX12_number 4 (some .int) [.ref p0, .int p1] h (some (.int o.1), o.2) := by
  refine EvM.of mk_X12_number (Nat.le_of_ble_eq_true rfl) ?_
  intro Γ hl hg hq X
  have hd1 : 1 ≤ d := by omega
  have hk : RqI Γ o := hq
  unfold fn_X12_number at hf
  show Jd Γ (0, 0) 0 [some (.ref p0), some (.int p1), none, none] [] h
  refine r_aload_n (pc := 0) X dX12_number_0 rfl ?_
  refine r_bipush (pc := 1) X 48 dX12_number_1 (by decide) ?_
  refine r_bipush (pc := 3) X 10 dX12_number_3 (by decide) ?_
  obtain ⟨u1, eu1, hf⟩ := ob hf
  obtain ⟨o2, eo2, hf⟩ := ob hf
  refine r_callVI (pc := 5) X [.int 48, .int 10] dX12_number_5 ml_X12_159 vo_X12_oneOf ⟨Nat.le_refl _, Nat.le_refl _⟩ eu1 (ev_X12_oneOf (d := d - 1) (by omega) _ _ _ _ _ eo2) hd1 rfl (Nat.le_of_ble_eq_true rfl) rfl ?_
  refine r_istore_n (pc := 8) X [some (.ref p0), some (.int p1), some (.int o2.1), none] dX12_number_8 (by decide) rfl ?_
  refine r_iconst (pc := 9) X 1 dX12_number_9 (by decide) ?_
  refine r_istore_n (pc := 10) X [some (.ref p0), some (.int p1), some (.int o2.1), some (.int 1)] dX12_number_10 (by decide) rfl ?_
  obtain ⟨o15, eo15, hf⟩ := ob hf
  refine (lw_X12_number_11 X hd _ _ lpN _ o15 eo15 ?_)
  obtain rfl := Option.some.inj hf
  exact hk

theorem dX12_wasRight_0 : decode cX12_wasRight 0 = .ok (.aload_n 0, 1) := by decide +kernel
theorem dX12_wasRight_1 : decode cX12_wasRight 1 = .ok (.getfield 133, 3) := by decide +kernel
theorem dX12_wasRight_4 : decode cX12_wasRight 4 = .ok (.aload_n 0, 1) := by decide +kernel
theorem dX12_wasRight_5 : decode cX12_wasRight 5 = .ok (.getfield 127, 3) := by decide +kernel
theorem dX12_wasRight_8 : decode cX12_wasRight 8 = .ok (.if_icmp .ge 11, 3) := by decide +kernel
theorem dX12_wasRight_11 : decode cX12_wasRight 11 = .ok (.aload_n 0, 1) := by decide +kernel
theorem dX12_wasRight_12 : decode cX12_wasRight 12 = .ok (.aload_n 0, 1) := by decide +kernel
theorem dX12_wasRight_13 : decode cX12_wasRight 13 = .ok (.getfield 133, 3) := by decide +kernel
theorem dX12_wasRight_16 : decode cX12_wasRight 16 = .ok (.invokevirtual 155, 3) := by decide +kernel
theorem dX12_wasRight_19 : decode cX12_wasRight 19 = .ok (.aload_n 0, 1) := by decide +kernel
theorem dX12_wasRight_20 : decode cX12_wasRight 20 = .ok (.invokevirtual 143, 3) := by decide +kernel
theorem dX12_wasRight_23 : decode cX12_wasRight 23 = .ok (.ireturn, 1) := by decide +kernel
def fn_X12_wasRight (h : aH) (p0 : Nat) : Option (Int32 × aH) :=
  (gI h p0 11 15).bind fun x1 =>
  (gI h p0 11 13).bind fun x2 =>
  ((
    if x1 < x2 then
      (gI h p0 11 15).bind fun x7 =>
      (ck h p0 11).bind fun u8 =>
      (fn_X12_fault h p0 x7).bind fun h9 =>
      some h9
    else
      some h
  ) : Option (aH)).bind fun t3 =>
  (ck t3 p0 11).bind fun u4 =>
  (fn_X12_fine t3 p0).bind fun x5 =>
  (bz x5).bind fun x6 =>
  some (x6, t3)
set_option maxRecDepth 20000 in
set_option maxHeartbeats 4000000 in
theorem ev_X12_wasRight {l : Launch} {g : aG} {d : Nat} (hd : 2 ≤ d) (h : aH) (p0 : Nat) (o : Int32 × aH) (hf : fn_X12_wasRight h p0 = some o) : EvM l g d yX12_wasRight cX12_wasRight 1 (some .boolean) [.ref p0] h (some (.int o.1), o.2) := by
  refine EvM.of mk_X12_wasRight (Nat.le_of_ble_eq_true rfl) ?_
  intro Γ hl hg hq X
  have hd1 : 1 ≤ d := by omega
  have hk : RqI Γ o := hq
  unfold fn_X12_wasRight at hf
  show Jd Γ (0, 0) 0 [some (.ref p0)] [] h
  refine r_aload_n (pc := 0) X dX12_wasRight_0 rfl ?_
  obtain ⟨x1, ex1, hf⟩ := ob hf
  refine r_getI (pc := 1) X dX12_wasRight_1 fl_X12_133 rfl ex1 ?_
  refine r_aload_n (pc := 4) X dX12_wasRight_4 rfl ?_
  obtain ⟨x2, ex2, hf⟩ := ob hf
  refine r_getI (pc := 5) X dX12_wasRight_5 fl_X12_127 rfl ex2 ?_
  obtain ⟨t3, et3, hf⟩ := ob hf
  have Jt3 : Jd Γ (0, 0) 19 [some (.ref p0)] [] t3 := by
    refine r_aload_n (pc := 19) X dX12_wasRight_19 rfl ?_
    obtain ⟨u4, eu4, hf⟩ := ob hf
    obtain ⟨x5, ex5, hf⟩ := ob hf
    refine r_callVI (pc := 20) X [] dX12_wasRight_20 ml_X12_143 vo_X12_fine ⟨Nat.le_refl _, Nat.le_refl _⟩ eu4 (ev_X12_fine (d := d - 1) (by omega) _ _ _ ex5) hd1 rfl (Nat.le_of_ble_eq_true rfl) rfl ?_
    obtain ⟨x6, ex6, hf⟩ := ob hf
    obtain rfl := Option.some.inj hf
    exact r_zretB (pc := 23) X dX12_wasRight_23 ex6 hk
  refine r_icmp_ge (pc := 8) X 19 dX12_wasRight_8 (by decide) (fun c10 => ?_) (fun c10 => ?_)
  · rw [if_neg c10] at et3
    obtain rfl := Option.some.inj et3
    exact Jt3
  · rw [if_pos c10] at et3
    refine r_aload_n (pc := 11) X dX12_wasRight_11 rfl ?_
    refine r_aload_n (pc := 12) X dX12_wasRight_12 rfl ?_
    obtain ⟨x7, ex7, et3⟩ := ob et3
    refine r_getI (pc := 13) X dX12_wasRight_13 fl_X12_133 rfl ex7 ?_
    obtain ⟨u8, eu8, et3⟩ := ob et3
    obtain ⟨h9, eh9, et3⟩ := ob et3
    refine r_callVV (pc := 16) X [.int x7] dX12_wasRight_16 ml_X12_155 vo_X12_fault ⟨Nat.le_refl _, Nat.le_refl _⟩ eu8 (ev_X12_fault (d := d - 1) (by omega) _ _ _ _ eh9) hd1 rfl (Nat.le_of_ble_eq_true rfl) rfl ?_
    obtain rfl := Option.some.inj et3
    exact Jt3

theorem dX12_told_0 : decode cX12_told 0 = .ok (.aload_n 0, 1) := by decide +kernel
theorem dX12_told_1 : decode cX12_told 1 = .ok (.iconst 0, 1) := by decide +kernel
theorem dX12_told_2 : decode cX12_told 2 = .ok (.putfield 163, 3) := by decide +kernel
theorem dX12_told_5 : decode cX12_told 5 = .ok (.aload_n 0, 1) := by decide +kernel
theorem dX12_told_6 : decode cX12_told 6 = .ok (.dup, 1) := by decide +kernel
theorem dX12_told_7 : decode cX12_told 7 = .ok (.getfield 166, 3) := by decide +kernel
theorem dX12_told_10 : decode cX12_told 10 = .ok (.iconst 1, 1) := by decide +kernel
theorem dX12_told_11 : decode cX12_told 11 = .ok (.iadd, 1) := by decide +kernel
theorem dX12_told_12 : decode cX12_told 12 = .ok (.putfield 166, 3) := by decide +kernel
theorem dX12_told_15 : decode cX12_told 15 = .ok (.return_, 1) := by decide +kernel
def fn_X12_told (h : aH) (p0 : Nat) : Option (aH) :=
  (pI h p0 11 24 0).bind fun h1 =>
  (gI h1 p0 11 46).bind fun x2 =>
  (pI h1 p0 11 46 (x2 + 1)).bind fun h3 =>
  some h3
set_option maxRecDepth 20000 in
set_option maxHeartbeats 4000000 in
theorem ev_X12_told {l : Launch} {g : aG} {d : Nat} (hd : 0 ≤ d) (h : aH) (p0 : Nat) (o : aH) (hf : fn_X12_told h p0 = some o) : EvM l g d yX12_told cX12_told 1 none [.ref p0] h (none, o) := by
  refine EvM.of mk_X12_told (Nat.le_of_ble_eq_true rfl) ?_
  intro Γ hl hg hq X
  have hd1 : 0 ≤ d := by omega
  have hk : RqV Γ o := hq
  unfold fn_X12_told at hf
  show Jd Γ (0, 0) 0 [some (.ref p0)] [] h
  refine r_aload_n (pc := 0) X dX12_told_0 rfl ?_
  refine r_iconst (pc := 1) X 0 dX12_told_1 (by decide) ?_
  obtain ⟨h1, eh1, hf⟩ := ob hf
  refine r_putI (pc := 2) X dX12_told_2 fp_X12_163 rfl eh1 ?_
  refine r_aload_n (pc := 5) X dX12_told_5 rfl ?_
  refine r_dup (pc := 6) X dX12_told_6 rfl ?_
  obtain ⟨x2, ex2, hf⟩ := ob hf
  refine r_getI (pc := 7) X dX12_told_7 fl_X12_166 rfl ex2 ?_
  refine r_iconst (pc := 10) X 1 dX12_told_10 (by decide) ?_
  refine r_iadd (pc := 11) X dX12_told_11 ?_
  obtain ⟨h3, eh3, hf⟩ := ob hf
  refine r_putI (pc := 12) X dX12_told_12 fp_X12_166 rfl eh3 ?_
  obtain rfl := Option.some.inj hf
  exact r_vret (pc := 15) X dX12_told_15 hk

theorem dX12_basins_0 : decode cX12_basins 0 = .ok (.aload_n 0, 1) := by decide +kernel
theorem dX12_basins_1 : decode cX12_basins 1 = .ok (.iconst 0, 1) := by decide +kernel
theorem dX12_basins_2 : decode cX12_basins 2 = .ok (.putfield 100, 3) := by decide +kernel
theorem dX12_basins_5 : decode cX12_basins 5 = .ok (.aload_n 0, 1) := by decide +kernel
theorem dX12_basins_6 : decode cX12_basins 6 = .ok (.bipush 23, 2) := by decide +kernel
theorem dX12_basins_8 : decode cX12_basins 8 = .ok (.invokevirtual 169, 3) := by decide +kernel
theorem dX12_basins_11 : decode cX12_basins 11 = .ok (.aload_n 0, 1) := by decide +kernel
theorem dX12_basins_12 : decode cX12_basins 12 = .ok (.getfield 127, 3) := by decide +kernel
theorem dX12_basins_15 : decode cX12_basins 15 = .ok (.ifCond .ne 5, 3) := by decide +kernel
theorem dX12_basins_18 : decode cX12_basins 18 = .ok (.iconst 0, 1) := by decide +kernel
theorem dX12_basins_19 : decode cX12_basins 19 = .ok (.ireturn, 1) := by decide +kernel
theorem dX12_basins_20 : decode cX12_basins 20 = .ok (.iconst 0, 1) := by decide +kernel
theorem dX12_basins_21 : decode cX12_basins 21 = .ok (.istore_n 1, 1) := by decide +kernel
theorem dX12_basins_22 : decode cX12_basins 22 = .ok (.iconst 1, 1) := by decide +kernel
theorem dX12_basins_23 : decode cX12_basins 23 = .ok (.istore_n 2, 1) := by decide +kernel
theorem dX12_basins_24 : decode cX12_basins 24 = .ok (.iload_n 2, 1) := by decide +kernel
theorem dX12_basins_25 : decode cX12_basins 25 = .ok (.ifCond .eq 146, 3) := by decide +kernel
theorem dX12_basins_28 : decode cX12_basins 28 = .ok (.aload_n 0, 1) := by decide +kernel
theorem dX12_basins_29 : decode cX12_basins 29 = .ok (.invokevirtual 143, 3) := by decide +kernel
theorem dX12_basins_32 : decode cX12_basins 32 = .ok (.ifCond .eq 139, 3) := by decide +kernel
theorem dX12_basins_35 : decode cX12_basins 35 = .ok (.aload_n 0, 1) := by decide +kernel
theorem dX12_basins_36 : decode cX12_basins 36 = .ok (.getfield 107, 3) := by decide +kernel
theorem dX12_basins_39 : decode cX12_basins 39 = .ok (.iload_n 1, 1) := by decide +kernel
theorem dX12_basins_40 : decode cX12_basins 40 = .ok (.iadd, 1) := by decide +kernel
theorem dX12_basins_41 : decode cX12_basins 41 = .ok (.bipush 6, 2) := by decide +kernel
theorem dX12_basins_43 : decode cX12_basins 43 = .ok (.if_icmp .ne 14, 3) := by decide +kernel
theorem dX12_basins_46 : decode cX12_basins 46 = .ok (.aload_n 0, 1) := by decide +kernel
theorem dX12_basins_47 : decode cX12_basins 47 = .ok (.aload_n 0, 1) := by decide +kernel
theorem dX12_basins_48 : decode cX12_basins 48 = .ok (.getfield 133, 3) := by decide +kernel
theorem dX12_basins_51 : decode cX12_basins 51 = .ok (.invokevirtual 155, 3) := by decide +kernel
theorem dX12_basins_54 : decode cX12_basins 54 = .ok (.goto 104, 3) := by decide +kernel
theorem dX12_basins_57 : decode cX12_basins 57 = .ok (.aload_n 0, 1) := by decide +kernel
theorem dX12_basins_58 : decode cX12_basins 58 = .ok (.getfield 30, 3) := by decide +kernel
theorem dX12_basins_61 : decode cX12_basins 61 = .ok (.iconst 3, 1) := by decide +kernel
theorem dX12_basins_62 : decode cX12_basins 62 = .ok (.iload_n 1, 1) := by decide +kernel
theorem dX12_basins_63 : decode cX12_basins 63 = .ok (.imul, 1) := by decide +kernel
theorem dX12_basins_64 : decode cX12_basins 64 = .ok (.aload_n 0, 1) := by decide +kernel
theorem dX12_basins_65 : decode cX12_basins 65 = .ok (.bipush 48, 2) := by decide +kernel
theorem dX12_basins_67 : decode cX12_basins 67 = .ok (.bipush 10, 2) := by decide +kernel
theorem dX12_basins_69 : decode cX12_basins 69 = .ok (.invokevirtual 159, 3) := by decide +kernel
theorem dX12_basins_72 : decode cX12_basins 72 = .ok (.iastore, 1) := by decide +kernel
theorem dX12_basins_73 : decode cX12_basins 73 = .ok (.aload_n 0, 1) := by decide +kernel
theorem dX12_basins_74 : decode cX12_basins 74 = .ok (.getfield 30, 3) := by decide +kernel
theorem dX12_basins_77 : decode cX12_basins 77 = .ok (.iconst 3, 1) := by decide +kernel
theorem dX12_basins_78 : decode cX12_basins 78 = .ok (.iload_n 1, 1) := by decide +kernel
theorem dX12_basins_79 : decode cX12_basins 79 = .ok (.imul, 1) := by decide +kernel
theorem dX12_basins_80 : decode cX12_basins 80 = .ok (.iconst 1, 1) := by decide +kernel
theorem dX12_basins_81 : decode cX12_basins 81 = .ok (.iadd, 1) := by decide +kernel
theorem dX12_basins_82 : decode cX12_basins 82 = .ok (.aload_n 0, 1) := by decide +kernel
theorem dX12_basins_83 : decode cX12_basins 83 = .ok (.bipush 48, 2) := by decide +kernel
theorem dX12_basins_85 : decode cX12_basins 85 = .ok (.bipush 10, 2) := by decide +kernel
theorem dX12_basins_87 : decode cX12_basins 87 = .ok (.invokevirtual 159, 3) := by decide +kernel
theorem dX12_basins_90 : decode cX12_basins 90 = .ok (.iastore, 1) := by decide +kernel
theorem dX12_basins_91 : decode cX12_basins 91 = .ok (.aload_n 0, 1) := by decide +kernel
theorem dX12_basins_92 : decode cX12_basins 92 = .ok (.getfield 30, 3) := by decide +kernel
theorem dX12_basins_95 : decode cX12_basins 95 = .ok (.iconst 3, 1) := by decide +kernel
theorem dX12_basins_96 : decode cX12_basins 96 = .ok (.iload_n 1, 1) := by decide +kernel
theorem dX12_basins_97 : decode cX12_basins 97 = .ok (.imul, 1) := by decide +kernel
theorem dX12_basins_98 : decode cX12_basins 98 = .ok (.iconst 2, 1) := by decide +kernel
theorem dX12_basins_99 : decode cX12_basins 99 = .ok (.iadd, 1) := by decide +kernel
theorem dX12_basins_100 : decode cX12_basins 100 = .ok (.aload_n 0, 1) := by decide +kernel
theorem dX12_basins_101 : decode cX12_basins 101 = .ok (.invokevirtual 147, 3) := by decide +kernel
theorem dX12_basins_104 : decode cX12_basins 104 = .ok (.bipush 33, 2) := by decide +kernel
theorem dX12_basins_106 : decode cX12_basins 106 = .ok (.if_icmp .ne 7, 3) := by decide +kernel
theorem dX12_basins_109 : decode cX12_basins 109 = .ok (.iconst 1, 1) := by decide +kernel
theorem dX12_basins_110 : decode cX12_basins 110 = .ok (.goto 4, 3) := by decide +kernel
theorem dX12_basins_113 : decode cX12_basins 113 = .ok (.iconst 0, 1) := by decide +kernel
theorem dX12_basins_114 : decode cX12_basins 114 = .ok (.iastore, 1) := by decide +kernel
theorem dX12_basins_115 : decode cX12_basins 115 = .ok (.aload_n 0, 1) := by decide +kernel
theorem dX12_basins_116 : decode cX12_basins 116 = .ok (.invokevirtual 143, 3) := by decide +kernel
theorem dX12_basins_119 : decode cX12_basins 119 = .ok (.ifCond .eq 29, 3) := by decide +kernel
theorem dX12_basins_122 : decode cX12_basins 122 = .ok (.aload_n 0, 1) := by decide +kernel
theorem dX12_basins_123 : decode cX12_basins 123 = .ok (.invokevirtual 147, 3) := by decide +kernel
theorem dX12_basins_126 : decode cX12_basins 126 = .ok (.bipush 33, 2) := by decide +kernel
theorem dX12_basins_128 : decode cX12_basins 128 = .ok (.if_icmp .eq 20, 3) := by decide +kernel
theorem dX12_basins_131 : decode cX12_basins 131 = .ok (.aload_n 0, 1) := by decide +kernel
theorem dX12_basins_132 : decode cX12_basins 132 = .ok (.invokevirtual 147, 3) := by decide +kernel
theorem dX12_basins_135 : decode cX12_basins 135 = .ok (.bipush 46, 2) := by decide +kernel
theorem dX12_basins_137 : decode cX12_basins 137 = .ok (.if_icmp .eq 11, 3) := by decide +kernel
theorem dX12_basins_140 : decode cX12_basins 140 = .ok (.aload_n 0, 1) := by decide +kernel
theorem dX12_basins_141 : decode cX12_basins 141 = .ok (.aload_n 0, 1) := by decide +kernel
theorem dX12_basins_142 : decode cX12_basins 142 = .ok (.getfield 133, 3) := by decide +kernel
theorem dX12_basins_145 : decode cX12_basins 145 = .ok (.invokevirtual 155, 3) := by decide +kernel
theorem dX12_basins_148 : decode cX12_basins 148 = .ok (.aload_n 0, 1) := by decide +kernel
theorem dX12_basins_149 : decode cX12_basins 149 = .ok (.dup, 1) := by decide +kernel
theorem dX12_basins_150 : decode cX12_basins 150 = .ok (.getfield 133, 3) := by decide +kernel
theorem dX12_basins_153 : decode cX12_basins 153 = .ok (.iconst 1, 1) := by decide +kernel
theorem dX12_basins_154 : decode cX12_basins 154 = .ok (.iadd, 1) := by decide +kernel
theorem dX12_basins_155 : decode cX12_basins 155 = .ok (.putfield 133, 3) := by decide +kernel
theorem dX12_basins_158 : decode cX12_basins 158 = .ok (.iinc 1 1, 3) := by decide +kernel
theorem dX12_basins_161 : decode cX12_basins 161 = .ok (.aload_n 0, 1) := by decide +kernel
theorem dX12_basins_162 : decode cX12_basins 162 = .ok (.bipush 59, 2) := by decide +kernel
theorem dX12_basins_164 : decode cX12_basins 164 = .ok (.invokevirtual 151, 3) := by decide +kernel
theorem dX12_basins_167 : decode cX12_basins 167 = .ok (.istore_n 2, 1) := by decide +kernel
theorem dX12_basins_168 : decode cX12_basins 168 = .ok (.goto (-144), 3) := by decide +kernel
theorem dX12_basins_171 : decode cX12_basins 171 = .ok (.aload_n 0, 1) := by decide +kernel
theorem dX12_basins_172 : decode cX12_basins 172 = .ok (.invokevirtual 172, 3) := by decide +kernel
theorem dX12_basins_175 : decode cX12_basins 175 = .ok (.ifCond .ne 10, 3) := by decide +kernel
theorem dX12_basins_178 : decode cX12_basins 178 = .ok (.iconst (-1), 1) := by decide +kernel
theorem dX12_basins_179 : decode cX12_basins 179 = .ok (.aload_n 0, 1) := by decide +kernel
theorem dX12_basins_180 : decode cX12_basins 180 = .ok (.getfield 136, 3) := by decide +kernel
theorem dX12_basins_183 : decode cX12_basins 183 = .ok (.isub, 1) := by decide +kernel
theorem dX12_basins_184 : decode cX12_basins 184 = .ok (.ireturn, 1) := by decide +kernel
theorem dX12_basins_185 : decode cX12_basins 185 = .ok (.iconst 0, 1) := by decide +kernel
theorem dX12_basins_186 : decode cX12_basins 186 = .ok (.istore_n 3, 1) := by decide +kernel
theorem dX12_basins_187 : decode cX12_basins 187 = .ok (.iload_n 3, 1) := by decide +kernel
theorem dX12_basins_188 : decode cX12_basins 188 = .ok (.iload_n 1, 1) := by decide +kernel
theorem dX12_basins_189 : decode cX12_basins 189 = .ok (.if_icmp .ge 91, 3) := by decide +kernel
theorem dX12_basins_192 : decode cX12_basins 192 = .ok (.aload_n 0, 1) := by decide +kernel
theorem dX12_basins_193 : decode cX12_basins 193 = .ok (.getfield 9, 3) := by decide +kernel
theorem dX12_basins_196 : decode cX12_basins 196 = .ok (.aload_n 0, 1) := by decide +kernel
theorem dX12_basins_197 : decode cX12_basins 197 = .ok (.getfield 107, 3) := by decide +kernel
theorem dX12_basins_200 : decode cX12_basins 200 = .ok (.aload_n 0, 1) := by decide +kernel
theorem dX12_basins_201 : decode cX12_basins 201 = .ok (.getfield 30, 3) := by decide +kernel
theorem dX12_basins_204 : decode cX12_basins 204 = .ok (.iconst 3, 1) := by decide +kernel
theorem dX12_basins_205 : decode cX12_basins 205 = .ok (.iload_n 3, 1) := by decide +kernel
theorem dX12_basins_206 : decode cX12_basins 206 = .ok (.imul, 1) := by decide +kernel
theorem dX12_basins_207 : decode cX12_basins 207 = .ok (.iaload, 1) := by decide +kernel
theorem dX12_basins_208 : decode cX12_basins 208 = .ok (.iastore, 1) := by decide +kernel
theorem dX12_basins_209 : decode cX12_basins 209 = .ok (.aload_n 0, 1) := by decide +kernel
theorem dX12_basins_210 : decode cX12_basins 210 = .ok (.getfield 9, 3) := by decide +kernel
theorem dX12_basins_213 : decode cX12_basins 213 = .ok (.bipush 6, 2) := by decide +kernel
theorem dX12_basins_215 : decode cX12_basins 215 = .ok (.aload_n 0, 1) := by decide +kernel
theorem dX12_basins_216 : decode cX12_basins 216 = .ok (.getfield 107, 3) := by decide +kernel
theorem dX12_basins_219 : decode cX12_basins 219 = .ok (.iadd, 1) := by decide +kernel
theorem dX12_basins_220 : decode cX12_basins 220 = .ok (.aload_n 0, 1) := by decide +kernel
theorem dX12_basins_221 : decode cX12_basins 221 = .ok (.getfield 30, 3) := by decide +kernel
theorem dX12_basins_224 : decode cX12_basins 224 = .ok (.iconst 3, 1) := by decide +kernel
theorem dX12_basins_225 : decode cX12_basins 225 = .ok (.iload_n 3, 1) := by decide +kernel
theorem dX12_basins_226 : decode cX12_basins 226 = .ok (.imul, 1) := by decide +kernel
theorem dX12_basins_227 : decode cX12_basins 227 = .ok (.iconst 1, 1) := by decide +kernel
theorem dX12_basins_228 : decode cX12_basins 228 = .ok (.iadd, 1) := by decide +kernel
theorem dX12_basins_229 : decode cX12_basins 229 = .ok (.iaload, 1) := by decide +kernel
theorem dX12_basins_230 : decode cX12_basins 230 = .ok (.iastore, 1) := by decide +kernel
theorem dX12_basins_231 : decode cX12_basins 231 = .ok (.aload_n 0, 1) := by decide +kernel
theorem dX12_basins_232 : decode cX12_basins 232 = .ok (.aload_n 0, 1) := by decide +kernel
theorem dX12_basins_233 : decode cX12_basins 233 = .ok (.getfield 175, 3) := by decide +kernel
theorem dX12_basins_236 : decode cX12_basins 236 = .ok (.iconst 1, 1) := by decide +kernel
theorem dX12_basins_237 : decode cX12_basins 237 = .ok (.aload_n 0, 1) := by decide +kernel
theorem dX12_basins_238 : decode cX12_basins 238 = .ok (.getfield 107, 3) := by decide +kernel
theorem dX12_basins_241 : decode cX12_basins 241 = .ok (.ishl, 1) := by decide +kernel
theorem dX12_basins_242 : decode cX12_basins 242 = .ok (.iconst (-1), 1) := by decide +kernel
theorem dX12_basins_243 : decode cX12_basins 243 = .ok (.ixor, 1) := by decide +kernel
theorem dX12_basins_244 : decode cX12_basins 244 = .ok (.iand, 1) := by decide +kernel
theorem dX12_basins_245 : decode cX12_basins 245 = .ok (.aload_n 0, 1) := by decide +kernel
theorem dX12_basins_246 : decode cX12_basins 246 = .ok (.getfield 30, 3) := by decide +kernel
theorem dX12_basins_249 : decode cX12_basins 249 = .ok (.iconst 3, 1) := by decide +kernel
theorem dX12_basins_250 : decode cX12_basins 250 = .ok (.iload_n 3, 1) := by decide +kernel
theorem dX12_basins_251 : decode cX12_basins 251 = .ok (.imul, 1) := by decide +kernel
theorem dX12_basins_252 : decode cX12_basins 252 = .ok (.iconst 2, 1) := by decide +kernel
theorem dX12_basins_253 : decode cX12_basins 253 = .ok (.iadd, 1) := by decide +kernel
theorem dX12_basins_254 : decode cX12_basins 254 = .ok (.iaload, 1) := by decide +kernel
theorem dX12_basins_255 : decode cX12_basins 255 = .ok (.aload_n 0, 1) := by decide +kernel
theorem dX12_basins_256 : decode cX12_basins 256 = .ok (.getfield 107, 3) := by decide +kernel
theorem dX12_basins_259 : decode cX12_basins 259 = .ok (.ishl, 1) := by decide +kernel
theorem dX12_basins_260 : decode cX12_basins 260 = .ok (.ior, 1) := by decide +kernel
theorem dX12_basins_261 : decode cX12_basins 261 = .ok (.putfield 175, 3) := by decide +kernel
theorem dX12_basins_264 : decode cX12_basins 264 = .ok (.aload_n 0, 1) := by decide +kernel
theorem dX12_basins_265 : decode cX12_basins 265 = .ok (.dup, 1) := by decide +kernel
theorem dX12_basins_266 : decode cX12_basins 266 = .ok (.getfield 107, 3) := by decide +kernel
theorem dX12_basins_269 : decode cX12_basins 269 = .ok (.iconst 1, 1) := by decide +kernel
theorem dX12_basins_270 : decode cX12_basins 270 = .ok (.iadd, 1) := by decide +kernel
theorem dX12_basins_271 : decode cX12_basins 271 = .ok (.putfield 107, 3) := by decide +kernel
theorem dX12_basins_274 : decode cX12_basins 274 = .ok (.iinc 3 1, 3) := by decide +kernel
theorem dX12_basins_277 : decode cX12_basins 277 = .ok (.goto (-90), 3) := by decide +kernel
theorem dX12_basins_280 : decode cX12_basins 280 = .ok (.aload_n 0, 1) := by decide +kernel
theorem dX12_basins_281 : decode cX12_basins 281 = .ok (.invokevirtual 178, 3) := by decide +kernel
theorem dX12_basins_284 : decode cX12_basins 284 = .ok (.iload_n 1, 1) := by decide +kernel
theorem dX12_basins_285 : decode cX12_basins 285 = .ok (.ireturn, 1) := by decide +kernel
def lb_X12_basins_24 (v0 : Nat) (s : Int32 × Int32 × aH) : Option ((Int32 × Int32 × aH) ⊕ ((Int32 × aH))) :=
  if s.2.1 = 0 then
    some (.inr (s.1, s.2.2))
  else
    (ck s.2.2 v0 11).bind fun u5 =>
    (fn_X12_fine s.2.2 v0).bind fun x6 =>
    if x6 = 0 then
      some (.inr (s.1, s.2.2))
    else
      (gI s.2.2 v0 11 1).bind fun x7 =>
      ((
        if (x7 + s.1) = 6 then
          (gI s.2.2 v0 11 15).bind fun x41 =>
          (ck s.2.2 v0 11).bind fun u42 =>
          (fn_X12_fault s.2.2 v0 x41).bind fun h43 =>
          some h43
        else
          (gR s.2.2 v0 11 17).bind fun a12 =>
          (ck s.2.2 v0 11).bind fun u13 =>
          (fn_X12_oneOf s.2.2 v0 48 10).bind fun o14 =>
          (wI o14.2 a12 (3 * s.1) o14.1).bind fun h15 =>
          (gR h15 v0 11 17).bind fun a16 =>
          (ck h15 v0 11).bind fun u17 =>
          (fn_X12_oneOf h15 v0 48 10).bind fun o18 =>
          (wI o18.2 a16 ((3 * s.1) + 1) o18.1).bind fun h19 =>
          (gR h19 v0 11 17).bind fun a20 =>
          (ck h19 v0 11).bind fun u21 =>
          (fn_X12_here h19 v0).bind fun x22 =>
          ((
            if x22 = 33 then
              some 1
            else
              some 0
          ) : Option (Int32)).bind fun t23 =>
          (wI h19 a20 ((3 * s.1) + 2) t23).bind fun h24 =>
          (ck h24 v0 11).bind fun u25 =>
          (fn_X12_fine h24 v0).bind fun x26 =>
          ((
            if x26 = 0 then
              some h24
            else
              (ck h24 v0 11).bind fun u30 =>
              (fn_X12_here h24 v0).bind fun x31 =>
              if x31 = 33 then
                some h24
              else
                (ck h24 v0 11).bind fun u32 =>
                (fn_X12_here h24 v0).bind fun x33 =>
                if x33 = 46 then
                  some h24
                else
                  (gI h24 v0 11 15).bind fun x34 =>
                  (ck h24 v0 11).bind fun u35 =>
                  (fn_X12_fault h24 v0 x34).bind fun h36 =>
                  some h36
          ) : Option (aH)).bind fun t27 =>
          (gI t27 v0 11 15).bind fun x28 =>
          (pI t27 v0 11 15 (x28 + 1)).bind fun h29 =>
          some h29
      ) : Option (aH)).bind fun t8 =>
      (some (s.1 + 1)).bind fun x9 =>
      (ck t8 v0 11).bind fun u10 =>
      (fn_X12_passes t8 v0 59).bind fun o11 =>
      some (.inl (x9, o11.1, o11.2))
def hd_X12_basins_24 (Γ : aC) (v0 : Nat) (s : Int32 × Int32 × aH) : Prop := ∀ (j3 : Option Value), Jd Γ (0, 0) 24 [some (.ref v0), some (.int s.1), some (.int s.2.1), j3] [] s.2.2
def ex_X12_basins_24 (Γ : aC) (v0 : Nat) (r : (Int32 × aH)) : Prop := (fun r => ∀ (j2 : Option Value) (j3 : Option Value), Jd Γ (0, 0) 171 [some (.ref v0), some (.int r.1), j2, j3] [] r.2) r
set_option maxRecDepth 20000 in
set_option maxHeartbeats 4000000 in
theorem lw_X12_basins_24 {Γ : aC} {d : Nat} (X : Cx Γ RX12 cX12_basins 4 (some .int) (d, 0, 0)) (hd : 3 ≤ d) (v0 : Nat) : ∀ n s o, lp (lb_X12_basins_24 v0) n s = some o → ex_X12_basins_24 Γ v0 o → hd_X12_basins_24 Γ v0 s := by
  have hd1 : 1 ≤ d := by omega
  refine J_lp _ _ _ ?_
  intro s o hf hk j3
  unfold lb_X12_basins_24 at hf
  refine r_iload_n (pc := 24) X dX12_basins_24 rfl ?_
  refine r_if_eq (pc := 25) X 171 dX12_basins_25 (by decide) (fun c46 => ?_) (fun c46 => ?_)
  · rw [if_pos c46] at hf
    obtain rfl := Option.some.inj hf
    exact hk _ _
  · rw [if_neg c46] at hf
    refine r_aload_n (pc := 28) X dX12_basins_28 rfl ?_
    obtain ⟨u5, eu5, hf⟩ := ob hf
    obtain ⟨x6, ex6, hf⟩ := ob hf
    refine r_callVI (pc := 29) X [] dX12_basins_29 ml_X12_143 vo_X12_fine ⟨Nat.le_refl _, Nat.le_refl _⟩ eu5 (ev_X12_fine (d := d - 1) (by omega) _ _ _ ex6) hd1 rfl (Nat.le_of_ble_eq_true rfl) rfl ?_
    refine r_if_eq (pc := 32) X 171 dX12_basins_32 (by decide) (fun c45 => ?_) (fun c45 => ?_)
    · rw [if_pos c45] at hf
      obtain rfl := Option.some.inj hf
      exact hk _ _
    · rw [if_neg c45] at hf
      refine r_aload_n (pc := 35) X dX12_basins_35 rfl ?_
      obtain ⟨x7, ex7, hf⟩ := ob hf
      refine r_getI (pc := 36) X dX12_basins_36 fl_X12_107 rfl ex7 ?_
      refine r_iload_n (pc := 39) X dX12_basins_39 rfl ?_
      refine r_iadd (pc := 40) X dX12_basins_40 ?_
      refine r_bipush (pc := 41) X 6 dX12_basins_41 (by decide) ?_
      obtain ⟨t8, et8, hf⟩ := ob hf
      have Jt8 : Jd Γ (0, 0) 158 [some (.ref v0), some (.int s.1), some (.int s.2.1), j3] [] t8 := by
        obtain ⟨x9, ex9, hf⟩ := ob hf
        refine r_iinc2 (pc := 158) X 1 [some (.ref v0), some (.int x9), some (.int s.2.1), j3] dX12_basins_158 (by decide) rfl (by decide) ex9 rfl ?_
        refine r_aload_n (pc := 161) X dX12_basins_161 rfl ?_
        refine r_bipush (pc := 162) X 59 dX12_basins_162 (by decide) ?_
        obtain ⟨u10, eu10, hf⟩ := ob hf
        obtain ⟨o11, eo11, hf⟩ := ob hf
        refine r_callVI (pc := 164) X [.int 59] dX12_basins_164 ml_X12_151 vo_X12_passes ⟨Nat.le_refl _, Nat.le_refl _⟩ eu10 (ev_X12_passes (d := d - 1) (by omega) _ _ _ _ eo11) hd1 rfl (Nat.le_of_ble_eq_true rfl) rfl ?_
        refine r_istore_n (pc := 167) X [some (.ref v0), some (.int x9), some (.int o11.1), j3] dX12_basins_167 (by decide) rfl ?_
        refine r_goto (pc := 168) X 24 dX12_basins_168 (by decide) ?_
        obtain rfl := Option.some.inj hf
        exact hk _
      refine r_icmp_ne (pc := 43) X 57 dX12_basins_43 (by decide) (fun c44 => ?_) (fun c44 => ?_)
      · rw [if_neg c44] at et8
        refine r_aload_n (pc := 57) X dX12_basins_57 rfl ?_
        obtain ⟨a12, ea12, et8⟩ := ob et8
        refine r_getR (pc := 58) X dX12_basins_58 fl_X12_30 rfl ea12 ?_
        refine r_iconst (pc := 61) X 3 dX12_basins_61 (by decide) ?_
        refine r_iload_n (pc := 62) X dX12_basins_62 rfl ?_
        refine r_imul (pc := 63) X dX12_basins_63 ?_
        refine r_aload_n (pc := 64) X dX12_basins_64 rfl ?_
        refine r_bipush (pc := 65) X 48 dX12_basins_65 (by decide) ?_
        refine r_bipush (pc := 67) X 10 dX12_basins_67 (by decide) ?_
        obtain ⟨u13, eu13, et8⟩ := ob et8
        obtain ⟨o14, eo14, et8⟩ := ob et8
        refine r_callVI (pc := 69) X [.int 48, .int 10] dX12_basins_69 ml_X12_159 vo_X12_oneOf ⟨Nat.le_refl _, Nat.le_refl _⟩ eu13 (ev_X12_oneOf (d := d - 1) (by omega) _ _ _ _ _ eo14) hd1 rfl (Nat.le_of_ble_eq_true rfl) rfl ?_
        obtain ⟨h15, eh15, et8⟩ := ob et8
        refine r_iast (pc := 72) X dX12_basins_72 eh15 ?_
        refine r_aload_n (pc := 73) X dX12_basins_73 rfl ?_
        obtain ⟨a16, ea16, et8⟩ := ob et8
        refine r_getR (pc := 74) X dX12_basins_74 fl_X12_30 rfl ea16 ?_
        refine r_iconst (pc := 77) X 3 dX12_basins_77 (by decide) ?_
        refine r_iload_n (pc := 78) X dX12_basins_78 rfl ?_
        refine r_imul (pc := 79) X dX12_basins_79 ?_
        refine r_iconst (pc := 80) X 1 dX12_basins_80 (by decide) ?_
        refine r_iadd (pc := 81) X dX12_basins_81 ?_
        refine r_aload_n (pc := 82) X dX12_basins_82 rfl ?_
        refine r_bipush (pc := 83) X 48 dX12_basins_83 (by decide) ?_
        refine r_bipush (pc := 85) X 10 dX12_basins_85 (by decide) ?_
        obtain ⟨u17, eu17, et8⟩ := ob et8
        obtain ⟨o18, eo18, et8⟩ := ob et8
        refine r_callVI (pc := 87) X [.int 48, .int 10] dX12_basins_87 ml_X12_159 vo_X12_oneOf ⟨Nat.le_refl _, Nat.le_refl _⟩ eu17 (ev_X12_oneOf (d := d - 1) (by omega) _ _ _ _ _ eo18) hd1 rfl (Nat.le_of_ble_eq_true rfl) rfl ?_
        obtain ⟨h19, eh19, et8⟩ := ob et8
        refine r_iast (pc := 90) X dX12_basins_90 eh19 ?_
        refine r_aload_n (pc := 91) X dX12_basins_91 rfl ?_
        obtain ⟨a20, ea20, et8⟩ := ob et8
        refine r_getR (pc := 92) X dX12_basins_92 fl_X12_30 rfl ea20 ?_
        refine r_iconst (pc := 95) X 3 dX12_basins_95 (by decide) ?_
        refine r_iload_n (pc := 96) X dX12_basins_96 rfl ?_
        refine r_imul (pc := 97) X dX12_basins_97 ?_
        refine r_iconst (pc := 98) X 2 dX12_basins_98 (by decide) ?_
        refine r_iadd (pc := 99) X dX12_basins_99 ?_
        refine r_aload_n (pc := 100) X dX12_basins_100 rfl ?_
        obtain ⟨u21, eu21, et8⟩ := ob et8
        obtain ⟨x22, ex22, et8⟩ := ob et8
        refine r_callVI (pc := 101) X [] dX12_basins_101 ml_X12_147 vo_X12_here ⟨Nat.le_refl _, Nat.le_refl _⟩ eu21 (ev_X12_here (d := d - 1) (by omega) _ _ _ ex22) hd1 rfl (Nat.le_of_ble_eq_true rfl) rfl ?_
        refine r_bipush (pc := 104) X 33 dX12_basins_104 (by decide) ?_
        obtain ⟨t23, et23, et8⟩ := ob et8
        have Jt23 : Jd Γ (0, 0) 114 [some (.ref v0), some (.int s.1), some (.int s.2.1), j3] [.int t23, .int ((3 * s.1) + 2), .ref a20] h19 := by
          obtain ⟨h24, eh24, et8⟩ := ob et8
          refine r_iast (pc := 114) X dX12_basins_114 eh24 ?_
          refine r_aload_n (pc := 115) X dX12_basins_115 rfl ?_
          obtain ⟨u25, eu25, et8⟩ := ob et8
          obtain ⟨x26, ex26, et8⟩ := ob et8
          refine r_callVI (pc := 116) X [] dX12_basins_116 ml_X12_143 vo_X12_fine ⟨Nat.le_refl _, Nat.le_refl _⟩ eu25 (ev_X12_fine (d := d - 1) (by omega) _ _ _ ex26) hd1 rfl (Nat.le_of_ble_eq_true rfl) rfl ?_
          obtain ⟨t27, et27, et8⟩ := ob et8
          have Jt27 : Jd Γ (0, 0) 148 [some (.ref v0), some (.int s.1), some (.int s.2.1), j3] [] t27 := by
            refine r_aload_n (pc := 148) X dX12_basins_148 rfl ?_
            refine r_dup (pc := 149) X dX12_basins_149 rfl ?_
            obtain ⟨x28, ex28, et8⟩ := ob et8
            refine r_getI (pc := 150) X dX12_basins_150 fl_X12_133 rfl ex28 ?_
            refine r_iconst (pc := 153) X 1 dX12_basins_153 (by decide) ?_
            refine r_iadd (pc := 154) X dX12_basins_154 ?_
            obtain ⟨h29, eh29, et8⟩ := ob et8
            refine r_putI (pc := 155) X dX12_basins_155 fp_X12_133 rfl eh29 ?_
            obtain rfl := Option.some.inj et8
            exact Jt8
          refine r_if_eq (pc := 119) X 148 dX12_basins_119 (by decide) (fun c39 => ?_) (fun c39 => ?_)
          · rw [if_pos c39] at et27
            obtain rfl := Option.some.inj et27
            exact Jt27
          · rw [if_neg c39] at et27
            refine r_aload_n (pc := 122) X dX12_basins_122 rfl ?_
            obtain ⟨u30, eu30, et27⟩ := ob et27
            obtain ⟨x31, ex31, et27⟩ := ob et27
            refine r_callVI (pc := 123) X [] dX12_basins_123 ml_X12_147 vo_X12_here ⟨Nat.le_refl _, Nat.le_refl _⟩ eu30 (ev_X12_here (d := d - 1) (by omega) _ _ _ ex31) hd1 rfl (Nat.le_of_ble_eq_true rfl) rfl ?_
            refine r_bipush (pc := 126) X 33 dX12_basins_126 (by decide) ?_
            refine r_icmp_eq (pc := 128) X 148 dX12_basins_128 (by decide) (fun c38 => ?_) (fun c38 => ?_)
            · rw [if_pos c38] at et27
              obtain rfl := Option.some.inj et27
              exact Jt27
            · rw [if_neg c38] at et27
              refine r_aload_n (pc := 131) X dX12_basins_131 rfl ?_
              obtain ⟨u32, eu32, et27⟩ := ob et27
              obtain ⟨x33, ex33, et27⟩ := ob et27
              refine r_callVI (pc := 132) X [] dX12_basins_132 ml_X12_147 vo_X12_here ⟨Nat.le_refl _, Nat.le_refl _⟩ eu32 (ev_X12_here (d := d - 1) (by omega) _ _ _ ex33) hd1 rfl (Nat.le_of_ble_eq_true rfl) rfl ?_
              refine r_bipush (pc := 135) X 46 dX12_basins_135 (by decide) ?_
              refine r_icmp_eq (pc := 137) X 148 dX12_basins_137 (by decide) (fun c37 => ?_) (fun c37 => ?_)
              · rw [if_pos c37] at et27
                obtain rfl := Option.some.inj et27
                exact Jt27
              · rw [if_neg c37] at et27
                refine r_aload_n (pc := 140) X dX12_basins_140 rfl ?_
                refine r_aload_n (pc := 141) X dX12_basins_141 rfl ?_
                obtain ⟨x34, ex34, et27⟩ := ob et27
                refine r_getI (pc := 142) X dX12_basins_142 fl_X12_133 rfl ex34 ?_
                obtain ⟨u35, eu35, et27⟩ := ob et27
                obtain ⟨h36, eh36, et27⟩ := ob et27
                refine r_callVV (pc := 145) X [.int x34] dX12_basins_145 ml_X12_155 vo_X12_fault ⟨Nat.le_refl _, Nat.le_refl _⟩ eu35 (ev_X12_fault (d := d - 1) (by omega) _ _ _ _ eh36) hd1 rfl (Nat.le_of_ble_eq_true rfl) rfl ?_
                obtain rfl := Option.some.inj et27
                exact Jt27
        refine r_icmp_ne (pc := 106) X 113 dX12_basins_106 (by decide) (fun c40 => ?_) (fun c40 => ?_)
        · rw [if_neg c40] at et23
          refine r_iconst (pc := 113) X 0 dX12_basins_113 (by decide) ?_
          obtain rfl := Option.some.inj et23
          exact Jt23
        · rw [if_pos c40] at et23
          refine r_iconst (pc := 109) X 1 dX12_basins_109 (by decide) ?_
          refine r_goto (pc := 110) X 114 dX12_basins_110 (by decide) ?_
          obtain rfl := Option.some.inj et23
          exact Jt23
      · rw [if_pos c44] at et8
        refine r_aload_n (pc := 46) X dX12_basins_46 rfl ?_
        refine r_aload_n (pc := 47) X dX12_basins_47 rfl ?_
        obtain ⟨x41, ex41, et8⟩ := ob et8
        refine r_getI (pc := 48) X dX12_basins_48 fl_X12_133 rfl ex41 ?_
        obtain ⟨u42, eu42, et8⟩ := ob et8
        obtain ⟨h43, eh43, et8⟩ := ob et8
        refine r_callVV (pc := 51) X [.int x41] dX12_basins_51 ml_X12_155 vo_X12_fault ⟨Nat.le_refl _, Nat.le_refl _⟩ eu42 (ev_X12_fault (d := d - 1) (by omega) _ _ _ _ eh43) hd1 rfl (Nat.le_of_ble_eq_true rfl) rfl ?_
        refine r_goto (pc := 54) X 158 dX12_basins_54 (by decide) ?_
        obtain rfl := Option.some.inj et8
        exact Jt8
def lb_X12_basins_187 (v0 : Nat) (v1 : Int32) (s : Int32 × aH) : Option ((Int32 × aH) ⊕ ((aH))) :=
  if s.1 < v1 then
    (gR s.2 v0 11 0).bind fun a52 =>
    (gI s.2 v0 11 1).bind fun x53 =>
    (gR s.2 v0 11 17).bind fun a54 =>
    (aI s.2 a54 14 (3 * s.1)).bind fun x55 =>
    (wI s.2 a52 x53 x55).bind fun h56 =>
    (gR h56 v0 11 0).bind fun a57 =>
    (gI h56 v0 11 1).bind fun x58 =>
    (gR h56 v0 11 17).bind fun a59 =>
    (aI h56 a59 14 ((3 * s.1) + 1)).bind fun x60 =>
    (wI h56 a57 (6 + x58) x60).bind fun h61 =>
    (gI h61 v0 11 3).bind fun x62 =>
    (gI h61 v0 11 1).bind fun x63 =>
    (gR h61 v0 11 17).bind fun a64 =>
    (aI h61 a64 14 ((3 * s.1) + 2)).bind fun x65 =>
    (gI h61 v0 11 1).bind fun x66 =>
    (pI h61 v0 11 3 ((x62 &&& ((1 <<< (x63 &&& 31)) ^^^ (-1))) ||| (x65 <<< (x66 &&& 31)))).bind fun h67 =>
    (gI h67 v0 11 1).bind fun x68 =>
    (pI h67 v0 11 1 (x68 + 1)).bind fun h69 =>
    (some (s.1 + 1)).bind fun x70 =>
    some (.inl (x70, h69))
  else
    some (.inr s.2)
def hd_X12_basins_187 (Γ : aC) (v0 : Nat) (v1 : Int32) (s : Int32 × aH) : Prop := ∀ (j2 : Option Value), Jd Γ (0, 0) 187 [some (.ref v0), some (.int v1), j2, some (.int s.1)] [] s.2
def ex_X12_basins_187 (Γ : aC) (v0 : Nat) (v1 : Int32) (r : (aH)) : Prop := (fun r => ∀ (j2 : Option Value) (j3 : Option Value), Jd Γ (0, 0) 280 [some (.ref v0), some (.int v1), j2, j3] [] r) r
set_option maxRecDepth 20000 in
set_option maxHeartbeats 4000000 in
theorem lw_X12_basins_187 {Γ : aC} {d : Nat} (X : Cx Γ RX12 cX12_basins 4 (some .int) (d, 0, 0)) (hd : 3 ≤ d) (v0 : Nat) (v1 : Int32) : ∀ n s o, lp (lb_X12_basins_187 v0 v1) n s = some o → ex_X12_basins_187 Γ v0 v1 o → hd_X12_basins_187 Γ v0 v1 s := by
  have hd1 : 1 ≤ d := by omega
  refine J_lp _ _ _ ?_
  intro s o hf hk j2
  unfold lb_X12_basins_187 at hf
  refine r_iload_n (pc := 187) X dX12_basins_187 rfl ?_
  refine r_iload_n (pc := 188) X dX12_basins_188 rfl ?_
  refine r_icmp_ge (pc := 189) X 280 dX12_basins_189 (by decide) (fun c71 => ?_) (fun c71 => ?_)
  · rw [if_neg c71] at hf
    obtain rfl := Option.some.inj hf
    exact hk _ _
  · rw [if_pos c71] at hf
    refine r_aload_n (pc := 192) X dX12_basins_192 rfl ?_
    obtain ⟨a52, ea52, hf⟩ := ob hf
    refine r_getR (pc := 193) X dX12_basins_193 fl_X12_9 rfl ea52 ?_
    refine r_aload_n (pc := 196) X dX12_basins_196 rfl ?_
    obtain ⟨x53, ex53, hf⟩ := ob hf
    refine r_getI (pc := 197) X dX12_basins_197 fl_X12_107 rfl ex53 ?_
    refine r_aload_n (pc := 200) X dX12_basins_200 rfl ?_
    obtain ⟨a54, ea54, hf⟩ := ob hf
    refine r_getR (pc := 201) X dX12_basins_201 fl_X12_30 rfl ea54 ?_
    refine r_iconst (pc := 204) X 3 dX12_basins_204 (by decide) ?_
    refine r_iload_n (pc := 205) X dX12_basins_205 rfl ?_
    refine r_imul (pc := 206) X dX12_basins_206 ?_
    obtain ⟨x55, ex55, hf⟩ := ob hf
    refine r_iald (pc := 207) X dX12_basins_207 ex55 ?_
    obtain ⟨h56, eh56, hf⟩ := ob hf
    refine r_iast (pc := 208) X dX12_basins_208 eh56 ?_
    refine r_aload_n (pc := 209) X dX12_basins_209 rfl ?_
    obtain ⟨a57, ea57, hf⟩ := ob hf
    refine r_getR (pc := 210) X dX12_basins_210 fl_X12_9 rfl ea57 ?_
    refine r_bipush (pc := 213) X 6 dX12_basins_213 (by decide) ?_
    refine r_aload_n (pc := 215) X dX12_basins_215 rfl ?_
    obtain ⟨x58, ex58, hf⟩ := ob hf
    refine r_getI (pc := 216) X dX12_basins_216 fl_X12_107 rfl ex58 ?_
    refine r_iadd (pc := 219) X dX12_basins_219 ?_
    refine r_aload_n (pc := 220) X dX12_basins_220 rfl ?_
    obtain ⟨a59, ea59, hf⟩ := ob hf
    refine r_getR (pc := 221) X dX12_basins_221 fl_X12_30 rfl ea59 ?_
    refine r_iconst (pc := 224) X 3 dX12_basins_224 (by decide) ?_
    refine r_iload_n (pc := 225) X dX12_basins_225 rfl ?_
    refine r_imul (pc := 226) X dX12_basins_226 ?_
    refine r_iconst (pc := 227) X 1 dX12_basins_227 (by decide) ?_
    refine r_iadd (pc := 228) X dX12_basins_228 ?_
    obtain ⟨x60, ex60, hf⟩ := ob hf
    refine r_iald (pc := 229) X dX12_basins_229 ex60 ?_
    obtain ⟨h61, eh61, hf⟩ := ob hf
    refine r_iast (pc := 230) X dX12_basins_230 eh61 ?_
    refine r_aload_n (pc := 231) X dX12_basins_231 rfl ?_
    refine r_aload_n (pc := 232) X dX12_basins_232 rfl ?_
    obtain ⟨x62, ex62, hf⟩ := ob hf
    refine r_getI (pc := 233) X dX12_basins_233 fl_X12_175 rfl ex62 ?_
    refine r_iconst (pc := 236) X 1 dX12_basins_236 (by decide) ?_
    refine r_aload_n (pc := 237) X dX12_basins_237 rfl ?_
    obtain ⟨x63, ex63, hf⟩ := ob hf
    refine r_getI (pc := 238) X dX12_basins_238 fl_X12_107 rfl ex63 ?_
    refine r_ishl (pc := 241) X dX12_basins_241 ?_
    refine r_iconst (pc := 242) X (-1) dX12_basins_242 (by decide) ?_
    refine r_ixor (pc := 243) X dX12_basins_243 ?_
    refine r_iand (pc := 244) X dX12_basins_244 ?_
    refine r_aload_n (pc := 245) X dX12_basins_245 rfl ?_
    obtain ⟨a64, ea64, hf⟩ := ob hf
    refine r_getR (pc := 246) X dX12_basins_246 fl_X12_30 rfl ea64 ?_
    refine r_iconst (pc := 249) X 3 dX12_basins_249 (by decide) ?_
    refine r_iload_n (pc := 250) X dX12_basins_250 rfl ?_
    refine r_imul (pc := 251) X dX12_basins_251 ?_
    refine r_iconst (pc := 252) X 2 dX12_basins_252 (by decide) ?_
    refine r_iadd (pc := 253) X dX12_basins_253 ?_
    obtain ⟨x65, ex65, hf⟩ := ob hf
    refine r_iald (pc := 254) X dX12_basins_254 ex65 ?_
    refine r_aload_n (pc := 255) X dX12_basins_255 rfl ?_
    obtain ⟨x66, ex66, hf⟩ := ob hf
    refine r_getI (pc := 256) X dX12_basins_256 fl_X12_107 rfl ex66 ?_
    refine r_ishl (pc := 259) X dX12_basins_259 ?_
    refine r_ior (pc := 260) X dX12_basins_260 ?_
    obtain ⟨h67, eh67, hf⟩ := ob hf
    refine r_putI (pc := 261) X dX12_basins_261 fp_X12_175 rfl eh67 ?_
    refine r_aload_n (pc := 264) X dX12_basins_264 rfl ?_
    refine r_dup (pc := 265) X dX12_basins_265 rfl ?_
    obtain ⟨x68, ex68, hf⟩ := ob hf
    refine r_getI (pc := 266) X dX12_basins_266 fl_X12_107 rfl ex68 ?_
    refine r_iconst (pc := 269) X 1 dX12_basins_269 (by decide) ?_
    refine r_iadd (pc := 270) X dX12_basins_270 ?_
    obtain ⟨h69, eh69, hf⟩ := ob hf
    refine r_putI (pc := 271) X dX12_basins_271 fp_X12_107 rfl eh69 ?_
    obtain ⟨x70, ex70, hf⟩ := ob hf
    refine r_fg 2 [some (.ref v0), some (.int v1), none, some (.int s.1)] rfl ?_
    refine r_iinc2 (pc := 274) X 1 [some (.ref v0), some (.int v1), none, some (.int x70)] dX12_basins_274 (by decide) rfl (by decide) ex70 rfl ?_
    refine r_goto (pc := 277) X 187 dX12_basins_277 (by decide) ?_
    obtain rfl := Option.some.inj hf
    exact hk _
def fn_X12_basins (h : aH) (p0 : Nat) : Option (Int32 × aH) :=
  (pI h p0 11 11 0).bind fun h1 =>
  (ck h1 p0 11).bind fun u2 =>
  (fn_X12_beginText h1 p0 23).bind fun h3 =>
  (gI h3 p0 11 13).bind fun x4 =>
  if x4 = 0 then
    some (0, h3)
  else
    (lp (lb_X12_basins_24 p0) lpN (0, 1, h3)).bind fun o47 =>
    (ck o47.2 p0 11).bind fun u50 =>
    (fn_X12_wasRight o47.2 p0).bind fun o51 =>
    if o51.1 = 0 then
      (gI o51.2 p0 11 16).bind fun x77 =>
      some (((-1) - x77), o51.2)
    else
      (lp (lb_X12_basins_187 p0 o47.1) lpN (0, o51.2)).bind fun o72 =>
      (ck o72 p0 11).bind fun u75 =>
      (fn_X12_told o72 p0).bind fun h76 =>
      some (o47.1, h76)
set_option maxRecDepth 20000 in
set_option maxHeartbeats 4000000 in
theorem ev_X12_basins {l : Launch} {g : aG} {d : Nat} (hd : 3 ≤ d) (h : aH) (p0 : Nat) (o : Int32 × aH) (hf : fn_X12_basins h p0 = some o) : EvM l g d yX12_basins cX12_basins 4 (some .int) [.ref p0] h (some (.int o.1), o.2) := by
  refine EvM.of mk_X12_basins (Nat.le_of_ble_eq_true rfl) ?_
  intro Γ hl hg hq X
  have hd1 : 1 ≤ d := by omega
  have hk : RqI Γ o := hq
  unfold fn_X12_basins at hf
  show Jd Γ (0, 0) 0 [some (.ref p0), none, none, none] [] h
  refine r_aload_n (pc := 0) X dX12_basins_0 rfl ?_
  refine r_iconst (pc := 1) X 0 dX12_basins_1 (by decide) ?_
  obtain ⟨h1, eh1, hf⟩ := ob hf
  refine r_putI (pc := 2) X dX12_basins_2 fp_X12_100 rfl eh1 ?_
  refine r_aload_n (pc := 5) X dX12_basins_5 rfl ?_
  refine r_bipush (pc := 6) X 23 dX12_basins_6 (by decide) ?_
  obtain ⟨u2, eu2, hf⟩ := ob hf
  obtain ⟨h3, eh3, hf⟩ := ob hf
  refine r_callVV (pc := 8) X [.int 23] dX12_basins_8 ml_X12_169 vo_X12_beginText ⟨Nat.le_refl _, Nat.le_refl _⟩ eu2 (ev_X12_beginText (d := d - 1) (by omega) _ _ _ _ eh3) hd1 rfl (Nat.le_of_ble_eq_true rfl) rfl ?_
  refine r_aload_n (pc := 11) X dX12_basins_11 rfl ?_
  obtain ⟨x4, ex4, hf⟩ := ob hf
  refine r_getI (pc := 12) X dX12_basins_12 fl_X12_127 rfl ex4 ?_
  refine r_if_ne (pc := 15) X 20 dX12_basins_15 (by decide) (fun c79 => ?_) (fun c79 => ?_)
  · rw [if_neg c79] at hf
    refine r_iconst (pc := 20) X 0 dX12_basins_20 (by decide) ?_
    refine r_istore_n (pc := 21) X [some (.ref p0), some (.int 0), none, none] dX12_basins_21 (by decide) rfl ?_
    refine r_iconst (pc := 22) X 1 dX12_basins_22 (by decide) ?_
    refine r_istore_n (pc := 23) X [some (.ref p0), some (.int 0), some (.int 1), none] dX12_basins_23 (by decide) rfl ?_
    obtain ⟨o47, eo47, hf⟩ := ob hf
    refine (lw_X12_basins_24 X hd _ lpN _ o47 eo47 ?_) _
    intro j48 j49
    refine r_aload_n (pc := 171) X dX12_basins_171 rfl ?_
    obtain ⟨u50, eu50, hf⟩ := ob hf
    obtain ⟨o51, eo51, hf⟩ := ob hf
    refine r_callVI (pc := 172) X [] dX12_basins_172 ml_X12_172 vo_X12_wasRight ⟨Nat.le_refl _, Nat.le_refl _⟩ eu50 (ev_X12_wasRight (d := d - 1) (by omega) _ _ _ eo51) hd1 rfl (Nat.le_of_ble_eq_true rfl) rfl ?_
    refine r_if_ne (pc := 175) X 185 dX12_basins_175 (by decide) (fun c78 => ?_) (fun c78 => ?_)
    · rw [if_neg c78] at hf
      refine r_iconst (pc := 185) X 0 dX12_basins_185 (by decide) ?_
      refine r_fg 2 [some (.ref p0), some (.int o47.1), none, j49] rfl ?_
      refine r_istore_n (pc := 186) X [some (.ref p0), some (.int o47.1), none, some (.int 0)] dX12_basins_186 (by decide) rfl ?_
      obtain ⟨o72, eo72, hf⟩ := ob hf
      refine (lw_X12_basins_187 X hd _ _ lpN _ o72 eo72 ?_) _
      intro j73 j74
      refine r_aload_n (pc := 280) X dX12_basins_280 rfl ?_
      obtain ⟨u75, eu75, hf⟩ := ob hf
      obtain ⟨h76, eh76, hf⟩ := ob hf
      refine r_callVV (pc := 281) X [] dX12_basins_281 ml_X12_178 vo_X12_told ⟨Nat.le_refl _, Nat.le_refl _⟩ eu75 (ev_X12_told (d := d - 1) (by omega) _ _ _ eh76) hd1 rfl (Nat.le_of_ble_eq_true rfl) rfl ?_
      refine r_iload_n (pc := 284) X dX12_basins_284 rfl ?_
      obtain rfl := Option.some.inj hf
      exact r_iret (pc := 285) X dX12_basins_285 hk
    · rw [if_pos c78] at hf
      refine r_iconst (pc := 178) X (-1) dX12_basins_178 (by decide) ?_
      refine r_aload_n (pc := 179) X dX12_basins_179 rfl ?_
      obtain ⟨x77, ex77, hf⟩ := ob hf
      refine r_getI (pc := 180) X dX12_basins_180 fl_X12_136 rfl ex77 ?_
      refine r_isub (pc := 183) X dX12_basins_183 ?_
      obtain rfl := Option.some.inj hf
      exact r_iret (pc := 184) X dX12_basins_184 hk
  · rw [if_pos c79] at hf
    refine r_iconst (pc := 18) X 0 dX12_basins_18 (by decide) ?_
    obtain rfl := Option.some.inj hf
    exact r_iret (pc := 19) X dX12_basins_19 hk

theorem dX12_readSluice_0 : decode cX12_readSluice 0 = .ok (.aload_n 0, 1) := by decide +kernel
theorem dX12_readSluice_1 : decode cX12_readSluice 1 = .ok (.getfield 30, 3) := by decide +kernel
theorem dX12_readSluice_4 : decode cX12_readSluice 4 = .ok (.iload_n 1, 1) := by decide +kernel
theorem dX12_readSluice_5 : decode cX12_readSluice 5 = .ok (.aload_n 0, 1) := by decide +kernel
theorem dX12_readSluice_6 : decode cX12_readSluice 6 = .ok (.bipush 48, 2) := by decide +kernel
theorem dX12_readSluice_8 : decode cX12_readSluice 8 = .ok (.aload_n 0, 1) := by decide +kernel
theorem dX12_readSluice_9 : decode cX12_readSluice 9 = .ok (.getfield 107, 3) := by decide +kernel
theorem dX12_readSluice_12 : decode cX12_readSluice 12 = .ok (.invokevirtual 159, 3) := by decide +kernel
theorem dX12_readSluice_15 : decode cX12_readSluice 15 = .ok (.iastore, 1) := by decide +kernel
theorem dX12_readSluice_16 : decode cX12_readSluice 16 = .ok (.aload_n 0, 1) := by decide +kernel
theorem dX12_readSluice_17 : decode cX12_readSluice 17 = .ok (.invokevirtual 143, 3) := by decide +kernel
theorem dX12_readSluice_20 : decode cX12_readSluice 20 = .ok (.ifCond .eq 27, 3) := by decide +kernel
theorem dX12_readSluice_23 : decode cX12_readSluice 23 = .ok (.aload_n 0, 1) := by decide +kernel
theorem dX12_readSluice_24 : decode cX12_readSluice 24 = .ok (.invokevirtual 147, 3) := by decide +kernel
theorem dX12_readSluice_27 : decode cX12_readSluice 27 = .ok (.bipush 48, 2) := by decide +kernel
theorem dX12_readSluice_29 : decode cX12_readSluice 29 = .ok (.aload_n 0, 1) := by decide +kernel
theorem dX12_readSluice_30 : decode cX12_readSluice 30 = .ok (.getfield 30, 3) := by decide +kernel
theorem dX12_readSluice_33 : decode cX12_readSluice 33 = .ok (.iload_n 1, 1) := by decide +kernel
theorem dX12_readSluice_34 : decode cX12_readSluice 34 = .ok (.iaload, 1) := by decide +kernel
theorem dX12_readSluice_35 : decode cX12_readSluice 35 = .ok (.iadd, 1) := by decide +kernel
theorem dX12_readSluice_36 : decode cX12_readSluice 36 = .ok (.if_icmp .ne 11, 3) := by decide +kernel
theorem dX12_readSluice_39 : decode cX12_readSluice 39 = .ok (.aload_n 0, 1) := by decide +kernel
theorem dX12_readSluice_40 : decode cX12_readSluice 40 = .ok (.aload_n 0, 1) := by decide +kernel
theorem dX12_readSluice_41 : decode cX12_readSluice 41 = .ok (.getfield 133, 3) := by decide +kernel
theorem dX12_readSluice_44 : decode cX12_readSluice 44 = .ok (.invokevirtual 155, 3) := by decide +kernel
theorem dX12_readSluice_47 : decode cX12_readSluice 47 = .ok (.aload_n 0, 1) := by decide +kernel
theorem dX12_readSluice_48 : decode cX12_readSluice 48 = .ok (.getfield 30, 3) := by decide +kernel
theorem dX12_readSluice_51 : decode cX12_readSluice 51 = .ok (.iload_n 1, 1) := by decide +kernel
theorem dX12_readSluice_52 : decode cX12_readSluice 52 = .ok (.iconst 1, 1) := by decide +kernel
theorem dX12_readSluice_53 : decode cX12_readSluice 53 = .ok (.iadd, 1) := by decide +kernel
theorem dX12_readSluice_54 : decode cX12_readSluice 54 = .ok (.aload_n 0, 1) := by decide +kernel
theorem dX12_readSluice_55 : decode cX12_readSluice 55 = .ok (.bipush 48, 2) := by decide +kernel
theorem dX12_readSluice_57 : decode cX12_readSluice 57 = .ok (.aload_n 0, 1) := by decide +kernel
theorem dX12_readSluice_58 : decode cX12_readSluice 58 = .ok (.getfield 107, 3) := by decide +kernel
theorem dX12_readSluice_61 : decode cX12_readSluice 61 = .ok (.invokevirtual 159, 3) := by decide +kernel
theorem dX12_readSluice_64 : decode cX12_readSluice 64 = .ok (.iastore, 1) := by decide +kernel
theorem dX12_readSluice_65 : decode cX12_readSluice 65 = .ok (.aload_n 0, 1) := by decide +kernel
theorem dX12_readSluice_66 : decode cX12_readSluice 66 = .ok (.getfield 30, 3) := by decide +kernel
theorem dX12_readSluice_69 : decode cX12_readSluice 69 = .ok (.iload_n 1, 1) := by decide +kernel
theorem dX12_readSluice_70 : decode cX12_readSluice 70 = .ok (.iconst 2, 1) := by decide +kernel
theorem dX12_readSluice_71 : decode cX12_readSluice 71 = .ok (.iadd, 1) := by decide +kernel
theorem dX12_readSluice_72 : decode cX12_readSluice 72 = .ok (.aload_n 0, 1) := by decide +kernel
theorem dX12_readSluice_73 : decode cX12_readSluice 73 = .ok (.invokevirtual 147, 3) := by decide +kernel
theorem dX12_readSluice_76 : decode cX12_readSluice 76 = .ok (.bipush 103, 2) := by decide +kernel
theorem dX12_readSluice_78 : decode cX12_readSluice 78 = .ok (.if_icmp .ne 7, 3) := by decide +kernel
theorem dX12_readSluice_81 : decode cX12_readSluice 81 = .ok (.iconst 0, 1) := by decide +kernel
theorem dX12_readSluice_82 : decode cX12_readSluice 82 = .ok (.goto 17, 3) := by decide +kernel
theorem dX12_readSluice_85 : decode cX12_readSluice 85 = .ok (.aload_n 0, 1) := by decide +kernel
theorem dX12_readSluice_86 : decode cX12_readSluice 86 = .ok (.invokevirtual 147, 3) := by decide +kernel
theorem dX12_readSluice_89 : decode cX12_readSluice 89 = .ok (.bipush 119, 2) := by decide +kernel
theorem dX12_readSluice_91 : decode cX12_readSluice 91 = .ok (.if_icmp .ne 7, 3) := by decide +kernel
theorem dX12_readSluice_94 : decode cX12_readSluice 94 = .ok (.iconst 1, 1) := by decide +kernel
theorem dX12_readSluice_95 : decode cX12_readSluice 95 = .ok (.goto 4, 3) := by decide +kernel
theorem dX12_readSluice_98 : decode cX12_readSluice 98 = .ok (.iconst 2, 1) := by decide +kernel
theorem dX12_readSluice_99 : decode cX12_readSluice 99 = .ok (.iastore, 1) := by decide +kernel
theorem dX12_readSluice_100 : decode cX12_readSluice 100 = .ok (.aload_n 0, 1) := by decide +kernel
theorem dX12_readSluice_101 : decode cX12_readSluice 101 = .ok (.invokevirtual 143, 3) := by decide +kernel
theorem dX12_readSluice_104 : decode cX12_readSluice 104 = .ok (.ifCond .eq 38, 3) := by decide +kernel
theorem dX12_readSluice_107 : decode cX12_readSluice 107 = .ok (.aload_n 0, 1) := by decide +kernel
theorem dX12_readSluice_108 : decode cX12_readSluice 108 = .ok (.invokevirtual 147, 3) := by decide +kernel
theorem dX12_readSluice_111 : decode cX12_readSluice 111 = .ok (.bipush 103, 2) := by decide +kernel
theorem dX12_readSluice_113 : decode cX12_readSluice 113 = .ok (.if_icmp .eq 29, 3) := by decide +kernel
theorem dX12_readSluice_116 : decode cX12_readSluice 116 = .ok (.aload_n 0, 1) := by decide +kernel
theorem dX12_readSluice_117 : decode cX12_readSluice 117 = .ok (.invokevirtual 147, 3) := by decide +kernel
theorem dX12_readSluice_120 : decode cX12_readSluice 120 = .ok (.bipush 119, 2) := by decide +kernel
theorem dX12_readSluice_122 : decode cX12_readSluice 122 = .ok (.if_icmp .eq 20, 3) := by decide +kernel
theorem dX12_readSluice_125 : decode cX12_readSluice 125 = .ok (.aload_n 0, 1) := by decide +kernel
theorem dX12_readSluice_126 : decode cX12_readSluice 126 = .ok (.invokevirtual 147, 3) := by decide +kernel
theorem dX12_readSluice_129 : decode cX12_readSluice 129 = .ok (.bipush 115, 2) := by decide +kernel
theorem dX12_readSluice_131 : decode cX12_readSluice 131 = .ok (.if_icmp .eq 11, 3) := by decide +kernel
theorem dX12_readSluice_134 : decode cX12_readSluice 134 = .ok (.aload_n 0, 1) := by decide +kernel
theorem dX12_readSluice_135 : decode cX12_readSluice 135 = .ok (.aload_n 0, 1) := by decide +kernel
theorem dX12_readSluice_136 : decode cX12_readSluice 136 = .ok (.getfield 133, 3) := by decide +kernel
theorem dX12_readSluice_139 : decode cX12_readSluice 139 = .ok (.invokevirtual 155, 3) := by decide +kernel
theorem dX12_readSluice_142 : decode cX12_readSluice 142 = .ok (.aload_n 0, 1) := by decide +kernel
theorem dX12_readSluice_143 : decode cX12_readSluice 143 = .ok (.dup, 1) := by decide +kernel
theorem dX12_readSluice_144 : decode cX12_readSluice 144 = .ok (.getfield 133, 3) := by decide +kernel
theorem dX12_readSluice_147 : decode cX12_readSluice 147 = .ok (.iconst 1, 1) := by decide +kernel
theorem dX12_readSluice_148 : decode cX12_readSluice 148 = .ok (.iadd, 1) := by decide +kernel
theorem dX12_readSluice_149 : decode cX12_readSluice 149 = .ok (.putfield 133, 3) := by decide +kernel
theorem dX12_readSluice_152 : decode cX12_readSluice 152 = .ok (.return_, 1) := by decide +kernel
def fn_X12_readSluice (h : aH) (p0 : Nat) (p1 : Int32) : Option (aH) :=
  (gR h p0 11 17).bind fun a1 =>
  (gI h p0 11 1).bind fun x2 =>
  (ck h p0 11).bind fun u3 =>
  (fn_X12_oneOf h p0 48 x2).bind fun o4 =>
  (wI o4.2 a1 p1 o4.1).bind fun h5 =>
  (ck h5 p0 11).bind fun u6 =>
  (fn_X12_fine h5 p0).bind fun x7 =>
  ((
    if x7 = 0 then
      some h5
    else
      (ck h5 p0 11).bind fun u41 =>
      (fn_X12_here h5 p0).bind fun x42 =>
      (gR h5 p0 11 17).bind fun a43 =>
      (aI h5 a43 14 p1).bind fun x44 =>
      if x42 = (48 + x44) then
        (gI h5 p0 11 15).bind fun x45 =>
        (ck h5 p0 11).bind fun u46 =>
        (fn_X12_fault h5 p0 x45).bind fun h47 =>
        some h47
      else
        some h5
  ) : Option (aH)).bind fun t8 =>
  (gR t8 p0 11 17).bind fun a9 =>
  (gI t8 p0 11 1).bind fun x10 =>
  (ck t8 p0 11).bind fun u11 =>
  (fn_X12_oneOf t8 p0 48 x10).bind fun o12 =>
  (wI o12.2 a9 (p1 + 1) o12.1).bind fun h13 =>
  (gR h13 p0 11 17).bind fun a14 =>
  (ck h13 p0 11).bind fun u15 =>
  (fn_X12_here h13 p0).bind fun x16 =>
  ((
    if x16 = 103 then
      some 0
    else
      (ck h13 p0 11).bind fun u37 =>
      (fn_X12_here h13 p0).bind fun x38 =>
      if x38 = 119 then
        some 1
      else
        some 2
  ) : Option (Int32)).bind fun t17 =>
  (wI h13 a14 (p1 + 2) t17).bind fun h18 =>
  (ck h18 p0 11).bind fun u19 =>
  (fn_X12_fine h18 p0).bind fun x20 =>
  ((
    if x20 = 0 then
      some h18
    else
      (ck h18 p0 11).bind fun u24 =>
      (fn_X12_here h18 p0).bind fun x25 =>
      if x25 = 103 then
        some h18
      else
        (ck h18 p0 11).bind fun u26 =>
        (fn_X12_here h18 p0).bind fun x27 =>
        if x27 = 119 then
          some h18
        else
          (ck h18 p0 11).bind fun u28 =>
          (fn_X12_here h18 p0).bind fun x29 =>
          if x29 = 115 then
            some h18
          else
            (gI h18 p0 11 15).bind fun x30 =>
            (ck h18 p0 11).bind fun u31 =>
            (fn_X12_fault h18 p0 x30).bind fun h32 =>
            some h32
  ) : Option (aH)).bind fun t21 =>
  (gI t21 p0 11 15).bind fun x22 =>
  (pI t21 p0 11 15 (x22 + 1)).bind fun h23 =>
  some h23
set_option maxRecDepth 20000 in
set_option maxHeartbeats 4000000 in
theorem ev_X12_readSluice {l : Launch} {g : aG} {d : Nat} (hd : 3 ≤ d) (h : aH) (p0 : Nat) (p1 : Int32) (o : aH) (hf : fn_X12_readSluice h p0 p1 = some o) : EvM l g d yX12_readSluice cX12_readSluice 2 none [.ref p0, .int p1] h (none, o) := by
  refine EvM.of mk_X12_readSluice (Nat.le_of_ble_eq_true rfl) ?_
  intro Γ hl hg hq X
  have hd1 : 1 ≤ d := by omega
  have hk : RqV Γ o := hq
  unfold fn_X12_readSluice at hf
  show Jd Γ (0, 0) 0 [some (.ref p0), some (.int p1)] [] h
  refine r_aload_n (pc := 0) X dX12_readSluice_0 rfl ?_
  obtain ⟨a1, ea1, hf⟩ := ob hf
  refine r_getR (pc := 1) X dX12_readSluice_1 fl_X12_30 rfl ea1 ?_
  refine r_iload_n (pc := 4) X dX12_readSluice_4 rfl ?_
  refine r_aload_n (pc := 5) X dX12_readSluice_5 rfl ?_
  refine r_bipush (pc := 6) X 48 dX12_readSluice_6 (by decide) ?_
  refine r_aload_n (pc := 8) X dX12_readSluice_8 rfl ?_
  obtain ⟨x2, ex2, hf⟩ := ob hf
  refine r_getI (pc := 9) X dX12_readSluice_9 fl_X12_107 rfl ex2 ?_
  obtain ⟨u3, eu3, hf⟩ := ob hf
  obtain ⟨o4, eo4, hf⟩ := ob hf
  refine r_callVI (pc := 12) X [.int 48, .int x2] dX12_readSluice_12 ml_X12_159 vo_X12_oneOf ⟨Nat.le_refl _, Nat.le_refl _⟩ eu3 (ev_X12_oneOf (d := d - 1) (by omega) _ _ _ _ _ eo4) hd1 rfl (Nat.le_of_ble_eq_true rfl) rfl ?_
  obtain ⟨h5, eh5, hf⟩ := ob hf
  refine r_iast (pc := 15) X dX12_readSluice_15 eh5 ?_
  refine r_aload_n (pc := 16) X dX12_readSluice_16 rfl ?_
  obtain ⟨u6, eu6, hf⟩ := ob hf
  obtain ⟨x7, ex7, hf⟩ := ob hf
  refine r_callVI (pc := 17) X [] dX12_readSluice_17 ml_X12_143 vo_X12_fine ⟨Nat.le_refl _, Nat.le_refl _⟩ eu6 (ev_X12_fine (d := d - 1) (by omega) _ _ _ ex7) hd1 rfl (Nat.le_of_ble_eq_true rfl) rfl ?_
  obtain ⟨t8, et8, hf⟩ := ob hf
  have Jt8 : Jd Γ (0, 0) 47 [some (.ref p0), some (.int p1)] [] t8 := by
    refine r_aload_n (pc := 47) X dX12_readSluice_47 rfl ?_
    obtain ⟨a9, ea9, hf⟩ := ob hf
    refine r_getR (pc := 48) X dX12_readSluice_48 fl_X12_30 rfl ea9 ?_
    refine r_iload_n (pc := 51) X dX12_readSluice_51 rfl ?_
    refine r_iconst (pc := 52) X 1 dX12_readSluice_52 (by decide) ?_
    refine r_iadd (pc := 53) X dX12_readSluice_53 ?_
    refine r_aload_n (pc := 54) X dX12_readSluice_54 rfl ?_
    refine r_bipush (pc := 55) X 48 dX12_readSluice_55 (by decide) ?_
    refine r_aload_n (pc := 57) X dX12_readSluice_57 rfl ?_
    obtain ⟨x10, ex10, hf⟩ := ob hf
    refine r_getI (pc := 58) X dX12_readSluice_58 fl_X12_107 rfl ex10 ?_
    obtain ⟨u11, eu11, hf⟩ := ob hf
    obtain ⟨o12, eo12, hf⟩ := ob hf
    refine r_callVI (pc := 61) X [.int 48, .int x10] dX12_readSluice_61 ml_X12_159 vo_X12_oneOf ⟨Nat.le_refl _, Nat.le_refl _⟩ eu11 (ev_X12_oneOf (d := d - 1) (by omega) _ _ _ _ _ eo12) hd1 rfl (Nat.le_of_ble_eq_true rfl) rfl ?_
    obtain ⟨h13, eh13, hf⟩ := ob hf
    refine r_iast (pc := 64) X dX12_readSluice_64 eh13 ?_
    refine r_aload_n (pc := 65) X dX12_readSluice_65 rfl ?_
    obtain ⟨a14, ea14, hf⟩ := ob hf
    refine r_getR (pc := 66) X dX12_readSluice_66 fl_X12_30 rfl ea14 ?_
    refine r_iload_n (pc := 69) X dX12_readSluice_69 rfl ?_
    refine r_iconst (pc := 70) X 2 dX12_readSluice_70 (by decide) ?_
    refine r_iadd (pc := 71) X dX12_readSluice_71 ?_
    refine r_aload_n (pc := 72) X dX12_readSluice_72 rfl ?_
    obtain ⟨u15, eu15, hf⟩ := ob hf
    obtain ⟨x16, ex16, hf⟩ := ob hf
    refine r_callVI (pc := 73) X [] dX12_readSluice_73 ml_X12_147 vo_X12_here ⟨Nat.le_refl _, Nat.le_refl _⟩ eu15 (ev_X12_here (d := d - 1) (by omega) _ _ _ ex16) hd1 rfl (Nat.le_of_ble_eq_true rfl) rfl ?_
    refine r_bipush (pc := 76) X 103 dX12_readSluice_76 (by decide) ?_
    obtain ⟨t17, et17, hf⟩ := ob hf
    have Jt17 : Jd Γ (0, 0) 99 [some (.ref p0), some (.int p1)] [.int t17, .int (p1 + 2), .ref a14] h13 := by
      obtain ⟨h18, eh18, hf⟩ := ob hf
      refine r_iast (pc := 99) X dX12_readSluice_99 eh18 ?_
      refine r_aload_n (pc := 100) X dX12_readSluice_100 rfl ?_
      obtain ⟨u19, eu19, hf⟩ := ob hf
      obtain ⟨x20, ex20, hf⟩ := ob hf
      refine r_callVI (pc := 101) X [] dX12_readSluice_101 ml_X12_143 vo_X12_fine ⟨Nat.le_refl _, Nat.le_refl _⟩ eu19 (ev_X12_fine (d := d - 1) (by omega) _ _ _ ex20) hd1 rfl (Nat.le_of_ble_eq_true rfl) rfl ?_
      obtain ⟨t21, et21, hf⟩ := ob hf
      have Jt21 : Jd Γ (0, 0) 142 [some (.ref p0), some (.int p1)] [] t21 := by
        refine r_aload_n (pc := 142) X dX12_readSluice_142 rfl ?_
        refine r_dup (pc := 143) X dX12_readSluice_143 rfl ?_
        obtain ⟨x22, ex22, hf⟩ := ob hf
        refine r_getI (pc := 144) X dX12_readSluice_144 fl_X12_133 rfl ex22 ?_
        refine r_iconst (pc := 147) X 1 dX12_readSluice_147 (by decide) ?_
        refine r_iadd (pc := 148) X dX12_readSluice_148 ?_
        obtain ⟨h23, eh23, hf⟩ := ob hf
        refine r_putI (pc := 149) X dX12_readSluice_149 fp_X12_133 rfl eh23 ?_
        obtain rfl := Option.some.inj hf
        exact r_vret (pc := 152) X dX12_readSluice_152 hk
      refine r_if_eq (pc := 104) X 142 dX12_readSluice_104 (by decide) (fun c36 => ?_) (fun c36 => ?_)
      · rw [if_pos c36] at et21
        obtain rfl := Option.some.inj et21
        exact Jt21
      · rw [if_neg c36] at et21
        refine r_aload_n (pc := 107) X dX12_readSluice_107 rfl ?_
        obtain ⟨u24, eu24, et21⟩ := ob et21
        obtain ⟨x25, ex25, et21⟩ := ob et21
        refine r_callVI (pc := 108) X [] dX12_readSluice_108 ml_X12_147 vo_X12_here ⟨Nat.le_refl _, Nat.le_refl _⟩ eu24 (ev_X12_here (d := d - 1) (by omega) _ _ _ ex25) hd1 rfl (Nat.le_of_ble_eq_true rfl) rfl ?_
        refine r_bipush (pc := 111) X 103 dX12_readSluice_111 (by decide) ?_
        refine r_icmp_eq (pc := 113) X 142 dX12_readSluice_113 (by decide) (fun c35 => ?_) (fun c35 => ?_)
        · rw [if_pos c35] at et21
          obtain rfl := Option.some.inj et21
          exact Jt21
        · rw [if_neg c35] at et21
          refine r_aload_n (pc := 116) X dX12_readSluice_116 rfl ?_
          obtain ⟨u26, eu26, et21⟩ := ob et21
          obtain ⟨x27, ex27, et21⟩ := ob et21
          refine r_callVI (pc := 117) X [] dX12_readSluice_117 ml_X12_147 vo_X12_here ⟨Nat.le_refl _, Nat.le_refl _⟩ eu26 (ev_X12_here (d := d - 1) (by omega) _ _ _ ex27) hd1 rfl (Nat.le_of_ble_eq_true rfl) rfl ?_
          refine r_bipush (pc := 120) X 119 dX12_readSluice_120 (by decide) ?_
          refine r_icmp_eq (pc := 122) X 142 dX12_readSluice_122 (by decide) (fun c34 => ?_) (fun c34 => ?_)
          · rw [if_pos c34] at et21
            obtain rfl := Option.some.inj et21
            exact Jt21
          · rw [if_neg c34] at et21
            refine r_aload_n (pc := 125) X dX12_readSluice_125 rfl ?_
            obtain ⟨u28, eu28, et21⟩ := ob et21
            obtain ⟨x29, ex29, et21⟩ := ob et21
            refine r_callVI (pc := 126) X [] dX12_readSluice_126 ml_X12_147 vo_X12_here ⟨Nat.le_refl _, Nat.le_refl _⟩ eu28 (ev_X12_here (d := d - 1) (by omega) _ _ _ ex29) hd1 rfl (Nat.le_of_ble_eq_true rfl) rfl ?_
            refine r_bipush (pc := 129) X 115 dX12_readSluice_129 (by decide) ?_
            refine r_icmp_eq (pc := 131) X 142 dX12_readSluice_131 (by decide) (fun c33 => ?_) (fun c33 => ?_)
            · rw [if_pos c33] at et21
              obtain rfl := Option.some.inj et21
              exact Jt21
            · rw [if_neg c33] at et21
              refine r_aload_n (pc := 134) X dX12_readSluice_134 rfl ?_
              refine r_aload_n (pc := 135) X dX12_readSluice_135 rfl ?_
              obtain ⟨x30, ex30, et21⟩ := ob et21
              refine r_getI (pc := 136) X dX12_readSluice_136 fl_X12_133 rfl ex30 ?_
              obtain ⟨u31, eu31, et21⟩ := ob et21
              obtain ⟨h32, eh32, et21⟩ := ob et21
              refine r_callVV (pc := 139) X [.int x30] dX12_readSluice_139 ml_X12_155 vo_X12_fault ⟨Nat.le_refl _, Nat.le_refl _⟩ eu31 (ev_X12_fault (d := d - 1) (by omega) _ _ _ _ eh32) hd1 rfl (Nat.le_of_ble_eq_true rfl) rfl ?_
              obtain rfl := Option.some.inj et21
              exact Jt21
    refine r_icmp_ne (pc := 78) X 85 dX12_readSluice_78 (by decide) (fun c40 => ?_) (fun c40 => ?_)
    · rw [if_neg c40] at et17
      refine r_aload_n (pc := 85) X dX12_readSluice_85 rfl ?_
      obtain ⟨u37, eu37, et17⟩ := ob et17
      obtain ⟨x38, ex38, et17⟩ := ob et17
      refine r_callVI (pc := 86) X [] dX12_readSluice_86 ml_X12_147 vo_X12_here ⟨Nat.le_refl _, Nat.le_refl _⟩ eu37 (ev_X12_here (d := d - 1) (by omega) _ _ _ ex38) hd1 rfl (Nat.le_of_ble_eq_true rfl) rfl ?_
      refine r_bipush (pc := 89) X 119 dX12_readSluice_89 (by decide) ?_
      refine r_icmp_ne (pc := 91) X 98 dX12_readSluice_91 (by decide) (fun c39 => ?_) (fun c39 => ?_)
      · rw [if_neg c39] at et17
        refine r_iconst (pc := 98) X 2 dX12_readSluice_98 (by decide) ?_
        obtain rfl := Option.some.inj et17
        exact Jt17
      · rw [if_pos c39] at et17
        refine r_iconst (pc := 94) X 1 dX12_readSluice_94 (by decide) ?_
        refine r_goto (pc := 95) X 99 dX12_readSluice_95 (by decide) ?_
        obtain rfl := Option.some.inj et17
        exact Jt17
    · rw [if_pos c40] at et17
      refine r_iconst (pc := 81) X 0 dX12_readSluice_81 (by decide) ?_
      refine r_goto (pc := 82) X 99 dX12_readSluice_82 (by decide) ?_
      obtain rfl := Option.some.inj et17
      exact Jt17
  refine r_if_eq (pc := 20) X 47 dX12_readSluice_20 (by decide) (fun c49 => ?_) (fun c49 => ?_)
  · rw [if_pos c49] at et8
    obtain rfl := Option.some.inj et8
    exact Jt8
  · rw [if_neg c49] at et8
    refine r_aload_n (pc := 23) X dX12_readSluice_23 rfl ?_
    obtain ⟨u41, eu41, et8⟩ := ob et8
    obtain ⟨x42, ex42, et8⟩ := ob et8
    refine r_callVI (pc := 24) X [] dX12_readSluice_24 ml_X12_147 vo_X12_here ⟨Nat.le_refl _, Nat.le_refl _⟩ eu41 (ev_X12_here (d := d - 1) (by omega) _ _ _ ex42) hd1 rfl (Nat.le_of_ble_eq_true rfl) rfl ?_
    refine r_bipush (pc := 27) X 48 dX12_readSluice_27 (by decide) ?_
    refine r_aload_n (pc := 29) X dX12_readSluice_29 rfl ?_
    obtain ⟨a43, ea43, et8⟩ := ob et8
    refine r_getR (pc := 30) X dX12_readSluice_30 fl_X12_30 rfl ea43 ?_
    refine r_iload_n (pc := 33) X dX12_readSluice_33 rfl ?_
    obtain ⟨x44, ex44, et8⟩ := ob et8
    refine r_iald (pc := 34) X dX12_readSluice_34 ex44 ?_
    refine r_iadd (pc := 35) X dX12_readSluice_35 ?_
    refine r_icmp_ne (pc := 36) X 47 dX12_readSluice_36 (by decide) (fun c48 => ?_) (fun c48 => ?_)
    · rw [if_neg c48] at et8
      obtain rfl := Option.some.inj et8
      exact Jt8
    · rw [if_pos c48] at et8
      refine r_aload_n (pc := 39) X dX12_readSluice_39 rfl ?_
      refine r_aload_n (pc := 40) X dX12_readSluice_40 rfl ?_
      obtain ⟨x45, ex45, et8⟩ := ob et8
      refine r_getI (pc := 41) X dX12_readSluice_41 fl_X12_133 rfl ex45 ?_
      obtain ⟨u46, eu46, et8⟩ := ob et8
      obtain ⟨h47, eh47, et8⟩ := ob et8
      refine r_callVV (pc := 44) X [.int x45] dX12_readSluice_44 ml_X12_155 vo_X12_fault ⟨Nat.le_refl _, Nat.le_refl _⟩ eu46 (ev_X12_fault (d := d - 1) (by omega) _ _ _ _ eh47) hd1 rfl (Nat.le_of_ble_eq_true rfl) rfl ?_
      obtain rfl := Option.some.inj et8
      exact Jt8

theorem dX12_sluices_0 : decode cX12_sluices 0 = .ok (.aload_n 0, 1) := by decide +kernel
theorem dX12_sluices_1 : decode cX12_sluices 1 = .ok (.iconst 0, 1) := by decide +kernel
theorem dX12_sluices_2 : decode cX12_sluices 2 = .ok (.putfield 100, 3) := by decide +kernel
theorem dX12_sluices_5 : decode cX12_sluices 5 = .ok (.aload_n 0, 1) := by decide +kernel
theorem dX12_sluices_6 : decode cX12_sluices 6 = .ok (.bipush 31, 2) := by decide +kernel
theorem dX12_sluices_8 : decode cX12_sluices 8 = .ok (.invokevirtual 169, 3) := by decide +kernel
theorem dX12_sluices_11 : decode cX12_sluices 11 = .ok (.aload_n 0, 1) := by decide +kernel
theorem dX12_sluices_12 : decode cX12_sluices 12 = .ok (.getfield 127, 3) := by decide +kernel
theorem dX12_sluices_15 : decode cX12_sluices 15 = .ok (.ifCond .ne 5, 3) := by decide +kernel
theorem dX12_sluices_18 : decode cX12_sluices 18 = .ok (.iconst 0, 1) := by decide +kernel
theorem dX12_sluices_19 : decode cX12_sluices 19 = .ok (.ireturn, 1) := by decide +kernel
theorem dX12_sluices_20 : decode cX12_sluices 20 = .ok (.iconst 0, 1) := by decide +kernel
theorem dX12_sluices_21 : decode cX12_sluices 21 = .ok (.istore_n 1, 1) := by decide +kernel
theorem dX12_sluices_22 : decode cX12_sluices 22 = .ok (.iconst 1, 1) := by decide +kernel
theorem dX12_sluices_23 : decode cX12_sluices 23 = .ok (.istore_n 2, 1) := by decide +kernel
theorem dX12_sluices_24 : decode cX12_sluices 24 = .ok (.iload_n 2, 1) := by decide +kernel
theorem dX12_sluices_25 : decode cX12_sluices 25 = .ok (.ifCond .eq 52, 3) := by decide +kernel
theorem dX12_sluices_28 : decode cX12_sluices 28 = .ok (.aload_n 0, 1) := by decide +kernel
theorem dX12_sluices_29 : decode cX12_sluices 29 = .ok (.invokevirtual 143, 3) := by decide +kernel
theorem dX12_sluices_32 : decode cX12_sluices 32 = .ok (.ifCond .eq 45, 3) := by decide +kernel
theorem dX12_sluices_35 : decode cX12_sluices 35 = .ok (.aload_n 0, 1) := by decide +kernel
theorem dX12_sluices_36 : decode cX12_sluices 36 = .ok (.getfield 118, 3) := by decide +kernel
theorem dX12_sluices_39 : decode cX12_sluices 39 = .ok (.iload_n 1, 1) := by decide +kernel
theorem dX12_sluices_40 : decode cX12_sluices 40 = .ok (.iadd, 1) := by decide +kernel
theorem dX12_sluices_41 : decode cX12_sluices 41 = .ok (.bipush 8, 2) := by decide +kernel
theorem dX12_sluices_43 : decode cX12_sluices 43 = .ok (.if_icmp .ne 14, 3) := by decide +kernel
theorem dX12_sluices_46 : decode cX12_sluices 46 = .ok (.aload_n 0, 1) := by decide +kernel
theorem dX12_sluices_47 : decode cX12_sluices 47 = .ok (.aload_n 0, 1) := by decide +kernel
theorem dX12_sluices_48 : decode cX12_sluices 48 = .ok (.getfield 133, 3) := by decide +kernel
theorem dX12_sluices_51 : decode cX12_sluices 51 = .ok (.invokevirtual 155, 3) := by decide +kernel
theorem dX12_sluices_54 : decode cX12_sluices 54 = .ok (.goto 10, 3) := by decide +kernel
theorem dX12_sluices_57 : decode cX12_sluices 57 = .ok (.aload_n 0, 1) := by decide +kernel
theorem dX12_sluices_58 : decode cX12_sluices 58 = .ok (.iconst 3, 1) := by decide +kernel
theorem dX12_sluices_59 : decode cX12_sluices 59 = .ok (.iload_n 1, 1) := by decide +kernel
theorem dX12_sluices_60 : decode cX12_sluices 60 = .ok (.imul, 1) := by decide +kernel
theorem dX12_sluices_61 : decode cX12_sluices 61 = .ok (.invokevirtual 181, 3) := by decide +kernel
theorem dX12_sluices_64 : decode cX12_sluices 64 = .ok (.iinc 1 1, 3) := by decide +kernel
theorem dX12_sluices_67 : decode cX12_sluices 67 = .ok (.aload_n 0, 1) := by decide +kernel
theorem dX12_sluices_68 : decode cX12_sluices 68 = .ok (.bipush 59, 2) := by decide +kernel
theorem dX12_sluices_70 : decode cX12_sluices 70 = .ok (.invokevirtual 151, 3) := by decide +kernel
theorem dX12_sluices_73 : decode cX12_sluices 73 = .ok (.istore_n 2, 1) := by decide +kernel
theorem dX12_sluices_74 : decode cX12_sluices 74 = .ok (.goto (-50), 3) := by decide +kernel
theorem dX12_sluices_77 : decode cX12_sluices 77 = .ok (.aload_n 0, 1) := by decide +kernel
theorem dX12_sluices_78 : decode cX12_sluices 78 = .ok (.invokevirtual 172, 3) := by decide +kernel
theorem dX12_sluices_81 : decode cX12_sluices 81 = .ok (.ifCond .ne 10, 3) := by decide +kernel
theorem dX12_sluices_84 : decode cX12_sluices 84 = .ok (.iconst (-1), 1) := by decide +kernel
theorem dX12_sluices_85 : decode cX12_sluices 85 = .ok (.aload_n 0, 1) := by decide +kernel
theorem dX12_sluices_86 : decode cX12_sluices 86 = .ok (.getfield 136, 3) := by decide +kernel
theorem dX12_sluices_89 : decode cX12_sluices 89 = .ok (.isub, 1) := by decide +kernel
theorem dX12_sluices_90 : decode cX12_sluices 90 = .ok (.ireturn, 1) := by decide +kernel
theorem dX12_sluices_91 : decode cX12_sluices 91 = .ok (.iconst 0, 1) := by decide +kernel
theorem dX12_sluices_92 : decode cX12_sluices 92 = .ok (.istore_n 3, 1) := by decide +kernel
theorem dX12_sluices_93 : decode cX12_sluices 93 = .ok (.iload_n 3, 1) := by decide +kernel
theorem dX12_sluices_94 : decode cX12_sluices 94 = .ok (.iload_n 1, 1) := by decide +kernel
theorem dX12_sluices_95 : decode cX12_sluices 95 = .ok (.if_icmp .ge 110, 3) := by decide +kernel
theorem dX12_sluices_98 : decode cX12_sluices 98 = .ok (.aload_n 0, 1) := by decide +kernel
theorem dX12_sluices_99 : decode cX12_sluices 99 = .ok (.getfield 13, 3) := by decide +kernel
theorem dX12_sluices_102 : decode cX12_sluices 102 = .ok (.aload_n 0, 1) := by decide +kernel
theorem dX12_sluices_103 : decode cX12_sluices 103 = .ok (.getfield 118, 3) := by decide +kernel
theorem dX12_sluices_106 : decode cX12_sluices 106 = .ok (.aload_n 0, 1) := by decide +kernel
theorem dX12_sluices_107 : decode cX12_sluices 107 = .ok (.getfield 30, 3) := by decide +kernel
theorem dX12_sluices_110 : decode cX12_sluices 110 = .ok (.iconst 3, 1) := by decide +kernel
theorem dX12_sluices_111 : decode cX12_sluices 111 = .ok (.iload_n 3, 1) := by decide +kernel
theorem dX12_sluices_112 : decode cX12_sluices 112 = .ok (.imul, 1) := by decide +kernel
theorem dX12_sluices_113 : decode cX12_sluices 113 = .ok (.iaload, 1) := by decide +kernel
theorem dX12_sluices_114 : decode cX12_sluices 114 = .ok (.iastore, 1) := by decide +kernel
theorem dX12_sluices_115 : decode cX12_sluices 115 = .ok (.aload_n 0, 1) := by decide +kernel
theorem dX12_sluices_116 : decode cX12_sluices 116 = .ok (.getfield 16, 3) := by decide +kernel
theorem dX12_sluices_119 : decode cX12_sluices 119 = .ok (.aload_n 0, 1) := by decide +kernel
theorem dX12_sluices_120 : decode cX12_sluices 120 = .ok (.getfield 118, 3) := by decide +kernel
theorem dX12_sluices_123 : decode cX12_sluices 123 = .ok (.aload_n 0, 1) := by decide +kernel
theorem dX12_sluices_124 : decode cX12_sluices 124 = .ok (.getfield 30, 3) := by decide +kernel
theorem dX12_sluices_127 : decode cX12_sluices 127 = .ok (.iconst 3, 1) := by decide +kernel
theorem dX12_sluices_128 : decode cX12_sluices 128 = .ok (.iload_n 3, 1) := by decide +kernel
theorem dX12_sluices_129 : decode cX12_sluices 129 = .ok (.imul, 1) := by decide +kernel
theorem dX12_sluices_130 : decode cX12_sluices 130 = .ok (.iconst 1, 1) := by decide +kernel
theorem dX12_sluices_131 : decode cX12_sluices 131 = .ok (.iadd, 1) := by decide +kernel
theorem dX12_sluices_132 : decode cX12_sluices 132 = .ok (.iaload, 1) := by decide +kernel
theorem dX12_sluices_133 : decode cX12_sluices 133 = .ok (.iastore, 1) := by decide +kernel
theorem dX12_sluices_134 : decode cX12_sluices 134 = .ok (.aload_n 0, 1) := by decide +kernel
theorem dX12_sluices_135 : decode cX12_sluices 135 = .ok (.getfield 19, 3) := by decide +kernel
theorem dX12_sluices_138 : decode cX12_sluices 138 = .ok (.aload_n 0, 1) := by decide +kernel
theorem dX12_sluices_139 : decode cX12_sluices 139 = .ok (.getfield 118, 3) := by decide +kernel
theorem dX12_sluices_142 : decode cX12_sluices 142 = .ok (.aload_n 0, 1) := by decide +kernel
theorem dX12_sluices_143 : decode cX12_sluices 143 = .ok (.getfield 30, 3) := by decide +kernel
theorem dX12_sluices_146 : decode cX12_sluices 146 = .ok (.iconst 3, 1) := by decide +kernel
theorem dX12_sluices_147 : decode cX12_sluices 147 = .ok (.iload_n 3, 1) := by decide +kernel
theorem dX12_sluices_148 : decode cX12_sluices 148 = .ok (.imul, 1) := by decide +kernel
theorem dX12_sluices_149 : decode cX12_sluices 149 = .ok (.iconst 2, 1) := by decide +kernel
theorem dX12_sluices_150 : decode cX12_sluices 150 = .ok (.iadd, 1) := by decide +kernel
theorem dX12_sluices_151 : decode cX12_sluices 151 = .ok (.iaload, 1) := by decide +kernel
theorem dX12_sluices_152 : decode cX12_sluices 152 = .ok (.iastore, 1) := by decide +kernel
theorem dX12_sluices_153 : decode cX12_sluices 153 = .ok (.aload_n 0, 1) := by decide +kernel
theorem dX12_sluices_154 : decode cX12_sluices 154 = .ok (.getfield 9, 3) := by decide +kernel
theorem dX12_sluices_157 : decode cX12_sluices 157 = .ok (.bipush 12, 2) := by decide +kernel
theorem dX12_sluices_159 : decode cX12_sluices 159 = .ok (.dup2, 1) := by decide +kernel
theorem dX12_sluices_160 : decode cX12_sluices 160 = .ok (.iaload, 1) := by decide +kernel
theorem dX12_sluices_161 : decode cX12_sluices 161 = .ok (.iconst 1, 1) := by decide +kernel
theorem dX12_sluices_162 : decode cX12_sluices 162 = .ok (.aload_n 0, 1) := by decide +kernel
theorem dX12_sluices_163 : decode cX12_sluices 163 = .ok (.getfield 118, 3) := by decide +kernel
theorem dX12_sluices_166 : decode cX12_sluices 166 = .ok (.ishl, 1) := by decide +kernel
theorem dX12_sluices_167 : decode cX12_sluices 167 = .ok (.iconst (-1), 1) := by decide +kernel
theorem dX12_sluices_168 : decode cX12_sluices 168 = .ok (.ixor, 1) := by decide +kernel
theorem dX12_sluices_169 : decode cX12_sluices 169 = .ok (.iand, 1) := by decide +kernel
theorem dX12_sluices_170 : decode cX12_sluices 170 = .ok (.iastore, 1) := by decide +kernel
theorem dX12_sluices_171 : decode cX12_sluices 171 = .ok (.aload_n 0, 1) := by decide +kernel
theorem dX12_sluices_172 : decode cX12_sluices 172 = .ok (.getfield 9, 3) := by decide +kernel
theorem dX12_sluices_175 : decode cX12_sluices 175 = .ok (.bipush 13, 2) := by decide +kernel
theorem dX12_sluices_177 : decode cX12_sluices 177 = .ok (.dup2, 1) := by decide +kernel
theorem dX12_sluices_178 : decode cX12_sluices 178 = .ok (.iaload, 1) := by decide +kernel
theorem dX12_sluices_179 : decode cX12_sluices 179 = .ok (.iconst 1, 1) := by decide +kernel
theorem dX12_sluices_180 : decode cX12_sluices 180 = .ok (.aload_n 0, 1) := by decide +kernel
theorem dX12_sluices_181 : decode cX12_sluices 181 = .ok (.getfield 118, 3) := by decide +kernel
theorem dX12_sluices_184 : decode cX12_sluices 184 = .ok (.ishl, 1) := by decide +kernel
theorem dX12_sluices_185 : decode cX12_sluices 185 = .ok (.iconst (-1), 1) := by decide +kernel
theorem dX12_sluices_186 : decode cX12_sluices 186 = .ok (.ixor, 1) := by decide +kernel
theorem dX12_sluices_187 : decode cX12_sluices 187 = .ok (.iand, 1) := by decide +kernel
theorem dX12_sluices_188 : decode cX12_sluices 188 = .ok (.iastore, 1) := by decide +kernel
theorem dX12_sluices_189 : decode cX12_sluices 189 = .ok (.aload_n 0, 1) := by decide +kernel
theorem dX12_sluices_190 : decode cX12_sluices 190 = .ok (.dup, 1) := by decide +kernel
theorem dX12_sluices_191 : decode cX12_sluices 191 = .ok (.getfield 118, 3) := by decide +kernel
theorem dX12_sluices_194 : decode cX12_sluices 194 = .ok (.iconst 1, 1) := by decide +kernel
theorem dX12_sluices_195 : decode cX12_sluices 195 = .ok (.iadd, 1) := by decide +kernel
theorem dX12_sluices_196 : decode cX12_sluices 196 = .ok (.putfield 118, 3) := by decide +kernel
theorem dX12_sluices_199 : decode cX12_sluices 199 = .ok (.iinc 3 1, 3) := by decide +kernel
theorem dX12_sluices_202 : decode cX12_sluices 202 = .ok (.goto (-109), 3) := by decide +kernel
theorem dX12_sluices_205 : decode cX12_sluices 205 = .ok (.aload_n 0, 1) := by decide +kernel
theorem dX12_sluices_206 : decode cX12_sluices 206 = .ok (.invokevirtual 178, 3) := by decide +kernel
theorem dX12_sluices_209 : decode cX12_sluices 209 = .ok (.iload_n 1, 1) := by decide +kernel
theorem dX12_sluices_210 : decode cX12_sluices 210 = .ok (.ireturn, 1) := by decide +kernel
def lb_X12_sluices_24 (v0 : Nat) (s : Int32 × Int32 × aH) : Option ((Int32 × Int32 × aH) ⊕ ((Int32 × aH))) :=
  if s.2.1 = 0 then
    some (.inr (s.1, s.2.2))
  else
    (ck s.2.2 v0 11).bind fun u5 =>
    (fn_X12_fine s.2.2 v0).bind fun x6 =>
    if x6 = 0 then
      some (.inr (s.1, s.2.2))
    else
      (gI s.2.2 v0 11 2).bind fun x7 =>
      ((
        if (x7 + s.1) = 8 then
          (gI s.2.2 v0 11 15).bind fun x14 =>
          (ck s.2.2 v0 11).bind fun u15 =>
          (fn_X12_fault s.2.2 v0 x14).bind fun h16 =>
          some h16
        else
          (ck s.2.2 v0 11).bind fun u12 =>
          (fn_X12_readSluice s.2.2 v0 (3 * s.1)).bind fun h13 =>
          some h13
      ) : Option (aH)).bind fun t8 =>
      (some (s.1 + 1)).bind fun x9 =>
      (ck t8 v0 11).bind fun u10 =>
      (fn_X12_passes t8 v0 59).bind fun o11 =>
      some (.inl (x9, o11.1, o11.2))
def hd_X12_sluices_24 (Γ : aC) (v0 : Nat) (s : Int32 × Int32 × aH) : Prop := ∀ (j3 : Option Value), Jd Γ (0, 0) 24 [some (.ref v0), some (.int s.1), some (.int s.2.1), j3] [] s.2.2
def ex_X12_sluices_24 (Γ : aC) (v0 : Nat) (r : (Int32 × aH)) : Prop := (fun r => ∀ (j2 : Option Value) (j3 : Option Value), Jd Γ (0, 0) 77 [some (.ref v0), some (.int r.1), j2, j3] [] r.2) r
set_option maxRecDepth 20000 in
set_option maxHeartbeats 4000000 in
theorem lw_X12_sluices_24 {Γ : aC} {d : Nat} (X : Cx Γ RX12 cX12_sluices 4 (some .int) (d, 0, 0)) (hd : 4 ≤ d) (v0 : Nat) : ∀ n s o, lp (lb_X12_sluices_24 v0) n s = some o → ex_X12_sluices_24 Γ v0 o → hd_X12_sluices_24 Γ v0 s := by
  have hd1 : 1 ≤ d := by omega
  refine J_lp _ _ _ ?_
  intro s o hf hk j3
  unfold lb_X12_sluices_24 at hf
  refine r_iload_n (pc := 24) X dX12_sluices_24 rfl ?_
  refine r_if_eq (pc := 25) X 77 dX12_sluices_25 (by decide) (fun c19 => ?_) (fun c19 => ?_)
  · rw [if_pos c19] at hf
    obtain rfl := Option.some.inj hf
    exact hk _ _
  · rw [if_neg c19] at hf
    refine r_aload_n (pc := 28) X dX12_sluices_28 rfl ?_
    obtain ⟨u5, eu5, hf⟩ := ob hf
    obtain ⟨x6, ex6, hf⟩ := ob hf
    refine r_callVI (pc := 29) X [] dX12_sluices_29 ml_X12_143 vo_X12_fine ⟨Nat.le_refl _, Nat.le_refl _⟩ eu5 (ev_X12_fine (d := d - 1) (by omega) _ _ _ ex6) hd1 rfl (Nat.le_of_ble_eq_true rfl) rfl ?_
    refine r_if_eq (pc := 32) X 77 dX12_sluices_32 (by decide) (fun c18 => ?_) (fun c18 => ?_)
    · rw [if_pos c18] at hf
      obtain rfl := Option.some.inj hf
      exact hk _ _
    · rw [if_neg c18] at hf
      refine r_aload_n (pc := 35) X dX12_sluices_35 rfl ?_
      obtain ⟨x7, ex7, hf⟩ := ob hf
      refine r_getI (pc := 36) X dX12_sluices_36 fl_X12_118 rfl ex7 ?_
      refine r_iload_n (pc := 39) X dX12_sluices_39 rfl ?_
      refine r_iadd (pc := 40) X dX12_sluices_40 ?_
      refine r_bipush (pc := 41) X 8 dX12_sluices_41 (by decide) ?_
      obtain ⟨t8, et8, hf⟩ := ob hf
      have Jt8 : Jd Γ (0, 0) 64 [some (.ref v0), some (.int s.1), some (.int s.2.1), j3] [] t8 := by
        obtain ⟨x9, ex9, hf⟩ := ob hf
        refine r_iinc2 (pc := 64) X 1 [some (.ref v0), some (.int x9), some (.int s.2.1), j3] dX12_sluices_64 (by decide) rfl (by decide) ex9 rfl ?_
        refine r_aload_n (pc := 67) X dX12_sluices_67 rfl ?_
        refine r_bipush (pc := 68) X 59 dX12_sluices_68 (by decide) ?_
        obtain ⟨u10, eu10, hf⟩ := ob hf
        obtain ⟨o11, eo11, hf⟩ := ob hf
        refine r_callVI (pc := 70) X [.int 59] dX12_sluices_70 ml_X12_151 vo_X12_passes ⟨Nat.le_refl _, Nat.le_refl _⟩ eu10 (ev_X12_passes (d := d - 1) (by omega) _ _ _ _ eo11) hd1 rfl (Nat.le_of_ble_eq_true rfl) rfl ?_
        refine r_istore_n (pc := 73) X [some (.ref v0), some (.int x9), some (.int o11.1), j3] dX12_sluices_73 (by decide) rfl ?_
        refine r_goto (pc := 74) X 24 dX12_sluices_74 (by decide) ?_
        obtain rfl := Option.some.inj hf
        exact hk _
      refine r_icmp_ne (pc := 43) X 57 dX12_sluices_43 (by decide) (fun c17 => ?_) (fun c17 => ?_)
      · rw [if_neg c17] at et8
        refine r_aload_n (pc := 57) X dX12_sluices_57 rfl ?_
        refine r_iconst (pc := 58) X 3 dX12_sluices_58 (by decide) ?_
        refine r_iload_n (pc := 59) X dX12_sluices_59 rfl ?_
        refine r_imul (pc := 60) X dX12_sluices_60 ?_
        obtain ⟨u12, eu12, et8⟩ := ob et8
        obtain ⟨h13, eh13, et8⟩ := ob et8
        refine r_callVV (pc := 61) X [.int (3 * s.1)] dX12_sluices_61 ml_X12_181 vo_X12_readSluice ⟨Nat.le_refl _, Nat.le_refl _⟩ eu12 (ev_X12_readSluice (d := d - 1) (by omega) _ _ _ _ eh13) hd1 rfl (Nat.le_of_ble_eq_true rfl) rfl ?_
        obtain rfl := Option.some.inj et8
        exact Jt8
      · rw [if_pos c17] at et8
        refine r_aload_n (pc := 46) X dX12_sluices_46 rfl ?_
        refine r_aload_n (pc := 47) X dX12_sluices_47 rfl ?_
        obtain ⟨x14, ex14, et8⟩ := ob et8
        refine r_getI (pc := 48) X dX12_sluices_48 fl_X12_133 rfl ex14 ?_
        obtain ⟨u15, eu15, et8⟩ := ob et8
        obtain ⟨h16, eh16, et8⟩ := ob et8
        refine r_callVV (pc := 51) X [.int x14] dX12_sluices_51 ml_X12_155 vo_X12_fault ⟨Nat.le_refl _, Nat.le_refl _⟩ eu15 (ev_X12_fault (d := d - 1) (by omega) _ _ _ _ eh16) hd1 rfl (Nat.le_of_ble_eq_true rfl) rfl ?_
        refine r_goto (pc := 54) X 64 dX12_sluices_54 (by decide) ?_
        obtain rfl := Option.some.inj et8
        exact Jt8
def lb_X12_sluices_93 (v0 : Nat) (v1 : Int32) (s : Int32 × aH) : Option ((Int32 × aH) ⊕ ((aH))) :=
  if s.1 < v1 then
    (gR s.2 v0 11 4).bind fun a25 =>
    (gI s.2 v0 11 2).bind fun x26 =>
    (gR s.2 v0 11 17).bind fun a27 =>
    (aI s.2 a27 14 (3 * s.1)).bind fun x28 =>
    (wI s.2 a25 x26 x28).bind fun h29 =>
    (gR h29 v0 11 5).bind fun a30 =>
    (gI h29 v0 11 2).bind fun x31 =>
    (gR h29 v0 11 17).bind fun a32 =>
    (aI h29 a32 14 ((3 * s.1) + 1)).bind fun x33 =>
    (wI h29 a30 x31 x33).bind fun h34 =>
    (gR h34 v0 11 6).bind fun a35 =>
    (gI h34 v0 11 2).bind fun x36 =>
    (gR h34 v0 11 17).bind fun a37 =>
    (aI h34 a37 14 ((3 * s.1) + 2)).bind fun x38 =>
    (wI h34 a35 x36 x38).bind fun h39 =>
    (gR h39 v0 11 0).bind fun a40 =>
    (aI h39 a40 14 12).bind fun x41 =>
    (gI h39 v0 11 2).bind fun x42 =>
    (wI h39 a40 12 (x41 &&& ((1 <<< (x42 &&& 31)) ^^^ (-1)))).bind fun h43 =>
    (gR h43 v0 11 0).bind fun a44 =>
    (aI h43 a44 14 13).bind fun x45 =>
    (gI h43 v0 11 2).bind fun x46 =>
    (wI h43 a44 13 (x45 &&& ((1 <<< (x46 &&& 31)) ^^^ (-1)))).bind fun h47 =>
    (gI h47 v0 11 2).bind fun x48 =>
    (pI h47 v0 11 2 (x48 + 1)).bind fun h49 =>
    (some (s.1 + 1)).bind fun x50 =>
    some (.inl (x50, h49))
  else
    some (.inr s.2)
def hd_X12_sluices_93 (Γ : aC) (v0 : Nat) (v1 : Int32) (s : Int32 × aH) : Prop := ∀ (j2 : Option Value), Jd Γ (0, 0) 93 [some (.ref v0), some (.int v1), j2, some (.int s.1)] [] s.2
def ex_X12_sluices_93 (Γ : aC) (v0 : Nat) (v1 : Int32) (r : (aH)) : Prop := (fun r => ∀ (j2 : Option Value) (j3 : Option Value), Jd Γ (0, 0) 205 [some (.ref v0), some (.int v1), j2, j3] [] r) r
set_option maxRecDepth 20000 in
set_option maxHeartbeats 4000000 in
theorem lw_X12_sluices_93 {Γ : aC} {d : Nat} (X : Cx Γ RX12 cX12_sluices 4 (some .int) (d, 0, 0)) (hd : 4 ≤ d) (v0 : Nat) (v1 : Int32) : ∀ n s o, lp (lb_X12_sluices_93 v0 v1) n s = some o → ex_X12_sluices_93 Γ v0 v1 o → hd_X12_sluices_93 Γ v0 v1 s := by
  have hd1 : 1 ≤ d := by omega
  refine J_lp _ _ _ ?_
  intro s o hf hk j2
  unfold lb_X12_sluices_93 at hf
  refine r_iload_n (pc := 93) X dX12_sluices_93 rfl ?_
  refine r_iload_n (pc := 94) X dX12_sluices_94 rfl ?_
  refine r_icmp_ge (pc := 95) X 205 dX12_sluices_95 (by decide) (fun c51 => ?_) (fun c51 => ?_)
  · rw [if_neg c51] at hf
    obtain rfl := Option.some.inj hf
    exact hk _ _
  · rw [if_pos c51] at hf
    refine r_aload_n (pc := 98) X dX12_sluices_98 rfl ?_
    obtain ⟨a25, ea25, hf⟩ := ob hf
    refine r_getR (pc := 99) X dX12_sluices_99 fl_X12_13 rfl ea25 ?_
    refine r_aload_n (pc := 102) X dX12_sluices_102 rfl ?_
    obtain ⟨x26, ex26, hf⟩ := ob hf
    refine r_getI (pc := 103) X dX12_sluices_103 fl_X12_118 rfl ex26 ?_
    refine r_aload_n (pc := 106) X dX12_sluices_106 rfl ?_
    obtain ⟨a27, ea27, hf⟩ := ob hf
    refine r_getR (pc := 107) X dX12_sluices_107 fl_X12_30 rfl ea27 ?_
    refine r_iconst (pc := 110) X 3 dX12_sluices_110 (by decide) ?_
    refine r_iload_n (pc := 111) X dX12_sluices_111 rfl ?_
    refine r_imul (pc := 112) X dX12_sluices_112 ?_
    obtain ⟨x28, ex28, hf⟩ := ob hf
    refine r_iald (pc := 113) X dX12_sluices_113 ex28 ?_
    obtain ⟨h29, eh29, hf⟩ := ob hf
    refine r_iast (pc := 114) X dX12_sluices_114 eh29 ?_
    refine r_aload_n (pc := 115) X dX12_sluices_115 rfl ?_
    obtain ⟨a30, ea30, hf⟩ := ob hf
    refine r_getR (pc := 116) X dX12_sluices_116 fl_X12_16 rfl ea30 ?_
    refine r_aload_n (pc := 119) X dX12_sluices_119 rfl ?_
    obtain ⟨x31, ex31, hf⟩ := ob hf
    refine r_getI (pc := 120) X dX12_sluices_120 fl_X12_118 rfl ex31 ?_
    refine r_aload_n (pc := 123) X dX12_sluices_123 rfl ?_
    obtain ⟨a32, ea32, hf⟩ := ob hf
    refine r_getR (pc := 124) X dX12_sluices_124 fl_X12_30 rfl ea32 ?_
    refine r_iconst (pc := 127) X 3 dX12_sluices_127 (by decide) ?_
    refine r_iload_n (pc := 128) X dX12_sluices_128 rfl ?_
    refine r_imul (pc := 129) X dX12_sluices_129 ?_
    refine r_iconst (pc := 130) X 1 dX12_sluices_130 (by decide) ?_
    refine r_iadd (pc := 131) X dX12_sluices_131 ?_
    obtain ⟨x33, ex33, hf⟩ := ob hf
    refine r_iald (pc := 132) X dX12_sluices_132 ex33 ?_
    obtain ⟨h34, eh34, hf⟩ := ob hf
    refine r_iast (pc := 133) X dX12_sluices_133 eh34 ?_
    refine r_aload_n (pc := 134) X dX12_sluices_134 rfl ?_
    obtain ⟨a35, ea35, hf⟩ := ob hf
    refine r_getR (pc := 135) X dX12_sluices_135 fl_X12_19 rfl ea35 ?_
    refine r_aload_n (pc := 138) X dX12_sluices_138 rfl ?_
    obtain ⟨x36, ex36, hf⟩ := ob hf
    refine r_getI (pc := 139) X dX12_sluices_139 fl_X12_118 rfl ex36 ?_
    refine r_aload_n (pc := 142) X dX12_sluices_142 rfl ?_
    obtain ⟨a37, ea37, hf⟩ := ob hf
    refine r_getR (pc := 143) X dX12_sluices_143 fl_X12_30 rfl ea37 ?_
    refine r_iconst (pc := 146) X 3 dX12_sluices_146 (by decide) ?_
    refine r_iload_n (pc := 147) X dX12_sluices_147 rfl ?_
    refine r_imul (pc := 148) X dX12_sluices_148 ?_
    refine r_iconst (pc := 149) X 2 dX12_sluices_149 (by decide) ?_
    refine r_iadd (pc := 150) X dX12_sluices_150 ?_
    obtain ⟨x38, ex38, hf⟩ := ob hf
    refine r_iald (pc := 151) X dX12_sluices_151 ex38 ?_
    obtain ⟨h39, eh39, hf⟩ := ob hf
    refine r_iast (pc := 152) X dX12_sluices_152 eh39 ?_
    refine r_aload_n (pc := 153) X dX12_sluices_153 rfl ?_
    obtain ⟨a40, ea40, hf⟩ := ob hf
    refine r_getR (pc := 154) X dX12_sluices_154 fl_X12_9 rfl ea40 ?_
    refine r_bipush (pc := 157) X 12 dX12_sluices_157 (by decide) ?_
    refine r_dup2 (pc := 159) X dX12_sluices_159 rfl rfl ?_
    obtain ⟨x41, ex41, hf⟩ := ob hf
    refine r_iald (pc := 160) X dX12_sluices_160 ex41 ?_
    refine r_iconst (pc := 161) X 1 dX12_sluices_161 (by decide) ?_
    refine r_aload_n (pc := 162) X dX12_sluices_162 rfl ?_
    obtain ⟨x42, ex42, hf⟩ := ob hf
    refine r_getI (pc := 163) X dX12_sluices_163 fl_X12_118 rfl ex42 ?_
    refine r_ishl (pc := 166) X dX12_sluices_166 ?_
    refine r_iconst (pc := 167) X (-1) dX12_sluices_167 (by decide) ?_
    refine r_ixor (pc := 168) X dX12_sluices_168 ?_
    refine r_iand (pc := 169) X dX12_sluices_169 ?_
    obtain ⟨h43, eh43, hf⟩ := ob hf
    refine r_iast (pc := 170) X dX12_sluices_170 eh43 ?_
    refine r_aload_n (pc := 171) X dX12_sluices_171 rfl ?_
    obtain ⟨a44, ea44, hf⟩ := ob hf
    refine r_getR (pc := 172) X dX12_sluices_172 fl_X12_9 rfl ea44 ?_
    refine r_bipush (pc := 175) X 13 dX12_sluices_175 (by decide) ?_
    refine r_dup2 (pc := 177) X dX12_sluices_177 rfl rfl ?_
    obtain ⟨x45, ex45, hf⟩ := ob hf
    refine r_iald (pc := 178) X dX12_sluices_178 ex45 ?_
    refine r_iconst (pc := 179) X 1 dX12_sluices_179 (by decide) ?_
    refine r_aload_n (pc := 180) X dX12_sluices_180 rfl ?_
    obtain ⟨x46, ex46, hf⟩ := ob hf
    refine r_getI (pc := 181) X dX12_sluices_181 fl_X12_118 rfl ex46 ?_
    refine r_ishl (pc := 184) X dX12_sluices_184 ?_
    refine r_iconst (pc := 185) X (-1) dX12_sluices_185 (by decide) ?_
    refine r_ixor (pc := 186) X dX12_sluices_186 ?_
    refine r_iand (pc := 187) X dX12_sluices_187 ?_
    obtain ⟨h47, eh47, hf⟩ := ob hf
    refine r_iast (pc := 188) X dX12_sluices_188 eh47 ?_
    refine r_aload_n (pc := 189) X dX12_sluices_189 rfl ?_
    refine r_dup (pc := 190) X dX12_sluices_190 rfl ?_
    obtain ⟨x48, ex48, hf⟩ := ob hf
    refine r_getI (pc := 191) X dX12_sluices_191 fl_X12_118 rfl ex48 ?_
    refine r_iconst (pc := 194) X 1 dX12_sluices_194 (by decide) ?_
    refine r_iadd (pc := 195) X dX12_sluices_195 ?_
    obtain ⟨h49, eh49, hf⟩ := ob hf
    refine r_putI (pc := 196) X dX12_sluices_196 fp_X12_118 rfl eh49 ?_
    obtain ⟨x50, ex50, hf⟩ := ob hf
    refine r_fg 2 [some (.ref v0), some (.int v1), none, some (.int s.1)] rfl ?_
    refine r_iinc2 (pc := 199) X 1 [some (.ref v0), some (.int v1), none, some (.int x50)] dX12_sluices_199 (by decide) rfl (by decide) ex50 rfl ?_
    refine r_goto (pc := 202) X 93 dX12_sluices_202 (by decide) ?_
    obtain rfl := Option.some.inj hf
    exact hk _
def fn_X12_sluices (h : aH) (p0 : Nat) : Option (Int32 × aH) :=
  (pI h p0 11 11 0).bind fun h1 =>
  (ck h1 p0 11).bind fun u2 =>
  (fn_X12_beginText h1 p0 31).bind fun h3 =>
  (gI h3 p0 11 13).bind fun x4 =>
  if x4 = 0 then
    some (0, h3)
  else
    (lp (lb_X12_sluices_24 p0) lpN (0, 1, h3)).bind fun o20 =>
    (ck o20.2 p0 11).bind fun u23 =>
    (fn_X12_wasRight o20.2 p0).bind fun o24 =>
    if o24.1 = 0 then
      (gI o24.2 p0 11 16).bind fun x57 =>
      some (((-1) - x57), o24.2)
    else
      (lp (lb_X12_sluices_93 p0 o20.1) lpN (0, o24.2)).bind fun o52 =>
      (ck o52 p0 11).bind fun u55 =>
      (fn_X12_told o52 p0).bind fun h56 =>
      some (o20.1, h56)
set_option maxRecDepth 20000 in
set_option maxHeartbeats 4000000 in
theorem ev_X12_sluices {l : Launch} {g : aG} {d : Nat} (hd : 4 ≤ d) (h : aH) (p0 : Nat) (o : Int32 × aH) (hf : fn_X12_sluices h p0 = some o) : EvM l g d yX12_sluices cX12_sluices 4 (some .int) [.ref p0] h (some (.int o.1), o.2) := by
  refine EvM.of mk_X12_sluices (Nat.le_of_ble_eq_true rfl) ?_
  intro Γ hl hg hq X
  have hd1 : 1 ≤ d := by omega
  have hk : RqI Γ o := hq
  unfold fn_X12_sluices at hf
  show Jd Γ (0, 0) 0 [some (.ref p0), none, none, none] [] h
  refine r_aload_n (pc := 0) X dX12_sluices_0 rfl ?_
  refine r_iconst (pc := 1) X 0 dX12_sluices_1 (by decide) ?_
  obtain ⟨h1, eh1, hf⟩ := ob hf
  refine r_putI (pc := 2) X dX12_sluices_2 fp_X12_100 rfl eh1 ?_
  refine r_aload_n (pc := 5) X dX12_sluices_5 rfl ?_
  refine r_bipush (pc := 6) X 31 dX12_sluices_6 (by decide) ?_
  obtain ⟨u2, eu2, hf⟩ := ob hf
  obtain ⟨h3, eh3, hf⟩ := ob hf
  refine r_callVV (pc := 8) X [.int 31] dX12_sluices_8 ml_X12_169 vo_X12_beginText ⟨Nat.le_refl _, Nat.le_refl _⟩ eu2 (ev_X12_beginText (d := d - 1) (by omega) _ _ _ _ eh3) hd1 rfl (Nat.le_of_ble_eq_true rfl) rfl ?_
  refine r_aload_n (pc := 11) X dX12_sluices_11 rfl ?_
  obtain ⟨x4, ex4, hf⟩ := ob hf
  refine r_getI (pc := 12) X dX12_sluices_12 fl_X12_127 rfl ex4 ?_
  refine r_if_ne (pc := 15) X 20 dX12_sluices_15 (by decide) (fun c59 => ?_) (fun c59 => ?_)
  · rw [if_neg c59] at hf
    refine r_iconst (pc := 20) X 0 dX12_sluices_20 (by decide) ?_
    refine r_istore_n (pc := 21) X [some (.ref p0), some (.int 0), none, none] dX12_sluices_21 (by decide) rfl ?_
    refine r_iconst (pc := 22) X 1 dX12_sluices_22 (by decide) ?_
    refine r_istore_n (pc := 23) X [some (.ref p0), some (.int 0), some (.int 1), none] dX12_sluices_23 (by decide) rfl ?_
    obtain ⟨o20, eo20, hf⟩ := ob hf
    refine (lw_X12_sluices_24 X hd _ lpN _ o20 eo20 ?_) _
    intro j21 j22
    refine r_aload_n (pc := 77) X dX12_sluices_77 rfl ?_
    obtain ⟨u23, eu23, hf⟩ := ob hf
    obtain ⟨o24, eo24, hf⟩ := ob hf
    refine r_callVI (pc := 78) X [] dX12_sluices_78 ml_X12_172 vo_X12_wasRight ⟨Nat.le_refl _, Nat.le_refl _⟩ eu23 (ev_X12_wasRight (d := d - 1) (by omega) _ _ _ eo24) hd1 rfl (Nat.le_of_ble_eq_true rfl) rfl ?_
    refine r_if_ne (pc := 81) X 91 dX12_sluices_81 (by decide) (fun c58 => ?_) (fun c58 => ?_)
    · rw [if_neg c58] at hf
      refine r_iconst (pc := 91) X 0 dX12_sluices_91 (by decide) ?_
      refine r_fg 2 [some (.ref p0), some (.int o20.1), none, j22] rfl ?_
      refine r_istore_n (pc := 92) X [some (.ref p0), some (.int o20.1), none, some (.int 0)] dX12_sluices_92 (by decide) rfl ?_
      obtain ⟨o52, eo52, hf⟩ := ob hf
      refine (lw_X12_sluices_93 X hd _ _ lpN _ o52 eo52 ?_) _
      intro j53 j54
      refine r_aload_n (pc := 205) X dX12_sluices_205 rfl ?_
      obtain ⟨u55, eu55, hf⟩ := ob hf
      obtain ⟨h56, eh56, hf⟩ := ob hf
      refine r_callVV (pc := 206) X [] dX12_sluices_206 ml_X12_178 vo_X12_told ⟨Nat.le_refl _, Nat.le_refl _⟩ eu55 (ev_X12_told (d := d - 1) (by omega) _ _ _ eh56) hd1 rfl (Nat.le_of_ble_eq_true rfl) rfl ?_
      refine r_iload_n (pc := 209) X dX12_sluices_209 rfl ?_
      obtain rfl := Option.some.inj hf
      exact r_iret (pc := 210) X dX12_sluices_210 hk
    · rw [if_pos c58] at hf
      refine r_iconst (pc := 84) X (-1) dX12_sluices_84 (by decide) ?_
      refine r_aload_n (pc := 85) X dX12_sluices_85 rfl ?_
      obtain ⟨x57, ex57, hf⟩ := ob hf
      refine r_getI (pc := 86) X dX12_sluices_86 fl_X12_136 rfl ex57 ?_
      refine r_isub (pc := 89) X dX12_sluices_89 ?_
      obtain rfl := Option.some.inj hf
      exact r_iret (pc := 90) X dX12_sluices_90 hk
  · rw [if_pos c59] at hf
    refine r_iconst (pc := 18) X 0 dX12_sluices_18 (by decide) ?_
    obtain rfl := Option.some.inj hf
    exact r_iret (pc := 19) X dX12_sluices_19 hk

theorem dX12_letterOf_0 : decode cX12_letterOf 0 = .ok (.iload_n 0, 1) := by decide +kernel
theorem dX12_letterOf_1 : decode cX12_letterOf 1 = .ok (.bipush 97, 2) := by decide +kernel
theorem dX12_letterOf_3 : decode cX12_letterOf 3 = .ok (.if_icmp .ne 7, 3) := by decide +kernel
theorem dX12_letterOf_6 : decode cX12_letterOf 6 = .ok (.iconst 0, 1) := by decide +kernel
theorem dX12_letterOf_7 : decode cX12_letterOf 7 = .ok (.goto 65, 3) := by decide +kernel
theorem dX12_letterOf_10 : decode cX12_letterOf 10 = .ok (.iload_n 0, 1) := by decide +kernel
theorem dX12_letterOf_11 : decode cX12_letterOf 11 = .ok (.bipush 98, 2) := by decide +kernel
theorem dX12_letterOf_13 : decode cX12_letterOf 13 = .ok (.if_icmp .ne 7, 3) := by decide +kernel
theorem dX12_letterOf_16 : decode cX12_letterOf 16 = .ok (.iconst 1, 1) := by decide +kernel
theorem dX12_letterOf_17 : decode cX12_letterOf 17 = .ok (.goto 55, 3) := by decide +kernel
theorem dX12_letterOf_20 : decode cX12_letterOf 20 = .ok (.iload_n 0, 1) := by decide +kernel
theorem dX12_letterOf_21 : decode cX12_letterOf 21 = .ok (.bipush 109, 2) := by decide +kernel
theorem dX12_letterOf_23 : decode cX12_letterOf 23 = .ok (.if_icmp .ne 7, 3) := by decide +kernel
theorem dX12_letterOf_26 : decode cX12_letterOf 26 = .ok (.iconst 2, 1) := by decide +kernel
theorem dX12_letterOf_27 : decode cX12_letterOf 27 = .ok (.goto 45, 3) := by decide +kernel
theorem dX12_letterOf_30 : decode cX12_letterOf 30 = .ok (.iload_n 0, 1) := by decide +kernel
theorem dX12_letterOf_31 : decode cX12_letterOf 31 = .ok (.bipush 107, 2) := by decide +kernel
theorem dX12_letterOf_33 : decode cX12_letterOf 33 = .ok (.if_icmp .ne 7, 3) := by decide +kernel
theorem dX12_letterOf_36 : decode cX12_letterOf 36 = .ok (.iconst 3, 1) := by decide +kernel
theorem dX12_letterOf_37 : decode cX12_letterOf 37 = .ok (.goto 35, 3) := by decide +kernel
theorem dX12_letterOf_40 : decode cX12_letterOf 40 = .ok (.iload_n 0, 1) := by decide +kernel
theorem dX12_letterOf_41 : decode cX12_letterOf 41 = .ok (.bipush 115, 2) := by decide +kernel
theorem dX12_letterOf_43 : decode cX12_letterOf 43 = .ok (.if_icmp .ne 7, 3) := by decide +kernel
theorem dX12_letterOf_46 : decode cX12_letterOf 46 = .ok (.iconst 4, 1) := by decide +kernel
theorem dX12_letterOf_47 : decode cX12_letterOf 47 = .ok (.goto 25, 3) := by decide +kernel
theorem dX12_letterOf_50 : decode cX12_letterOf 50 = .ok (.iload_n 0, 1) := by decide +kernel
theorem dX12_letterOf_51 : decode cX12_letterOf 51 = .ok (.bipush 116, 2) := by decide +kernel
theorem dX12_letterOf_53 : decode cX12_letterOf 53 = .ok (.if_icmp .ne 7, 3) := by decide +kernel
theorem dX12_letterOf_56 : decode cX12_letterOf 56 = .ok (.iconst 5, 1) := by decide +kernel
theorem dX12_letterOf_57 : decode cX12_letterOf 57 = .ok (.goto 15, 3) := by decide +kernel
theorem dX12_letterOf_60 : decode cX12_letterOf 60 = .ok (.iload_n 0, 1) := by decide +kernel
theorem dX12_letterOf_61 : decode cX12_letterOf 61 = .ok (.bipush 110, 2) := by decide +kernel
theorem dX12_letterOf_63 : decode cX12_letterOf 63 = .ok (.if_icmp .ne 8, 3) := by decide +kernel
theorem dX12_letterOf_66 : decode cX12_letterOf 66 = .ok (.bipush 6, 2) := by decide +kernel
theorem dX12_letterOf_68 : decode cX12_letterOf 68 = .ok (.goto 4, 3) := by decide +kernel
theorem dX12_letterOf_71 : decode cX12_letterOf 71 = .ok (.iconst (-1), 1) := by decide +kernel
theorem dX12_letterOf_72 : decode cX12_letterOf 72 = .ok (.ireturn, 1) := by decide +kernel
def fn_X12_letterOf (h : aH) (p0 : Int32) : Option (Int32) :=
  if p0 = 97 then
    some 0
  else
    if p0 = 98 then
      some 1
    else
      if p0 = 109 then
        some 2
      else
        if p0 = 107 then
          some 3
        else
          if p0 = 115 then
            some 4
          else
            if p0 = 116 then
              some 5
            else
              if p0 = 110 then
                some 6
              else
                some (-1)
set_option maxRecDepth 20000 in
set_option maxHeartbeats 4000000 in
theorem ev_X12_letterOf {l : Launch} {g : aG} {d : Nat} (hd : 0 ≤ d) (h : aH) (p0 : Int32) (o : Int32) (hf : fn_X12_letterOf h p0 = some o) : EvM l g d yX12_letterOf cX12_letterOf 1 (some .int) [.int p0] h (some (.int o), h) := by
  refine EvM.of mk_X12_letterOf (Nat.le_of_ble_eq_true rfl) ?_
  intro Γ hl hg hq X
  have hd1 : 0 ≤ d := by omega
  have hk : RpI h Γ o := hq
  unfold fn_X12_letterOf at hf
  show Jd Γ (0, 0) 0 [some (.int p0)] [] h
  refine r_iload_n (pc := 0) X dX12_letterOf_0 rfl ?_
  refine r_bipush (pc := 1) X 97 dX12_letterOf_1 (by decide) ?_
  refine r_icmp_ne (pc := 3) X 10 dX12_letterOf_3 (by decide) (fun c7 => ?_) (fun c7 => ?_)
  · rw [if_neg c7] at hf
    refine r_iload_n (pc := 10) X dX12_letterOf_10 rfl ?_
    refine r_bipush (pc := 11) X 98 dX12_letterOf_11 (by decide) ?_
    refine r_icmp_ne (pc := 13) X 20 dX12_letterOf_13 (by decide) (fun c6 => ?_) (fun c6 => ?_)
    · rw [if_neg c6] at hf
      refine r_iload_n (pc := 20) X dX12_letterOf_20 rfl ?_
      refine r_bipush (pc := 21) X 109 dX12_letterOf_21 (by decide) ?_
      refine r_icmp_ne (pc := 23) X 30 dX12_letterOf_23 (by decide) (fun c5 => ?_) (fun c5 => ?_)
      · rw [if_neg c5] at hf
        refine r_iload_n (pc := 30) X dX12_letterOf_30 rfl ?_
        refine r_bipush (pc := 31) X 107 dX12_letterOf_31 (by decide) ?_
        refine r_icmp_ne (pc := 33) X 40 dX12_letterOf_33 (by decide) (fun c4 => ?_) (fun c4 => ?_)
        · rw [if_neg c4] at hf
          refine r_iload_n (pc := 40) X dX12_letterOf_40 rfl ?_
          refine r_bipush (pc := 41) X 115 dX12_letterOf_41 (by decide) ?_
          refine r_icmp_ne (pc := 43) X 50 dX12_letterOf_43 (by decide) (fun c3 => ?_) (fun c3 => ?_)
          · rw [if_neg c3] at hf
            refine r_iload_n (pc := 50) X dX12_letterOf_50 rfl ?_
            refine r_bipush (pc := 51) X 116 dX12_letterOf_51 (by decide) ?_
            refine r_icmp_ne (pc := 53) X 60 dX12_letterOf_53 (by decide) (fun c2 => ?_) (fun c2 => ?_)
            · rw [if_neg c2] at hf
              refine r_iload_n (pc := 60) X dX12_letterOf_60 rfl ?_
              refine r_bipush (pc := 61) X 110 dX12_letterOf_61 (by decide) ?_
              refine r_icmp_ne (pc := 63) X 71 dX12_letterOf_63 (by decide) (fun c1 => ?_) (fun c1 => ?_)
              · rw [if_neg c1] at hf
                refine r_iconst (pc := 71) X (-1) dX12_letterOf_71 (by decide) ?_
                obtain rfl := Option.some.inj hf
                exact r_iret (pc := 72) X dX12_letterOf_72 hk
              · rw [if_pos c1] at hf
                refine r_bipush (pc := 66) X 6 dX12_letterOf_66 (by decide) ?_
                refine r_goto (pc := 68) X 72 dX12_letterOf_68 (by decide) ?_
                obtain rfl := Option.some.inj hf
                exact r_iret (pc := 72) X dX12_letterOf_72 hk
            · rw [if_pos c2] at hf
              refine r_iconst (pc := 56) X 5 dX12_letterOf_56 (by decide) ?_
              refine r_goto (pc := 57) X 72 dX12_letterOf_57 (by decide) ?_
              obtain rfl := Option.some.inj hf
              exact r_iret (pc := 72) X dX12_letterOf_72 hk
          · rw [if_pos c3] at hf
            refine r_iconst (pc := 46) X 4 dX12_letterOf_46 (by decide) ?_
            refine r_goto (pc := 47) X 72 dX12_letterOf_47 (by decide) ?_
            obtain rfl := Option.some.inj hf
            exact r_iret (pc := 72) X dX12_letterOf_72 hk
        · rw [if_pos c4] at hf
          refine r_iconst (pc := 36) X 3 dX12_letterOf_36 (by decide) ?_
          refine r_goto (pc := 37) X 72 dX12_letterOf_37 (by decide) ?_
          obtain rfl := Option.some.inj hf
          exact r_iret (pc := 72) X dX12_letterOf_72 hk
      · rw [if_pos c5] at hf
        refine r_iconst (pc := 26) X 2 dX12_letterOf_26 (by decide) ?_
        refine r_goto (pc := 27) X 72 dX12_letterOf_27 (by decide) ?_
        obtain rfl := Option.some.inj hf
        exact r_iret (pc := 72) X dX12_letterOf_72 hk
    · rw [if_pos c6] at hf
      refine r_iconst (pc := 16) X 1 dX12_letterOf_16 (by decide) ?_
      refine r_goto (pc := 17) X 72 dX12_letterOf_17 (by decide) ?_
      obtain rfl := Option.some.inj hf
      exact r_iret (pc := 72) X dX12_letterOf_72 hk
  · rw [if_pos c7] at hf
    refine r_iconst (pc := 6) X 0 dX12_letterOf_6 (by decide) ?_
    refine r_goto (pc := 7) X 72 dX12_letterOf_7 (by decide) ?_
    obtain rfl := Option.some.inj hf
    exact r_iret (pc := 72) X dX12_letterOf_72 hk

theorem dX12_product_0 : decode cX12_product 0 = .ok (.aload_n 0, 1) := by decide +kernel
theorem dX12_product_1 : decode cX12_product 1 = .ok (.iload_n 1, 1) := by decide +kernel
theorem dX12_product_2 : decode cX12_product 2 = .ok (.invokevirtual 191, 3) := by decide +kernel
theorem dX12_product_5 : decode cX12_product 5 = .ok (.istore_n 2, 1) := by decide +kernel
theorem dX12_product_6 : decode cX12_product 6 = .ok (.aload_n 0, 1) := by decide +kernel
theorem dX12_product_7 : decode cX12_product 7 = .ok (.invokevirtual 143, 3) := by decide +kernel
theorem dX12_product_10 : decode cX12_product 10 = .ok (.ifCond .eq 81, 3) := by decide +kernel
theorem dX12_product_13 : decode cX12_product 13 = .ok (.aload_n 0, 1) := by decide +kernel
theorem dX12_product_14 : decode cX12_product 14 = .ok (.invokevirtual 147, 3) := by decide +kernel
theorem dX12_product_17 : decode cX12_product 17 = .ok (.bipush 42, 2) := by decide +kernel
theorem dX12_product_19 : decode cX12_product 19 = .ok (.if_icmp .eq 12, 3) := by decide +kernel
theorem dX12_product_22 : decode cX12_product 22 = .ok (.aload_n 0, 1) := by decide +kernel
theorem dX12_product_23 : decode cX12_product 23 = .ok (.invokevirtual 147, 3) := by decide +kernel
theorem dX12_product_26 : decode cX12_product 26 = .ok (.bipush 47, 2) := by decide +kernel
theorem dX12_product_28 : decode cX12_product 28 = .ok (.if_icmp .ne 63, 3) := by decide +kernel
theorem dX12_product_31 : decode cX12_product 31 = .ok (.aload_n 0, 1) := by decide +kernel
theorem dX12_product_32 : decode cX12_product 32 = .ok (.invokevirtual 147, 3) := by decide +kernel
theorem dX12_product_35 : decode cX12_product 35 = .ok (.bipush 42, 2) := by decide +kernel
theorem dX12_product_37 : decode cX12_product 37 = .ok (.if_icmp .ne 7, 3) := by decide +kernel
theorem dX12_product_40 : decode cX12_product 40 = .ok (.iconst 1, 1) := by decide +kernel
theorem dX12_product_41 : decode cX12_product 41 = .ok (.goto 4, 3) := by decide +kernel
theorem dX12_product_44 : decode cX12_product 44 = .ok (.iconst 0, 1) := by decide +kernel
theorem dX12_product_45 : decode cX12_product 45 = .ok (.istore_n 3, 1) := by decide +kernel
theorem dX12_product_46 : decode cX12_product 46 = .ok (.aload_n 0, 1) := by decide +kernel
theorem dX12_product_47 : decode cX12_product 47 = .ok (.dup, 1) := by decide +kernel
theorem dX12_product_48 : decode cX12_product 48 = .ok (.getfield 133, 3) := by decide +kernel
theorem dX12_product_51 : decode cX12_product 51 = .ok (.iconst 1, 1) := by decide +kernel
theorem dX12_product_52 : decode cX12_product 52 = .ok (.iadd, 1) := by decide +kernel
theorem dX12_product_53 : decode cX12_product 53 = .ok (.putfield 133, 3) := by decide +kernel
theorem dX12_product_56 : decode cX12_product 56 = .ok (.aload_n 0, 1) := by decide +kernel
theorem dX12_product_57 : decode cX12_product 57 = .ok (.iload_n 1, 1) := by decide +kernel
theorem dX12_product_58 : decode cX12_product 58 = .ok (.invokevirtual 191, 3) := by decide +kernel
theorem dX12_product_61 : decode cX12_product 61 = .ok (.istore 4, 2) := by decide +kernel
theorem dX12_product_63 : decode cX12_product 63 = .ok (.iload_n 3, 1) := by decide +kernel
theorem dX12_product_64 : decode cX12_product 64 = .ok (.ifCond .eq 10, 3) := by decide +kernel
theorem dX12_product_67 : decode cX12_product 67 = .ok (.iload_n 2, 1) := by decide +kernel
theorem dX12_product_68 : decode cX12_product 68 = .ok (.iload 4, 2) := by decide +kernel
theorem dX12_product_70 : decode cX12_product 70 = .ok (.imul, 1) := by decide +kernel
theorem dX12_product_71 : decode cX12_product 71 = .ok (.goto 16, 3) := by decide +kernel
theorem dX12_product_74 : decode cX12_product 74 = .ok (.iload 4, 2) := by decide +kernel
theorem dX12_product_76 : decode cX12_product 76 = .ok (.ifCond .ne 7, 3) := by decide +kernel
theorem dX12_product_79 : decode cX12_product 79 = .ok (.iconst 0, 1) := by decide +kernel
theorem dX12_product_80 : decode cX12_product 80 = .ok (.goto 7, 3) := by decide +kernel
theorem dX12_product_83 : decode cX12_product 83 = .ok (.iload_n 2, 1) := by decide +kernel
theorem dX12_product_84 : decode cX12_product 84 = .ok (.iload 4, 2) := by decide +kernel
theorem dX12_product_86 : decode cX12_product 86 = .ok (.idiv, 1) := by decide +kernel
theorem dX12_product_87 : decode cX12_product 87 = .ok (.istore_n 2, 1) := by decide +kernel
theorem dX12_product_88 : decode cX12_product 88 = .ok (.goto (-82), 3) := by decide +kernel
theorem dX12_product_91 : decode cX12_product 91 = .ok (.iload_n 2, 1) := by decide +kernel
theorem dX12_product_92 : decode cX12_product 92 = .ok (.ireturn, 1) := by decide +kernel
def lb_X12_product_6 (th : aH → Nat → Int32 → Option (Int32 × aH)) (v0 : Nat) (v1 : Int32) (s : Int32 × aH) : Option ((Int32 × aH) ⊕ ((Int32 × aH))) :=
  (ck s.2 v0 11).bind fun u3 =>
  (fn_X12_fine s.2 v0).bind fun x4 =>
  if x4 = 0 then
    some (.inr (s.1, s.2))
  else
    (ck s.2 v0 11).bind fun u5 =>
    (fn_X12_here s.2 v0).bind fun x6 =>
    if x6 = 42 then
      (ck s.2 v0 11).bind fun u7 =>
      (fn_X12_here s.2 v0).bind fun x8 =>
      ((
        if x8 = 42 then
          some 1
        else
          some 0
      ) : Option (Int32)).bind fun t9 =>
      (gI s.2 v0 11 15).bind fun x10 =>
      (pI s.2 v0 11 15 (x10 + 1)).bind fun h11 =>
      (ck h11 v0 11).bind fun u12 =>
      (th h11 v0 v1).bind fun o13 =>
      if t9 = 0 then
        if o13.1 = 0 then
          some (.inl (0, o13.2))
        else
          (idv s.1 o13.1).bind fun x14 =>
          some (.inl (x14, o13.2))
      else
        (some (s.1 * o13.1)).bind fun x16 =>
        some (.inl (x16, o13.2))
    else
      (ck s.2 v0 11).bind fun u19 =>
      (fn_X12_here s.2 v0).bind fun x20 =>
      if x20 = 47 then
        (ck s.2 v0 11).bind fun u21 =>
        (fn_X12_here s.2 v0).bind fun x22 =>
        ((
          if x22 = 42 then
            some 1
          else
            some 0
        ) : Option (Int32)).bind fun t23 =>
        (gI s.2 v0 11 15).bind fun x24 =>
        (pI s.2 v0 11 15 (x24 + 1)).bind fun h25 =>
        (ck h25 v0 11).bind fun u26 =>
        (th h25 v0 v1).bind fun o27 =>
        if t23 = 0 then
          if o27.1 = 0 then
            some (.inl (0, o27.2))
          else
            (idv s.1 o27.1).bind fun x28 =>
            some (.inl (x28, o27.2))
        else
          (some (s.1 * o27.1)).bind fun x30 =>
          some (.inl (x30, o27.2))
      else
        some (.inr (s.1, s.2))
def hd_X12_product_6 (Γ : aC) (v0 : Nat) (v1 : Int32) (s : Int32 × aH) : Prop := ∀ (j3 : Option Value) (j4 : Option Value), Jd Γ (0, 0) 6 [some (.ref v0), some (.int v1), some (.int s.1), j3, j4] [] s.2
def ex_X12_product_6 (Γ : aC) (v0 : Nat) (v1 : Int32) (r : (Int32 × aH)) : Prop := (fun r => RqI Γ r) r
set_option maxRecDepth 20000 in
set_option maxHeartbeats 4000000 in
theorem lw_X12_product_6 (th : aH → Nat → Int32 → Option (Int32 × aH)) {Γ : aC} {d D0 : Nat} (X : Cx Γ RX12 cX12_product 5 (some .int) (d, 0, 0)) (hd : D0 + 1 ≤ d) (hth : ∀ (l : Launch) (g : aG) (d : Nat), D0 ≤ d → ∀ (h : aH) (q0 : Nat) (q1 : Int32) (o : Int32 × aH), th h q0 q1 = some o → EvM l g d yX12_thing cX12_thing 4 (some .int) [.ref q0, .int q1] h (some (.int o.1), o.2)) (v0 : Nat) (v1 : Int32) : ∀ n s o, lp (lb_X12_product_6 th v0 v1) n s = some o → ex_X12_product_6 Γ v0 v1 o → hd_X12_product_6 Γ v0 v1 s := by
  have hd1 : 1 ≤ d := by omega
  refine J_lp _ _ _ ?_
  intro s o hf hk j3 j4
  unfold lb_X12_product_6 at hf
  refine r_aload_n (pc := 6) X dX12_product_6 rfl ?_
  obtain ⟨u3, eu3, hf⟩ := ob hf
  obtain ⟨x4, ex4, hf⟩ := ob hf
  refine r_callVI (pc := 7) X [] dX12_product_7 ml_X12_143 vo_X12_fine ⟨Nat.le_refl _, Nat.le_refl _⟩ eu3 (ev_X12_fine (d := d - 1) (by omega) _ _ _ ex4) hd1 rfl (Nat.le_of_ble_eq_true rfl) rfl ?_
  refine r_if_eq (pc := 10) X 91 dX12_product_10 (by decide) (fun c35 => ?_) (fun c35 => ?_)
  · rw [if_pos c35] at hf
    refine r_iload_n (pc := 91) X dX12_product_91 rfl ?_
    obtain rfl := Option.some.inj hf
    exact r_iret (pc := 92) X dX12_product_92 hk
  · rw [if_neg c35] at hf
    refine r_aload_n (pc := 13) X dX12_product_13 rfl ?_
    obtain ⟨u5, eu5, hf⟩ := ob hf
    obtain ⟨x6, ex6, hf⟩ := ob hf
    refine r_callVI (pc := 14) X [] dX12_product_14 ml_X12_147 vo_X12_here ⟨Nat.le_refl _, Nat.le_refl _⟩ eu5 (ev_X12_here (d := d - 1) (by omega) _ _ _ ex6) hd1 rfl (Nat.le_of_ble_eq_true rfl) rfl ?_
    refine r_bipush (pc := 17) X 42 dX12_product_17 (by decide) ?_
    refine r_icmp_eq (pc := 19) X 31 dX12_product_19 (by decide) (fun c34 => ?_) (fun c34 => ?_)
    · rw [if_pos c34] at hf
      refine r_aload_n (pc := 31) X dX12_product_31 rfl ?_
      obtain ⟨u7, eu7, hf⟩ := ob hf
      obtain ⟨x8, ex8, hf⟩ := ob hf
      refine r_callVI (pc := 32) X [] dX12_product_32 ml_X12_147 vo_X12_here ⟨Nat.le_refl _, Nat.le_refl _⟩ eu7 (ev_X12_here (d := d - 1) (by omega) _ _ _ ex8) hd1 rfl (Nat.le_of_ble_eq_true rfl) rfl ?_
      refine r_bipush (pc := 35) X 42 dX12_product_35 (by decide) ?_
      obtain ⟨t9, et9, hf⟩ := ob hf
      have Jt9 : Jd Γ (0, 0) 45 [some (.ref v0), some (.int v1), some (.int s.1), j3, j4] [.int t9] s.2 := by
        refine r_istore_n (pc := 45) X [some (.ref v0), some (.int v1), some (.int s.1), some (.int t9), j4] dX12_product_45 (by decide) rfl ?_
        refine r_aload_n (pc := 46) X dX12_product_46 rfl ?_
        refine r_dup (pc := 47) X dX12_product_47 rfl ?_
        obtain ⟨x10, ex10, hf⟩ := ob hf
        refine r_getI (pc := 48) X dX12_product_48 fl_X12_133 rfl ex10 ?_
        refine r_iconst (pc := 51) X 1 dX12_product_51 (by decide) ?_
        refine r_iadd (pc := 52) X dX12_product_52 ?_
        obtain ⟨h11, eh11, hf⟩ := ob hf
        refine r_putI (pc := 53) X dX12_product_53 fp_X12_133 rfl eh11 ?_
        refine r_aload_n (pc := 56) X dX12_product_56 rfl ?_
        refine r_iload_n (pc := 57) X dX12_product_57 rfl ?_
        obtain ⟨u12, eu12, hf⟩ := ob hf
        obtain ⟨o13, eo13, hf⟩ := ob hf
        refine r_callVI (pc := 58) X [.int v1] dX12_product_58 ml_X12_191 vo_X12_thing ⟨Nat.le_refl _, Nat.le_refl _⟩ eu12 (hth _ _ (d - 1) (by omega) _ _ _ _ eo13) hd1 rfl (Nat.le_of_ble_eq_true rfl) rfl ?_
        refine r_istore (pc := 61) X [some (.ref v0), some (.int v1), some (.int s.1), some (.int t9), some (.int o13.1)] dX12_product_61 (by decide) rfl ?_
        refine r_iload_n (pc := 63) X dX12_product_63 rfl ?_
        refine r_if_eq (pc := 64) X 74 dX12_product_64 (by decide) (fun c17 => ?_) (fun c17 => ?_)
        · rw [if_pos c17] at hf
          refine r_iload (pc := 74) X dX12_product_74 rfl ?_
          refine r_if_ne (pc := 76) X 83 dX12_product_76 (by decide) (fun c15 => ?_) (fun c15 => ?_)
          · rw [if_neg c15] at hf
            refine r_iload_n (pc := 83) X dX12_product_83 rfl ?_
            refine r_iload (pc := 84) X dX12_product_84 rfl ?_
            obtain ⟨x14, ex14, hf⟩ := ob hf
            refine r_idiv (pc := 86) X dX12_product_86 ex14 ?_
            refine r_istore_n (pc := 87) X [some (.ref v0), some (.int v1), some (.int x14), some (.int t9), some (.int o13.1)] dX12_product_87 (by decide) rfl ?_
            refine r_goto (pc := 88) X 6 dX12_product_88 (by decide) ?_
            obtain rfl := Option.some.inj hf
            exact hk _ _
          · rw [if_pos c15] at hf
            refine r_iconst (pc := 79) X 0 dX12_product_79 (by decide) ?_
            refine r_goto (pc := 80) X 87 dX12_product_80 (by decide) ?_
            refine r_istore_n (pc := 87) X [some (.ref v0), some (.int v1), some (.int 0), some (.int t9), some (.int o13.1)] dX12_product_87 (by decide) rfl ?_
            refine r_goto (pc := 88) X 6 dX12_product_88 (by decide) ?_
            obtain rfl := Option.some.inj hf
            exact hk _ _
        · rw [if_neg c17] at hf
          refine r_iload_n (pc := 67) X dX12_product_67 rfl ?_
          refine r_iload (pc := 68) X dX12_product_68 rfl ?_
          refine r_imul (pc := 70) X dX12_product_70 ?_
          refine r_goto (pc := 71) X 87 dX12_product_71 (by decide) ?_
          obtain ⟨x16, ex16, hf⟩ := ob hf
          refine r_nmI ex16 ?_
          refine r_istore_n (pc := 87) X [some (.ref v0), some (.int v1), some (.int x16), some (.int t9), some (.int o13.1)] dX12_product_87 (by decide) rfl ?_
          refine r_goto (pc := 88) X 6 dX12_product_88 (by decide) ?_
          obtain rfl := Option.some.inj hf
          exact hk _ _
      refine r_icmp_ne (pc := 37) X 44 dX12_product_37 (by decide) (fun c18 => ?_) (fun c18 => ?_)
      · rw [if_neg c18] at et9
        refine r_iconst (pc := 44) X 0 dX12_product_44 (by decide) ?_
        obtain rfl := Option.some.inj et9
        exact Jt9
      · rw [if_pos c18] at et9
        refine r_iconst (pc := 40) X 1 dX12_product_40 (by decide) ?_
        refine r_goto (pc := 41) X 45 dX12_product_41 (by decide) ?_
        obtain rfl := Option.some.inj et9
        exact Jt9
    · rw [if_neg c34] at hf
      refine r_aload_n (pc := 22) X dX12_product_22 rfl ?_
      obtain ⟨u19, eu19, hf⟩ := ob hf
      obtain ⟨x20, ex20, hf⟩ := ob hf
      refine r_callVI (pc := 23) X [] dX12_product_23 ml_X12_147 vo_X12_here ⟨Nat.le_refl _, Nat.le_refl _⟩ eu19 (ev_X12_here (d := d - 1) (by omega) _ _ _ ex20) hd1 rfl (Nat.le_of_ble_eq_true rfl) rfl ?_
      refine r_bipush (pc := 26) X 47 dX12_product_26 (by decide) ?_
      refine r_icmp_ne (pc := 28) X 91 dX12_product_28 (by decide) (fun c33 => ?_) (fun c33 => ?_)
      · rw [if_neg c33] at hf
        refine r_iload_n (pc := 91) X dX12_product_91 rfl ?_
        obtain rfl := Option.some.inj hf
        exact r_iret (pc := 92) X dX12_product_92 hk
      · rw [if_pos c33] at hf
        refine r_aload_n (pc := 31) X dX12_product_31 rfl ?_
        obtain ⟨u21, eu21, hf⟩ := ob hf
        obtain ⟨x22, ex22, hf⟩ := ob hf
        refine r_callVI (pc := 32) X [] dX12_product_32 ml_X12_147 vo_X12_here ⟨Nat.le_refl _, Nat.le_refl _⟩ eu21 (ev_X12_here (d := d - 1) (by omega) _ _ _ ex22) hd1 rfl (Nat.le_of_ble_eq_true rfl) rfl ?_
        refine r_bipush (pc := 35) X 42 dX12_product_35 (by decide) ?_
        obtain ⟨t23, et23, hf⟩ := ob hf
        have Jt23 : Jd Γ (0, 0) 45 [some (.ref v0), some (.int v1), some (.int s.1), j3, j4] [.int t23] s.2 := by
          refine r_istore_n (pc := 45) X [some (.ref v0), some (.int v1), some (.int s.1), some (.int t23), j4] dX12_product_45 (by decide) rfl ?_
          refine r_aload_n (pc := 46) X dX12_product_46 rfl ?_
          refine r_dup (pc := 47) X dX12_product_47 rfl ?_
          obtain ⟨x24, ex24, hf⟩ := ob hf
          refine r_getI (pc := 48) X dX12_product_48 fl_X12_133 rfl ex24 ?_
          refine r_iconst (pc := 51) X 1 dX12_product_51 (by decide) ?_
          refine r_iadd (pc := 52) X dX12_product_52 ?_
          obtain ⟨h25, eh25, hf⟩ := ob hf
          refine r_putI (pc := 53) X dX12_product_53 fp_X12_133 rfl eh25 ?_
          refine r_aload_n (pc := 56) X dX12_product_56 rfl ?_
          refine r_iload_n (pc := 57) X dX12_product_57 rfl ?_
          obtain ⟨u26, eu26, hf⟩ := ob hf
          obtain ⟨o27, eo27, hf⟩ := ob hf
          refine r_callVI (pc := 58) X [.int v1] dX12_product_58 ml_X12_191 vo_X12_thing ⟨Nat.le_refl _, Nat.le_refl _⟩ eu26 (hth _ _ (d - 1) (by omega) _ _ _ _ eo27) hd1 rfl (Nat.le_of_ble_eq_true rfl) rfl ?_
          refine r_istore (pc := 61) X [some (.ref v0), some (.int v1), some (.int s.1), some (.int t23), some (.int o27.1)] dX12_product_61 (by decide) rfl ?_
          refine r_iload_n (pc := 63) X dX12_product_63 rfl ?_
          refine r_if_eq (pc := 64) X 74 dX12_product_64 (by decide) (fun c31 => ?_) (fun c31 => ?_)
          · rw [if_pos c31] at hf
            refine r_iload (pc := 74) X dX12_product_74 rfl ?_
            refine r_if_ne (pc := 76) X 83 dX12_product_76 (by decide) (fun c29 => ?_) (fun c29 => ?_)
            · rw [if_neg c29] at hf
              refine r_iload_n (pc := 83) X dX12_product_83 rfl ?_
              refine r_iload (pc := 84) X dX12_product_84 rfl ?_
              obtain ⟨x28, ex28, hf⟩ := ob hf
              refine r_idiv (pc := 86) X dX12_product_86 ex28 ?_
              refine r_istore_n (pc := 87) X [some (.ref v0), some (.int v1), some (.int x28), some (.int t23), some (.int o27.1)] dX12_product_87 (by decide) rfl ?_
              refine r_goto (pc := 88) X 6 dX12_product_88 (by decide) ?_
              obtain rfl := Option.some.inj hf
              exact hk _ _
            · rw [if_pos c29] at hf
              refine r_iconst (pc := 79) X 0 dX12_product_79 (by decide) ?_
              refine r_goto (pc := 80) X 87 dX12_product_80 (by decide) ?_
              refine r_istore_n (pc := 87) X [some (.ref v0), some (.int v1), some (.int 0), some (.int t23), some (.int o27.1)] dX12_product_87 (by decide) rfl ?_
              refine r_goto (pc := 88) X 6 dX12_product_88 (by decide) ?_
              obtain rfl := Option.some.inj hf
              exact hk _ _
          · rw [if_neg c31] at hf
            refine r_iload_n (pc := 67) X dX12_product_67 rfl ?_
            refine r_iload (pc := 68) X dX12_product_68 rfl ?_
            refine r_imul (pc := 70) X dX12_product_70 ?_
            refine r_goto (pc := 71) X 87 dX12_product_71 (by decide) ?_
            obtain ⟨x30, ex30, hf⟩ := ob hf
            refine r_nmI ex30 ?_
            refine r_istore_n (pc := 87) X [some (.ref v0), some (.int v1), some (.int x30), some (.int t23), some (.int o27.1)] dX12_product_87 (by decide) rfl ?_
            refine r_goto (pc := 88) X 6 dX12_product_88 (by decide) ?_
            obtain rfl := Option.some.inj hf
            exact hk _ _
        refine r_icmp_ne (pc := 37) X 44 dX12_product_37 (by decide) (fun c32 => ?_) (fun c32 => ?_)
        · rw [if_neg c32] at et23
          refine r_iconst (pc := 44) X 0 dX12_product_44 (by decide) ?_
          obtain rfl := Option.some.inj et23
          exact Jt23
        · rw [if_pos c32] at et23
          refine r_iconst (pc := 40) X 1 dX12_product_40 (by decide) ?_
          refine r_goto (pc := 41) X 45 dX12_product_41 (by decide) ?_
          obtain rfl := Option.some.inj et23
          exact Jt23
def fn_X12_product (th : aH → Nat → Int32 → Option (Int32 × aH)) (h : aH) (p0 : Nat) (p1 : Int32) : Option (Int32 × aH) :=
  (ck h p0 11).bind fun u1 =>
  (th h p0 p1).bind fun o2 =>
  (lp (lb_X12_product_6 th p0 p1) lpN (o2.1, o2.2)).bind fun o36 =>
  some o36
set_option maxRecDepth 20000 in
set_option maxHeartbeats 4000000 in
theorem ev_X12_product (th : aH → Nat → Int32 → Option (Int32 × aH)) {l : Launch} {g : aG} {d D0 : Nat} (hd : D0 + 1 ≤ d) (hth : ∀ (l : Launch) (g : aG) (d : Nat), D0 ≤ d → ∀ (h : aH) (q0 : Nat) (q1 : Int32) (o : Int32 × aH), th h q0 q1 = some o → EvM l g d yX12_thing cX12_thing 4 (some .int) [.ref q0, .int q1] h (some (.int o.1), o.2)) (h : aH) (p0 : Nat) (p1 : Int32) (o : Int32 × aH) (hf : fn_X12_product th h p0 p1 = some o) : EvM l g d yX12_product cX12_product 5 (some .int) [.ref p0, .int p1] h (some (.int o.1), o.2) := by
  refine EvM.of mk_X12_product (Nat.le_of_ble_eq_true rfl) ?_
  intro Γ hl hg hq X
  have hd1 : 1 ≤ d := by omega
  have hk : RqI Γ o := hq
  unfold fn_X12_product at hf
  show Jd Γ (0, 0) 0 [some (.ref p0), some (.int p1), none, none, none] [] h
  refine r_aload_n (pc := 0) X dX12_product_0 rfl ?_
  refine r_iload_n (pc := 1) X dX12_product_1 rfl ?_
  obtain ⟨u1, eu1, hf⟩ := ob hf
  obtain ⟨o2, eo2, hf⟩ := ob hf
  refine r_callVI (pc := 2) X [.int p1] dX12_product_2 ml_X12_191 vo_X12_thing ⟨Nat.le_refl _, Nat.le_refl _⟩ eu1 (hth _ _ (d - 1) (by omega) _ _ _ _ eo2) hd1 rfl (Nat.le_of_ble_eq_true rfl) rfl ?_
  refine r_istore_n (pc := 5) X [some (.ref p0), some (.int p1), some (.int o2.1), none, none] dX12_product_5 (by decide) rfl ?_
  obtain ⟨o36, eo36, hf⟩ := ob hf
  refine (lw_X12_product_6 th X hd hth _ _ lpN _ o36 eo36 ?_) _ _
  obtain rfl := Option.some.inj hf
  exact hk

theorem dX12_sum_0 : decode cX12_sum 0 = .ok (.aload_n 0, 1) := by decide +kernel
theorem dX12_sum_1 : decode cX12_sum 1 = .ok (.iload_n 1, 1) := by decide +kernel
theorem dX12_sum_2 : decode cX12_sum 2 = .ok (.invokevirtual 188, 3) := by decide +kernel
theorem dX12_sum_5 : decode cX12_sum 5 = .ok (.istore_n 2, 1) := by decide +kernel
theorem dX12_sum_6 : decode cX12_sum 6 = .ok (.aload_n 0, 1) := by decide +kernel
theorem dX12_sum_7 : decode cX12_sum 7 = .ok (.invokevirtual 143, 3) := by decide +kernel
theorem dX12_sum_10 : decode cX12_sum 10 = .ok (.ifCond .eq 72, 3) := by decide +kernel
theorem dX12_sum_13 : decode cX12_sum 13 = .ok (.aload_n 0, 1) := by decide +kernel
theorem dX12_sum_14 : decode cX12_sum 14 = .ok (.invokevirtual 147, 3) := by decide +kernel
theorem dX12_sum_17 : decode cX12_sum 17 = .ok (.bipush 43, 2) := by decide +kernel
theorem dX12_sum_19 : decode cX12_sum 19 = .ok (.if_icmp .eq 12, 3) := by decide +kernel
theorem dX12_sum_22 : decode cX12_sum 22 = .ok (.aload_n 0, 1) := by decide +kernel
theorem dX12_sum_23 : decode cX12_sum 23 = .ok (.invokevirtual 147, 3) := by decide +kernel
theorem dX12_sum_26 : decode cX12_sum 26 = .ok (.bipush 45, 2) := by decide +kernel
theorem dX12_sum_28 : decode cX12_sum 28 = .ok (.if_icmp .ne 54, 3) := by decide +kernel
theorem dX12_sum_31 : decode cX12_sum 31 = .ok (.aload_n 0, 1) := by decide +kernel
theorem dX12_sum_32 : decode cX12_sum 32 = .ok (.invokevirtual 147, 3) := by decide +kernel
theorem dX12_sum_35 : decode cX12_sum 35 = .ok (.bipush 43, 2) := by decide +kernel
theorem dX12_sum_37 : decode cX12_sum 37 = .ok (.if_icmp .ne 7, 3) := by decide +kernel
theorem dX12_sum_40 : decode cX12_sum 40 = .ok (.iconst 1, 1) := by decide +kernel
theorem dX12_sum_41 : decode cX12_sum 41 = .ok (.goto 4, 3) := by decide +kernel
theorem dX12_sum_44 : decode cX12_sum 44 = .ok (.iconst 0, 1) := by decide +kernel
theorem dX12_sum_45 : decode cX12_sum 45 = .ok (.istore_n 3, 1) := by decide +kernel
theorem dX12_sum_46 : decode cX12_sum 46 = .ok (.aload_n 0, 1) := by decide +kernel
theorem dX12_sum_47 : decode cX12_sum 47 = .ok (.dup, 1) := by decide +kernel
theorem dX12_sum_48 : decode cX12_sum 48 = .ok (.getfield 133, 3) := by decide +kernel
theorem dX12_sum_51 : decode cX12_sum 51 = .ok (.iconst 1, 1) := by decide +kernel
theorem dX12_sum_52 : decode cX12_sum 52 = .ok (.iadd, 1) := by decide +kernel
theorem dX12_sum_53 : decode cX12_sum 53 = .ok (.putfield 133, 3) := by decide +kernel
theorem dX12_sum_56 : decode cX12_sum 56 = .ok (.aload_n 0, 1) := by decide +kernel
theorem dX12_sum_57 : decode cX12_sum 57 = .ok (.iload_n 1, 1) := by decide +kernel
theorem dX12_sum_58 : decode cX12_sum 58 = .ok (.invokevirtual 188, 3) := by decide +kernel
theorem dX12_sum_61 : decode cX12_sum 61 = .ok (.istore 4, 2) := by decide +kernel
theorem dX12_sum_63 : decode cX12_sum 63 = .ok (.iload_n 3, 1) := by decide +kernel
theorem dX12_sum_64 : decode cX12_sum 64 = .ok (.ifCond .eq 10, 3) := by decide +kernel
theorem dX12_sum_67 : decode cX12_sum 67 = .ok (.iload_n 2, 1) := by decide +kernel
theorem dX12_sum_68 : decode cX12_sum 68 = .ok (.iload 4, 2) := by decide +kernel
theorem dX12_sum_70 : decode cX12_sum 70 = .ok (.iadd, 1) := by decide +kernel
theorem dX12_sum_71 : decode cX12_sum 71 = .ok (.goto 7, 3) := by decide +kernel
theorem dX12_sum_74 : decode cX12_sum 74 = .ok (.iload_n 2, 1) := by decide +kernel
theorem dX12_sum_75 : decode cX12_sum 75 = .ok (.iload 4, 2) := by decide +kernel
theorem dX12_sum_77 : decode cX12_sum 77 = .ok (.isub, 1) := by decide +kernel
theorem dX12_sum_78 : decode cX12_sum 78 = .ok (.istore_n 2, 1) := by decide +kernel
theorem dX12_sum_79 : decode cX12_sum 79 = .ok (.goto (-73), 3) := by decide +kernel
theorem dX12_sum_82 : decode cX12_sum 82 = .ok (.iload_n 2, 1) := by decide +kernel
theorem dX12_sum_83 : decode cX12_sum 83 = .ok (.ireturn, 1) := by decide +kernel
def lb_X12_sum_6 (th : aH → Nat → Int32 → Option (Int32 × aH)) (v0 : Nat) (v1 : Int32) (s : Int32 × aH) : Option ((Int32 × aH) ⊕ ((Int32 × aH))) :=
  (ck s.2 v0 11).bind fun u3 =>
  (fn_X12_fine s.2 v0).bind fun x4 =>
  if x4 = 0 then
    some (.inr (s.1, s.2))
  else
    (ck s.2 v0 11).bind fun u5 =>
    (fn_X12_here s.2 v0).bind fun x6 =>
    if x6 = 43 then
      (ck s.2 v0 11).bind fun u7 =>
      (fn_X12_here s.2 v0).bind fun x8 =>
      ((
        if x8 = 43 then
          some 1
        else
          some 0
      ) : Option (Int32)).bind fun t9 =>
      (gI s.2 v0 11 15).bind fun x10 =>
      (pI s.2 v0 11 15 (x10 + 1)).bind fun h11 =>
      (ck h11 v0 11).bind fun u12 =>
      (fn_X12_product th h11 v0 v1).bind fun o13 =>
      if t9 = 0 then
        (some (s.1 - o13.1)).bind fun x14 =>
        some (.inl (x14, o13.2))
      else
        (some (s.1 + o13.1)).bind fun x15 =>
        some (.inl (x15, o13.2))
    else
      (ck s.2 v0 11).bind fun u18 =>
      (fn_X12_here s.2 v0).bind fun x19 =>
      if x19 = 45 then
        (ck s.2 v0 11).bind fun u20 =>
        (fn_X12_here s.2 v0).bind fun x21 =>
        ((
          if x21 = 43 then
            some 1
          else
            some 0
        ) : Option (Int32)).bind fun t22 =>
        (gI s.2 v0 11 15).bind fun x23 =>
        (pI s.2 v0 11 15 (x23 + 1)).bind fun h24 =>
        (ck h24 v0 11).bind fun u25 =>
        (fn_X12_product th h24 v0 v1).bind fun o26 =>
        if t22 = 0 then
          (some (s.1 - o26.1)).bind fun x27 =>
          some (.inl (x27, o26.2))
        else
          (some (s.1 + o26.1)).bind fun x28 =>
          some (.inl (x28, o26.2))
      else
        some (.inr (s.1, s.2))
def hd_X12_sum_6 (Γ : aC) (v0 : Nat) (v1 : Int32) (s : Int32 × aH) : Prop := ∀ (j3 : Option Value) (j4 : Option Value), Jd Γ (0, 0) 6 [some (.ref v0), some (.int v1), some (.int s.1), j3, j4] [] s.2
def ex_X12_sum_6 (Γ : aC) (v0 : Nat) (v1 : Int32) (r : (Int32 × aH)) : Prop := (fun r => RqI Γ r) r
set_option maxRecDepth 20000 in
set_option maxHeartbeats 4000000 in
theorem lw_X12_sum_6 (th : aH → Nat → Int32 → Option (Int32 × aH)) {Γ : aC} {d D0 : Nat} (X : Cx Γ RX12 cX12_sum 5 (some .int) (d, 0, 0)) (hd : D0 + 2 ≤ d) (hth : ∀ (l : Launch) (g : aG) (d : Nat), D0 ≤ d → ∀ (h : aH) (q0 : Nat) (q1 : Int32) (o : Int32 × aH), th h q0 q1 = some o → EvM l g d yX12_thing cX12_thing 4 (some .int) [.ref q0, .int q1] h (some (.int o.1), o.2)) (v0 : Nat) (v1 : Int32) : ∀ n s o, lp (lb_X12_sum_6 th v0 v1) n s = some o → ex_X12_sum_6 Γ v0 v1 o → hd_X12_sum_6 Γ v0 v1 s := by
  have hd1 : 1 ≤ d := by omega
  refine J_lp _ _ _ ?_
  intro s o hf hk j3 j4
  unfold lb_X12_sum_6 at hf
  refine r_aload_n (pc := 6) X dX12_sum_6 rfl ?_
  obtain ⟨u3, eu3, hf⟩ := ob hf
  obtain ⟨x4, ex4, hf⟩ := ob hf
  refine r_callVI (pc := 7) X [] dX12_sum_7 ml_X12_143 vo_X12_fine ⟨Nat.le_refl _, Nat.le_refl _⟩ eu3 (ev_X12_fine (d := d - 1) (by omega) _ _ _ ex4) hd1 rfl (Nat.le_of_ble_eq_true rfl) rfl ?_
  refine r_if_eq (pc := 10) X 82 dX12_sum_10 (by decide) (fun c33 => ?_) (fun c33 => ?_)
  · rw [if_pos c33] at hf
    refine r_iload_n (pc := 82) X dX12_sum_82 rfl ?_
    obtain rfl := Option.some.inj hf
    exact r_iret (pc := 83) X dX12_sum_83 hk
  · rw [if_neg c33] at hf
    refine r_aload_n (pc := 13) X dX12_sum_13 rfl ?_
    obtain ⟨u5, eu5, hf⟩ := ob hf
    obtain ⟨x6, ex6, hf⟩ := ob hf
    refine r_callVI (pc := 14) X [] dX12_sum_14 ml_X12_147 vo_X12_here ⟨Nat.le_refl _, Nat.le_refl _⟩ eu5 (ev_X12_here (d := d - 1) (by omega) _ _ _ ex6) hd1 rfl (Nat.le_of_ble_eq_true rfl) rfl ?_
    refine r_bipush (pc := 17) X 43 dX12_sum_17 (by decide) ?_
    refine r_icmp_eq (pc := 19) X 31 dX12_sum_19 (by decide) (fun c32 => ?_) (fun c32 => ?_)
    · rw [if_pos c32] at hf
      refine r_aload_n (pc := 31) X dX12_sum_31 rfl ?_
      obtain ⟨u7, eu7, hf⟩ := ob hf
      obtain ⟨x8, ex8, hf⟩ := ob hf
      refine r_callVI (pc := 32) X [] dX12_sum_32 ml_X12_147 vo_X12_here ⟨Nat.le_refl _, Nat.le_refl _⟩ eu7 (ev_X12_here (d := d - 1) (by omega) _ _ _ ex8) hd1 rfl (Nat.le_of_ble_eq_true rfl) rfl ?_
      refine r_bipush (pc := 35) X 43 dX12_sum_35 (by decide) ?_
      obtain ⟨t9, et9, hf⟩ := ob hf
      have Jt9 : Jd Γ (0, 0) 45 [some (.ref v0), some (.int v1), some (.int s.1), j3, j4] [.int t9] s.2 := by
        refine r_istore_n (pc := 45) X [some (.ref v0), some (.int v1), some (.int s.1), some (.int t9), j4] dX12_sum_45 (by decide) rfl ?_
        refine r_aload_n (pc := 46) X dX12_sum_46 rfl ?_
        refine r_dup (pc := 47) X dX12_sum_47 rfl ?_
        obtain ⟨x10, ex10, hf⟩ := ob hf
        refine r_getI (pc := 48) X dX12_sum_48 fl_X12_133 rfl ex10 ?_
        refine r_iconst (pc := 51) X 1 dX12_sum_51 (by decide) ?_
        refine r_iadd (pc := 52) X dX12_sum_52 ?_
        obtain ⟨h11, eh11, hf⟩ := ob hf
        refine r_putI (pc := 53) X dX12_sum_53 fp_X12_133 rfl eh11 ?_
        refine r_aload_n (pc := 56) X dX12_sum_56 rfl ?_
        refine r_iload_n (pc := 57) X dX12_sum_57 rfl ?_
        obtain ⟨u12, eu12, hf⟩ := ob hf
        obtain ⟨o13, eo13, hf⟩ := ob hf
        refine r_callVI (pc := 58) X [.int v1] dX12_sum_58 ml_X12_188 vo_X12_product ⟨Nat.le_refl _, Nat.le_refl _⟩ eu12 (ev_X12_product th (d := d - 1) (by omega) hth _ _ _ _ eo13) hd1 rfl (Nat.le_of_ble_eq_true rfl) rfl ?_
        refine r_istore (pc := 61) X [some (.ref v0), some (.int v1), some (.int s.1), some (.int t9), some (.int o13.1)] dX12_sum_61 (by decide) rfl ?_
        refine r_iload_n (pc := 63) X dX12_sum_63 rfl ?_
        refine r_if_eq (pc := 64) X 74 dX12_sum_64 (by decide) (fun c16 => ?_) (fun c16 => ?_)
        · rw [if_pos c16] at hf
          refine r_iload_n (pc := 74) X dX12_sum_74 rfl ?_
          refine r_iload (pc := 75) X dX12_sum_75 rfl ?_
          refine r_isub (pc := 77) X dX12_sum_77 ?_
          obtain ⟨x14, ex14, hf⟩ := ob hf
          refine r_nmI ex14 ?_
          refine r_istore_n (pc := 78) X [some (.ref v0), some (.int v1), some (.int x14), some (.int t9), some (.int o13.1)] dX12_sum_78 (by decide) rfl ?_
          refine r_goto (pc := 79) X 6 dX12_sum_79 (by decide) ?_
          obtain rfl := Option.some.inj hf
          exact hk _ _
        · rw [if_neg c16] at hf
          refine r_iload_n (pc := 67) X dX12_sum_67 rfl ?_
          refine r_iload (pc := 68) X dX12_sum_68 rfl ?_
          refine r_iadd (pc := 70) X dX12_sum_70 ?_
          refine r_goto (pc := 71) X 78 dX12_sum_71 (by decide) ?_
          obtain ⟨x15, ex15, hf⟩ := ob hf
          refine r_nmI ex15 ?_
          refine r_istore_n (pc := 78) X [some (.ref v0), some (.int v1), some (.int x15), some (.int t9), some (.int o13.1)] dX12_sum_78 (by decide) rfl ?_
          refine r_goto (pc := 79) X 6 dX12_sum_79 (by decide) ?_
          obtain rfl := Option.some.inj hf
          exact hk _ _
      refine r_icmp_ne (pc := 37) X 44 dX12_sum_37 (by decide) (fun c17 => ?_) (fun c17 => ?_)
      · rw [if_neg c17] at et9
        refine r_iconst (pc := 44) X 0 dX12_sum_44 (by decide) ?_
        obtain rfl := Option.some.inj et9
        exact Jt9
      · rw [if_pos c17] at et9
        refine r_iconst (pc := 40) X 1 dX12_sum_40 (by decide) ?_
        refine r_goto (pc := 41) X 45 dX12_sum_41 (by decide) ?_
        obtain rfl := Option.some.inj et9
        exact Jt9
    · rw [if_neg c32] at hf
      refine r_aload_n (pc := 22) X dX12_sum_22 rfl ?_
      obtain ⟨u18, eu18, hf⟩ := ob hf
      obtain ⟨x19, ex19, hf⟩ := ob hf
      refine r_callVI (pc := 23) X [] dX12_sum_23 ml_X12_147 vo_X12_here ⟨Nat.le_refl _, Nat.le_refl _⟩ eu18 (ev_X12_here (d := d - 1) (by omega) _ _ _ ex19) hd1 rfl (Nat.le_of_ble_eq_true rfl) rfl ?_
      refine r_bipush (pc := 26) X 45 dX12_sum_26 (by decide) ?_
      refine r_icmp_ne (pc := 28) X 82 dX12_sum_28 (by decide) (fun c31 => ?_) (fun c31 => ?_)
      · rw [if_neg c31] at hf
        refine r_iload_n (pc := 82) X dX12_sum_82 rfl ?_
        obtain rfl := Option.some.inj hf
        exact r_iret (pc := 83) X dX12_sum_83 hk
      · rw [if_pos c31] at hf
        refine r_aload_n (pc := 31) X dX12_sum_31 rfl ?_
        obtain ⟨u20, eu20, hf⟩ := ob hf
        obtain ⟨x21, ex21, hf⟩ := ob hf
        refine r_callVI (pc := 32) X [] dX12_sum_32 ml_X12_147 vo_X12_here ⟨Nat.le_refl _, Nat.le_refl _⟩ eu20 (ev_X12_here (d := d - 1) (by omega) _ _ _ ex21) hd1 rfl (Nat.le_of_ble_eq_true rfl) rfl ?_
        refine r_bipush (pc := 35) X 43 dX12_sum_35 (by decide) ?_
        obtain ⟨t22, et22, hf⟩ := ob hf
        have Jt22 : Jd Γ (0, 0) 45 [some (.ref v0), some (.int v1), some (.int s.1), j3, j4] [.int t22] s.2 := by
          refine r_istore_n (pc := 45) X [some (.ref v0), some (.int v1), some (.int s.1), some (.int t22), j4] dX12_sum_45 (by decide) rfl ?_
          refine r_aload_n (pc := 46) X dX12_sum_46 rfl ?_
          refine r_dup (pc := 47) X dX12_sum_47 rfl ?_
          obtain ⟨x23, ex23, hf⟩ := ob hf
          refine r_getI (pc := 48) X dX12_sum_48 fl_X12_133 rfl ex23 ?_
          refine r_iconst (pc := 51) X 1 dX12_sum_51 (by decide) ?_
          refine r_iadd (pc := 52) X dX12_sum_52 ?_
          obtain ⟨h24, eh24, hf⟩ := ob hf
          refine r_putI (pc := 53) X dX12_sum_53 fp_X12_133 rfl eh24 ?_
          refine r_aload_n (pc := 56) X dX12_sum_56 rfl ?_
          refine r_iload_n (pc := 57) X dX12_sum_57 rfl ?_
          obtain ⟨u25, eu25, hf⟩ := ob hf
          obtain ⟨o26, eo26, hf⟩ := ob hf
          refine r_callVI (pc := 58) X [.int v1] dX12_sum_58 ml_X12_188 vo_X12_product ⟨Nat.le_refl _, Nat.le_refl _⟩ eu25 (ev_X12_product th (d := d - 1) (by omega) hth _ _ _ _ eo26) hd1 rfl (Nat.le_of_ble_eq_true rfl) rfl ?_
          refine r_istore (pc := 61) X [some (.ref v0), some (.int v1), some (.int s.1), some (.int t22), some (.int o26.1)] dX12_sum_61 (by decide) rfl ?_
          refine r_iload_n (pc := 63) X dX12_sum_63 rfl ?_
          refine r_if_eq (pc := 64) X 74 dX12_sum_64 (by decide) (fun c29 => ?_) (fun c29 => ?_)
          · rw [if_pos c29] at hf
            refine r_iload_n (pc := 74) X dX12_sum_74 rfl ?_
            refine r_iload (pc := 75) X dX12_sum_75 rfl ?_
            refine r_isub (pc := 77) X dX12_sum_77 ?_
            obtain ⟨x27, ex27, hf⟩ := ob hf
            refine r_nmI ex27 ?_
            refine r_istore_n (pc := 78) X [some (.ref v0), some (.int v1), some (.int x27), some (.int t22), some (.int o26.1)] dX12_sum_78 (by decide) rfl ?_
            refine r_goto (pc := 79) X 6 dX12_sum_79 (by decide) ?_
            obtain rfl := Option.some.inj hf
            exact hk _ _
          · rw [if_neg c29] at hf
            refine r_iload_n (pc := 67) X dX12_sum_67 rfl ?_
            refine r_iload (pc := 68) X dX12_sum_68 rfl ?_
            refine r_iadd (pc := 70) X dX12_sum_70 ?_
            refine r_goto (pc := 71) X 78 dX12_sum_71 (by decide) ?_
            obtain ⟨x28, ex28, hf⟩ := ob hf
            refine r_nmI ex28 ?_
            refine r_istore_n (pc := 78) X [some (.ref v0), some (.int v1), some (.int x28), some (.int t22), some (.int o26.1)] dX12_sum_78 (by decide) rfl ?_
            refine r_goto (pc := 79) X 6 dX12_sum_79 (by decide) ?_
            obtain rfl := Option.some.inj hf
            exact hk _ _
        refine r_icmp_ne (pc := 37) X 44 dX12_sum_37 (by decide) (fun c30 => ?_) (fun c30 => ?_)
        · rw [if_neg c30] at et22
          refine r_iconst (pc := 44) X 0 dX12_sum_44 (by decide) ?_
          obtain rfl := Option.some.inj et22
          exact Jt22
        · rw [if_pos c30] at et22
          refine r_iconst (pc := 40) X 1 dX12_sum_40 (by decide) ?_
          refine r_goto (pc := 41) X 45 dX12_sum_41 (by decide) ?_
          obtain rfl := Option.some.inj et22
          exact Jt22
def fn_X12_sum (th : aH → Nat → Int32 → Option (Int32 × aH)) (h : aH) (p0 : Nat) (p1 : Int32) : Option (Int32 × aH) :=
  (ck h p0 11).bind fun u1 =>
  (fn_X12_product th h p0 p1).bind fun o2 =>
  (lp (lb_X12_sum_6 th p0 p1) lpN (o2.1, o2.2)).bind fun o34 =>
  some o34
set_option maxRecDepth 20000 in
set_option maxHeartbeats 4000000 in
theorem ev_X12_sum (th : aH → Nat → Int32 → Option (Int32 × aH)) {l : Launch} {g : aG} {d D0 : Nat} (hd : D0 + 2 ≤ d) (hth : ∀ (l : Launch) (g : aG) (d : Nat), D0 ≤ d → ∀ (h : aH) (q0 : Nat) (q1 : Int32) (o : Int32 × aH), th h q0 q1 = some o → EvM l g d yX12_thing cX12_thing 4 (some .int) [.ref q0, .int q1] h (some (.int o.1), o.2)) (h : aH) (p0 : Nat) (p1 : Int32) (o : Int32 × aH) (hf : fn_X12_sum th h p0 p1 = some o) : EvM l g d yX12_sum cX12_sum 5 (some .int) [.ref p0, .int p1] h (some (.int o.1), o.2) := by
  refine EvM.of mk_X12_sum (Nat.le_of_ble_eq_true rfl) ?_
  intro Γ hl hg hq X
  have hd1 : 1 ≤ d := by omega
  have hk : RqI Γ o := hq
  unfold fn_X12_sum at hf
  show Jd Γ (0, 0) 0 [some (.ref p0), some (.int p1), none, none, none] [] h
  refine r_aload_n (pc := 0) X dX12_sum_0 rfl ?_
  refine r_iload_n (pc := 1) X dX12_sum_1 rfl ?_
  obtain ⟨u1, eu1, hf⟩ := ob hf
  obtain ⟨o2, eo2, hf⟩ := ob hf
  refine r_callVI (pc := 2) X [.int p1] dX12_sum_2 ml_X12_188 vo_X12_product ⟨Nat.le_refl _, Nat.le_refl _⟩ eu1 (ev_X12_product th (d := d - 1) (by omega) hth _ _ _ _ eo2) hd1 rfl (Nat.le_of_ble_eq_true rfl) rfl ?_
  refine r_istore_n (pc := 5) X [some (.ref p0), some (.int p1), some (.int o2.1), none, none] dX12_sum_5 (by decide) rfl ?_
  obtain ⟨o34, eo34, hf⟩ := ob hf
  refine (lw_X12_sum_6 th X hd hth _ _ lpN _ o34 eo34 ?_) _ _
  obtain rfl := Option.some.inj hf
  exact hk

theorem dX12_held_0 : decode cX12_held 0 = .ok (.aload_n 0, 1) := by decide +kernel
theorem dX12_held_1 : decode cX12_held 1 = .ok (.iload_n 1, 1) := by decide +kernel
theorem dX12_held_2 : decode cX12_held 2 = .ok (.invokevirtual 184, 3) := by decide +kernel
theorem dX12_held_5 : decode cX12_held 5 = .ok (.istore_n 2, 1) := by decide +kernel
theorem dX12_held_6 : decode cX12_held 6 = .ok (.aload_n 0, 1) := by decide +kernel
theorem dX12_held_7 : decode cX12_held 7 = .ok (.bipush 60, 2) := by decide +kernel
theorem dX12_held_9 : decode cX12_held 9 = .ok (.invokevirtual 151, 3) := by decide +kernel
theorem dX12_held_12 : decode cX12_held 12 = .ok (.ifCond .eq 18, 3) := by decide +kernel
theorem dX12_held_15 : decode cX12_held 15 = .ok (.iload_n 2, 1) := by decide +kernel
theorem dX12_held_16 : decode cX12_held 16 = .ok (.aload_n 0, 1) := by decide +kernel
theorem dX12_held_17 : decode cX12_held 17 = .ok (.iload_n 1, 1) := by decide +kernel
theorem dX12_held_18 : decode cX12_held 18 = .ok (.invokevirtual 184, 3) := by decide +kernel
theorem dX12_held_21 : decode cX12_held 21 = .ok (.if_icmp .ge 7, 3) := by decide +kernel
theorem dX12_held_24 : decode cX12_held 24 = .ok (.iconst 1, 1) := by decide +kernel
theorem dX12_held_25 : decode cX12_held 25 = .ok (.goto 4, 3) := by decide +kernel
theorem dX12_held_28 : decode cX12_held 28 = .ok (.iconst 0, 1) := by decide +kernel
theorem dX12_held_29 : decode cX12_held 29 = .ok (.ireturn, 1) := by decide +kernel
theorem dX12_held_30 : decode cX12_held 30 = .ok (.aload_n 0, 1) := by decide +kernel
theorem dX12_held_31 : decode cX12_held 31 = .ok (.bipush 62, 2) := by decide +kernel
theorem dX12_held_33 : decode cX12_held 33 = .ok (.invokevirtual 151, 3) := by decide +kernel
theorem dX12_held_36 : decode cX12_held 36 = .ok (.ifCond .eq 18, 3) := by decide +kernel
theorem dX12_held_39 : decode cX12_held 39 = .ok (.iload_n 2, 1) := by decide +kernel
theorem dX12_held_40 : decode cX12_held 40 = .ok (.aload_n 0, 1) := by decide +kernel
theorem dX12_held_41 : decode cX12_held 41 = .ok (.iload_n 1, 1) := by decide +kernel
theorem dX12_held_42 : decode cX12_held 42 = .ok (.invokevirtual 184, 3) := by decide +kernel
theorem dX12_held_45 : decode cX12_held 45 = .ok (.if_icmp .le 7, 3) := by decide +kernel
theorem dX12_held_48 : decode cX12_held 48 = .ok (.iconst 1, 1) := by decide +kernel
theorem dX12_held_49 : decode cX12_held 49 = .ok (.goto 4, 3) := by decide +kernel
theorem dX12_held_52 : decode cX12_held 52 = .ok (.iconst 0, 1) := by decide +kernel
theorem dX12_held_53 : decode cX12_held 53 = .ok (.ireturn, 1) := by decide +kernel
theorem dX12_held_54 : decode cX12_held 54 = .ok (.aload_n 0, 1) := by decide +kernel
theorem dX12_held_55 : decode cX12_held 55 = .ok (.bipush 61, 2) := by decide +kernel
theorem dX12_held_57 : decode cX12_held 57 = .ok (.invokevirtual 151, 3) := by decide +kernel
theorem dX12_held_60 : decode cX12_held 60 = .ok (.ifCond .eq 18, 3) := by decide +kernel
theorem dX12_held_63 : decode cX12_held 63 = .ok (.iload_n 2, 1) := by decide +kernel
theorem dX12_held_64 : decode cX12_held 64 = .ok (.aload_n 0, 1) := by decide +kernel
theorem dX12_held_65 : decode cX12_held 65 = .ok (.iload_n 1, 1) := by decide +kernel
theorem dX12_held_66 : decode cX12_held 66 = .ok (.invokevirtual 184, 3) := by decide +kernel
theorem dX12_held_69 : decode cX12_held 69 = .ok (.if_icmp .ne 7, 3) := by decide +kernel
theorem dX12_held_72 : decode cX12_held 72 = .ok (.iconst 1, 1) := by decide +kernel
theorem dX12_held_73 : decode cX12_held 73 = .ok (.goto 4, 3) := by decide +kernel
theorem dX12_held_76 : decode cX12_held 76 = .ok (.iconst 0, 1) := by decide +kernel
theorem dX12_held_77 : decode cX12_held 77 = .ok (.ireturn, 1) := by decide +kernel
theorem dX12_held_78 : decode cX12_held 78 = .ok (.iload_n 2, 1) := by decide +kernel
theorem dX12_held_79 : decode cX12_held 79 = .ok (.ireturn, 1) := by decide +kernel
def fn_X12_held (th : aH → Nat → Int32 → Option (Int32 × aH)) (h : aH) (p0 : Nat) (p1 : Int32) : Option (Int32 × aH) :=
  (ck h p0 11).bind fun u1 =>
  (fn_X12_sum th h p0 p1).bind fun o2 =>
  (ck o2.2 p0 11).bind fun u3 =>
  (fn_X12_passes o2.2 p0 60).bind fun o4 =>
  if o4.1 = 0 then
    (ck o4.2 p0 11).bind fun u5 =>
    (fn_X12_passes o4.2 p0 62).bind fun o6 =>
    if o6.1 = 0 then
      (ck o6.2 p0 11).bind fun u7 =>
      (fn_X12_passes o6.2 p0 61).bind fun o8 =>
      if o8.1 = 0 then
        some (o2.1, o8.2)
      else
        (ck o8.2 p0 11).bind fun u9 =>
        (fn_X12_sum th o8.2 p0 p1).bind fun o10 =>
        if o2.1 = o10.1 then
          some (1, o10.2)
        else
          some (0, o10.2)
    else
      (ck o6.2 p0 11).bind fun u13 =>
      (fn_X12_sum th o6.2 p0 p1).bind fun o14 =>
      if o2.1 ≤ o14.1 then
        some (0, o14.2)
      else
        some (1, o14.2)
  else
    (ck o4.2 p0 11).bind fun u17 =>
    (fn_X12_sum th o4.2 p0 p1).bind fun o18 =>
    if o2.1 < o18.1 then
      some (1, o18.2)
    else
      some (0, o18.2)
set_option maxRecDepth 20000 in
set_option maxHeartbeats 4000000 in
theorem ev_X12_held (th : aH → Nat → Int32 → Option (Int32 × aH)) {l : Launch} {g : aG} {d D0 : Nat} (hd : D0 + 3 ≤ d) (hth : ∀ (l : Launch) (g : aG) (d : Nat), D0 ≤ d → ∀ (h : aH) (q0 : Nat) (q1 : Int32) (o : Int32 × aH), th h q0 q1 = some o → EvM l g d yX12_thing cX12_thing 4 (some .int) [.ref q0, .int q1] h (some (.int o.1), o.2)) (h : aH) (p0 : Nat) (p1 : Int32) (o : Int32 × aH) (hf : fn_X12_held th h p0 p1 = some o) : EvM l g d yX12_held cX12_held 3 (some .int) [.ref p0, .int p1] h (some (.int o.1), o.2) := by
  refine EvM.of mk_X12_held (Nat.le_of_ble_eq_true rfl) ?_
  intro Γ hl hg hq X
  have hd1 : 1 ≤ d := by omega
  have hk : RqI Γ o := hq
  unfold fn_X12_held at hf
  show Jd Γ (0, 0) 0 [some (.ref p0), some (.int p1), none] [] h
  refine r_aload_n (pc := 0) X dX12_held_0 rfl ?_
  refine r_iload_n (pc := 1) X dX12_held_1 rfl ?_
  obtain ⟨u1, eu1, hf⟩ := ob hf
  obtain ⟨o2, eo2, hf⟩ := ob hf
  refine r_callVI (pc := 2) X [.int p1] dX12_held_2 ml_X12_184 vo_X12_sum ⟨Nat.le_refl _, Nat.le_refl _⟩ eu1 (ev_X12_sum th (d := d - 1) (by omega) hth _ _ _ _ eo2) hd1 rfl (Nat.le_of_ble_eq_true rfl) rfl ?_
  refine r_istore_n (pc := 5) X [some (.ref p0), some (.int p1), some (.int o2.1)] dX12_held_5 (by decide) rfl ?_
  refine r_aload_n (pc := 6) X dX12_held_6 rfl ?_
  refine r_bipush (pc := 7) X 60 dX12_held_7 (by decide) ?_
  obtain ⟨u3, eu3, hf⟩ := ob hf
  obtain ⟨o4, eo4, hf⟩ := ob hf
  refine r_callVI (pc := 9) X [.int 60] dX12_held_9 ml_X12_151 vo_X12_passes ⟨Nat.le_refl _, Nat.le_refl _⟩ eu3 (ev_X12_passes (d := d - 1) (by omega) _ _ _ _ eo4) hd1 rfl (Nat.le_of_ble_eq_true rfl) rfl ?_
  refine r_if_eq (pc := 12) X 30 dX12_held_12 (by decide) (fun c20 => ?_) (fun c20 => ?_)
  · rw [if_pos c20] at hf
    refine r_aload_n (pc := 30) X dX12_held_30 rfl ?_
    refine r_bipush (pc := 31) X 62 dX12_held_31 (by decide) ?_
    obtain ⟨u5, eu5, hf⟩ := ob hf
    obtain ⟨o6, eo6, hf⟩ := ob hf
    refine r_callVI (pc := 33) X [.int 62] dX12_held_33 ml_X12_151 vo_X12_passes ⟨Nat.le_refl _, Nat.le_refl _⟩ eu5 (ev_X12_passes (d := d - 1) (by omega) _ _ _ _ eo6) hd1 rfl (Nat.le_of_ble_eq_true rfl) rfl ?_
    refine r_if_eq (pc := 36) X 54 dX12_held_36 (by decide) (fun c16 => ?_) (fun c16 => ?_)
    · rw [if_pos c16] at hf
      refine r_aload_n (pc := 54) X dX12_held_54 rfl ?_
      refine r_bipush (pc := 55) X 61 dX12_held_55 (by decide) ?_
      obtain ⟨u7, eu7, hf⟩ := ob hf
      obtain ⟨o8, eo8, hf⟩ := ob hf
      refine r_callVI (pc := 57) X [.int 61] dX12_held_57 ml_X12_151 vo_X12_passes ⟨Nat.le_refl _, Nat.le_refl _⟩ eu7 (ev_X12_passes (d := d - 1) (by omega) _ _ _ _ eo8) hd1 rfl (Nat.le_of_ble_eq_true rfl) rfl ?_
      refine r_if_eq (pc := 60) X 78 dX12_held_60 (by decide) (fun c12 => ?_) (fun c12 => ?_)
      · rw [if_pos c12] at hf
        refine r_iload_n (pc := 78) X dX12_held_78 rfl ?_
        obtain rfl := Option.some.inj hf
        exact r_iret (pc := 79) X dX12_held_79 hk
      · rw [if_neg c12] at hf
        refine r_iload_n (pc := 63) X dX12_held_63 rfl ?_
        refine r_aload_n (pc := 64) X dX12_held_64 rfl ?_
        refine r_iload_n (pc := 65) X dX12_held_65 rfl ?_
        obtain ⟨u9, eu9, hf⟩ := ob hf
        obtain ⟨o10, eo10, hf⟩ := ob hf
        refine r_callVI (pc := 66) X [.int p1] dX12_held_66 ml_X12_184 vo_X12_sum ⟨Nat.le_refl _, Nat.le_refl _⟩ eu9 (ev_X12_sum th (d := d - 1) (by omega) hth _ _ _ _ eo10) hd1 rfl (Nat.le_of_ble_eq_true rfl) rfl ?_
        refine r_icmp_ne (pc := 69) X 76 dX12_held_69 (by decide) (fun c11 => ?_) (fun c11 => ?_)
        · rw [if_neg c11] at hf
          refine r_iconst (pc := 76) X 0 dX12_held_76 (by decide) ?_
          obtain rfl := Option.some.inj hf
          exact r_iret (pc := 77) X dX12_held_77 hk
        · rw [if_pos c11] at hf
          refine r_iconst (pc := 72) X 1 dX12_held_72 (by decide) ?_
          refine r_goto (pc := 73) X 77 dX12_held_73 (by decide) ?_
          obtain rfl := Option.some.inj hf
          exact r_iret (pc := 77) X dX12_held_77 hk
    · rw [if_neg c16] at hf
      refine r_iload_n (pc := 39) X dX12_held_39 rfl ?_
      refine r_aload_n (pc := 40) X dX12_held_40 rfl ?_
      refine r_iload_n (pc := 41) X dX12_held_41 rfl ?_
      obtain ⟨u13, eu13, hf⟩ := ob hf
      obtain ⟨o14, eo14, hf⟩ := ob hf
      refine r_callVI (pc := 42) X [.int p1] dX12_held_42 ml_X12_184 vo_X12_sum ⟨Nat.le_refl _, Nat.le_refl _⟩ eu13 (ev_X12_sum th (d := d - 1) (by omega) hth _ _ _ _ eo14) hd1 rfl (Nat.le_of_ble_eq_true rfl) rfl ?_
      refine r_icmp_le (pc := 45) X 52 dX12_held_45 (by decide) (fun c15 => ?_) (fun c15 => ?_)
      · rw [if_pos c15] at hf
        refine r_iconst (pc := 52) X 0 dX12_held_52 (by decide) ?_
        obtain rfl := Option.some.inj hf
        exact r_iret (pc := 53) X dX12_held_53 hk
      · rw [if_neg c15] at hf
        refine r_iconst (pc := 48) X 1 dX12_held_48 (by decide) ?_
        refine r_goto (pc := 49) X 53 dX12_held_49 (by decide) ?_
        obtain rfl := Option.some.inj hf
        exact r_iret (pc := 53) X dX12_held_53 hk
  · rw [if_neg c20] at hf
    refine r_iload_n (pc := 15) X dX12_held_15 rfl ?_
    refine r_aload_n (pc := 16) X dX12_held_16 rfl ?_
    refine r_iload_n (pc := 17) X dX12_held_17 rfl ?_
    obtain ⟨u17, eu17, hf⟩ := ob hf
    obtain ⟨o18, eo18, hf⟩ := ob hf
    refine r_callVI (pc := 18) X [.int p1] dX12_held_18 ml_X12_184 vo_X12_sum ⟨Nat.le_refl _, Nat.le_refl _⟩ eu17 (ev_X12_sum th (d := d - 1) (by omega) hth _ _ _ _ eo18) hd1 rfl (Nat.le_of_ble_eq_true rfl) rfl ?_
    refine r_icmp_ge (pc := 21) X 28 dX12_held_21 (by decide) (fun c19 => ?_) (fun c19 => ?_)
    · rw [if_neg c19] at hf
      refine r_iconst (pc := 28) X 0 dX12_held_28 (by decide) ?_
      obtain rfl := Option.some.inj hf
      exact r_iret (pc := 29) X dX12_held_29 hk
    · rw [if_pos c19] at hf
      refine r_iconst (pc := 24) X 1 dX12_held_24 (by decide) ?_
      refine r_goto (pc := 25) X 29 dX12_held_25 (by decide) ?_
      obtain rfl := Option.some.inj hf
      exact r_iret (pc := 29) X dX12_held_29 hk

theorem dX12_thing_0 : decode cX12_thing 0 = .ok (.aload_n 0, 1) := by decide +kernel
theorem dX12_thing_1 : decode cX12_thing 1 = .ok (.bipush 45, 2) := by decide +kernel
theorem dX12_thing_3 : decode cX12_thing 3 = .ok (.invokevirtual 151, 3) := by decide +kernel
theorem dX12_thing_6 : decode cX12_thing 6 = .ok (.ifCond .eq 10, 3) := by decide +kernel
theorem dX12_thing_9 : decode cX12_thing 9 = .ok (.aload_n 0, 1) := by decide +kernel
theorem dX12_thing_10 : decode cX12_thing 10 = .ok (.iload_n 1, 1) := by decide +kernel
theorem dX12_thing_11 : decode cX12_thing 11 = .ok (.invokevirtual 191, 3) := by decide +kernel
theorem dX12_thing_14 : decode cX12_thing 14 = .ok (.ineg, 1) := by decide +kernel
theorem dX12_thing_15 : decode cX12_thing 15 = .ok (.ireturn, 1) := by decide +kernel
theorem dX12_thing_16 : decode cX12_thing 16 = .ok (.aload_n 0, 1) := by decide +kernel
theorem dX12_thing_17 : decode cX12_thing 17 = .ok (.invokevirtual 143, 3) := by decide +kernel
theorem dX12_thing_20 : decode cX12_thing 20 = .ok (.ifCond .ne 5, 3) := by decide +kernel
theorem dX12_thing_23 : decode cX12_thing 23 = .ok (.iconst 0, 1) := by decide +kernel
theorem dX12_thing_24 : decode cX12_thing 24 = .ok (.ireturn, 1) := by decide +kernel
theorem dX12_thing_25 : decode cX12_thing 25 = .ok (.aload_n 0, 1) := by decide +kernel
theorem dX12_thing_26 : decode cX12_thing 26 = .ok (.invokevirtual 147, 3) := by decide +kernel
theorem dX12_thing_29 : decode cX12_thing 29 = .ok (.istore_n 2, 1) := by decide +kernel
theorem dX12_thing_30 : decode cX12_thing 30 = .ok (.iload_n 2, 1) := by decide +kernel
theorem dX12_thing_31 : decode cX12_thing 31 = .ok (.bipush 40, 2) := by decide +kernel
theorem dX12_thing_33 : decode cX12_thing 33 = .ok (.if_icmp .ne 34, 3) := by decide +kernel
theorem dX12_thing_36 : decode cX12_thing 36 = .ok (.iload_n 1, 1) := by decide +kernel
theorem dX12_thing_37 : decode cX12_thing 37 = .ok (.iconst 4, 1) := by decide +kernel
theorem dX12_thing_38 : decode cX12_thing 38 = .ok (.if_icmp .ge 29, 3) := by decide +kernel
theorem dX12_thing_41 : decode cX12_thing 41 = .ok (.aload_n 0, 1) := by decide +kernel
theorem dX12_thing_42 : decode cX12_thing 42 = .ok (.dup, 1) := by decide +kernel
theorem dX12_thing_43 : decode cX12_thing 43 = .ok (.getfield 133, 3) := by decide +kernel
theorem dX12_thing_46 : decode cX12_thing 46 = .ok (.iconst 1, 1) := by decide +kernel
theorem dX12_thing_47 : decode cX12_thing 47 = .ok (.iadd, 1) := by decide +kernel
theorem dX12_thing_48 : decode cX12_thing 48 = .ok (.putfield 133, 3) := by decide +kernel
theorem dX12_thing_51 : decode cX12_thing 51 = .ok (.aload_n 0, 1) := by decide +kernel
theorem dX12_thing_52 : decode cX12_thing 52 = .ok (.iload_n 1, 1) := by decide +kernel
theorem dX12_thing_53 : decode cX12_thing 53 = .ok (.iconst 1, 1) := by decide +kernel
theorem dX12_thing_54 : decode cX12_thing 54 = .ok (.iadd, 1) := by decide +kernel
theorem dX12_thing_55 : decode cX12_thing 55 = .ok (.invokevirtual 194, 3) := by decide +kernel
theorem dX12_thing_58 : decode cX12_thing 58 = .ok (.istore_n 3, 1) := by decide +kernel
theorem dX12_thing_59 : decode cX12_thing 59 = .ok (.aload_n 0, 1) := by decide +kernel
theorem dX12_thing_60 : decode cX12_thing 60 = .ok (.bipush 41, 2) := by decide +kernel
theorem dX12_thing_62 : decode cX12_thing 62 = .ok (.invokevirtual 197, 3) := by decide +kernel
theorem dX12_thing_65 : decode cX12_thing 65 = .ok (.iload_n 3, 1) := by decide +kernel
theorem dX12_thing_66 : decode cX12_thing 66 = .ok (.ireturn, 1) := by decide +kernel
theorem dX12_thing_67 : decode cX12_thing 67 = .ok (.iload_n 2, 1) := by decide +kernel
theorem dX12_thing_68 : decode cX12_thing 68 = .ok (.bipush 48, 2) := by decide +kernel
theorem dX12_thing_70 : decode cX12_thing 70 = .ok (.bipush 57, 2) := by decide +kernel
theorem dX12_thing_72 : decode cX12_thing 72 = .ok (.invokestatic 110, 3) := by decide +kernel
theorem dX12_thing_75 : decode cX12_thing 75 = .ok (.ifCond .eq 9, 3) := by decide +kernel
theorem dX12_thing_78 : decode cX12_thing 78 = .ok (.aload_n 0, 1) := by decide +kernel
theorem dX12_thing_79 : decode cX12_thing 79 = .ok (.iconst 3, 1) := by decide +kernel
theorem dX12_thing_80 : decode cX12_thing 80 = .ok (.invokevirtual 201, 3) := by decide +kernel
theorem dX12_thing_83 : decode cX12_thing 83 = .ok (.ireturn, 1) := by decide +kernel
theorem dX12_thing_84 : decode cX12_thing 84 = .ok (.iload_n 2, 1) := by decide +kernel
theorem dX12_thing_85 : decode cX12_thing 85 = .ok (.invokestatic 204, 3) := by decide +kernel
theorem dX12_thing_88 : decode cX12_thing 88 = .ok (.iconst (-1), 1) := by decide +kernel
theorem dX12_thing_89 : decode cX12_thing 89 = .ok (.if_icmp .ne 13, 3) := by decide +kernel
theorem dX12_thing_92 : decode cX12_thing 92 = .ok (.aload_n 0, 1) := by decide +kernel
theorem dX12_thing_93 : decode cX12_thing 93 = .ok (.aload_n 0, 1) := by decide +kernel
theorem dX12_thing_94 : decode cX12_thing 94 = .ok (.getfield 133, 3) := by decide +kernel
theorem dX12_thing_97 : decode cX12_thing 97 = .ok (.invokevirtual 155, 3) := by decide +kernel
theorem dX12_thing_100 : decode cX12_thing 100 = .ok (.iconst 0, 1) := by decide +kernel
theorem dX12_thing_101 : decode cX12_thing 101 = .ok (.ireturn, 1) := by decide +kernel
theorem dX12_thing_102 : decode cX12_thing 102 = .ok (.aload_n 0, 1) := by decide +kernel
theorem dX12_thing_103 : decode cX12_thing 103 = .ok (.dup, 1) := by decide +kernel
theorem dX12_thing_104 : decode cX12_thing 104 = .ok (.getfield 133, 3) := by decide +kernel
theorem dX12_thing_107 : decode cX12_thing 107 = .ok (.iconst 1, 1) := by decide +kernel
theorem dX12_thing_108 : decode cX12_thing 108 = .ok (.iadd, 1) := by decide +kernel
theorem dX12_thing_109 : decode cX12_thing 109 = .ok (.putfield 133, 3) := by decide +kernel
theorem dX12_thing_112 : decode cX12_thing 112 = .ok (.aload_n 0, 1) := by decide +kernel
theorem dX12_thing_113 : decode cX12_thing 113 = .ok (.getfield 207, 3) := by decide +kernel
theorem dX12_thing_116 : decode cX12_thing 116 = .ok (.ifCond .eq 15, 3) := by decide +kernel
theorem dX12_thing_119 : decode cX12_thing 119 = .ok (.aload_n 0, 1) := by decide +kernel
theorem dX12_thing_120 : decode cX12_thing 120 = .ok (.getfield 39, 3) := by decide +kernel
theorem dX12_thing_123 : decode cX12_thing 123 = .ok (.iload_n 2, 1) := by decide +kernel
theorem dX12_thing_124 : decode cX12_thing 124 = .ok (.invokestatic 204, 3) := by decide +kernel
theorem dX12_thing_127 : decode cX12_thing 127 = .ok (.iaload, 1) := by decide +kernel
theorem dX12_thing_128 : decode cX12_thing 128 = .ok (.goto 4, 3) := by decide +kernel
theorem dX12_thing_131 : decode cX12_thing 131 = .ok (.iconst 0, 1) := by decide +kernel
theorem dX12_thing_132 : decode cX12_thing 132 = .ok (.ireturn, 1) := by decide +kernel
def fnF_X12_thing (th : aH → Nat → Int32 → Option (Int32 × aH)) (h : aH) (p0 : Nat) (p1 : Int32) : Option (Int32 × aH) :=
  (ck h p0 11).bind fun u1 =>
  (fn_X12_passes h p0 45).bind fun o2 =>
  if o2.1 = 0 then
    (ck o2.2 p0 11).bind fun u3 =>
    (fn_X12_fine o2.2 p0).bind fun x4 =>
    if x4 = 0 then
      some (0, o2.2)
    else
      (ck o2.2 p0 11).bind fun u5 =>
      (fn_X12_here o2.2 p0).bind fun x6 =>
      if x6 = 40 then
        if p1 < 4 then
          (gI o2.2 p0 11 15).bind fun x39 =>
          (pI o2.2 p0 11 15 (x39 + 1)).bind fun h40 =>
          (ck h40 p0 11).bind fun u41 =>
          (fn_X12_held th h40 p0 (p1 + 1)).bind fun o42 =>
          (ck o42.2 p0 11).bind fun u43 =>
          (fn_X12_need o42.2 p0 41).bind fun h44 =>
          some (o42.1, h44)
        else
          (fn_X12_in o2.2 x6 48 57).bind fun x23 =>
          if x23 = 0 then
            (fn_X12_letterOf o2.2 x6).bind fun x24 =>
            if x24 = (-1) then
              (gI o2.2 p0 11 15).bind fun x32 =>
              (ck o2.2 p0 11).bind fun u33 =>
              (fn_X12_fault o2.2 p0 x32).bind fun h34 =>
              some (0, h34)
            else
              (gI o2.2 p0 11 15).bind fun x25 =>
              (pI o2.2 p0 11 15 (x25 + 1)).bind fun h26 =>
              (gI h26 p0 11 21).bind fun x27 =>
              if x27 = 0 then
                some (0, h26)
              else
                (gR h26 p0 11 22).bind fun a28 =>
                (fn_X12_letterOf h26 x6).bind fun x29 =>
                (aI h26 a28 14 x29).bind fun x30 =>
                some (x30, h26)
          else
            (ck o2.2 p0 11).bind fun u36 =>
            (fn_X12_number o2.2 p0 3).bind fun o37 =>
            some (o37.1, o37.2)
      else
        (fn_X12_in o2.2 x6 48 57).bind fun x7 =>
        if x7 = 0 then
          (fn_X12_letterOf o2.2 x6).bind fun x8 =>
          if x8 = (-1) then
            (gI o2.2 p0 11 15).bind fun x16 =>
            (ck o2.2 p0 11).bind fun u17 =>
            (fn_X12_fault o2.2 p0 x16).bind fun h18 =>
            some (0, h18)
          else
            (gI o2.2 p0 11 15).bind fun x9 =>
            (pI o2.2 p0 11 15 (x9 + 1)).bind fun h10 =>
            (gI h10 p0 11 21).bind fun x11 =>
            if x11 = 0 then
              some (0, h10)
            else
              (gR h10 p0 11 22).bind fun a12 =>
              (fn_X12_letterOf h10 x6).bind fun x13 =>
              (aI h10 a12 14 x13).bind fun x14 =>
              some (x14, h10)
        else
          (ck o2.2 p0 11).bind fun u20 =>
          (fn_X12_number o2.2 p0 3).bind fun o21 =>
          some (o21.1, o21.2)
  else
    (ck o2.2 p0 11).bind fun u48 =>
    (th o2.2 p0 p1).bind fun o49 =>
    some ((-o49.1), o49.2)
set_option maxRecDepth 20000 in
set_option maxHeartbeats 4000000 in
theorem evF_X12_thing (th : aH → Nat → Int32 → Option (Int32 × aH)) {l : Launch} {g : aG} {d D0 : Nat} (hd : D0 + 4 ≤ d) (hth : ∀ (l : Launch) (g : aG) (d : Nat), D0 ≤ d → ∀ (h : aH) (q0 : Nat) (q1 : Int32) (o : Int32 × aH), th h q0 q1 = some o → EvM l g d yX12_thing cX12_thing 4 (some .int) [.ref q0, .int q1] h (some (.int o.1), o.2)) (h : aH) (p0 : Nat) (p1 : Int32) (o : Int32 × aH) (hf : fnF_X12_thing th h p0 p1 = some o) : EvM l g d yX12_thing cX12_thing 4 (some .int) [.ref p0, .int p1] h (some (.int o.1), o.2) := by
  refine EvM.of mk_X12_thing (Nat.le_of_ble_eq_true rfl) ?_
  intro Γ hl hg hq X
  have hd1 : 1 ≤ d := by omega
  have hk : RqI Γ o := hq
  unfold fnF_X12_thing at hf
  show Jd Γ (0, 0) 0 [some (.ref p0), some (.int p1), none, none] [] h
  refine r_aload_n (pc := 0) X dX12_thing_0 rfl ?_
  refine r_bipush (pc := 1) X 45 dX12_thing_1 (by decide) ?_
  obtain ⟨u1, eu1, hf⟩ := ob hf
  obtain ⟨o2, eo2, hf⟩ := ob hf
  refine r_callVI (pc := 3) X [.int 45] dX12_thing_3 ml_X12_151 vo_X12_passes ⟨Nat.le_refl _, Nat.le_refl _⟩ eu1 (ev_X12_passes (d := d - 1) (by omega) _ _ _ _ eo2) hd1 rfl (Nat.le_of_ble_eq_true rfl) rfl ?_
  refine r_if_eq (pc := 6) X 16 dX12_thing_6 (by decide) (fun c50 => ?_) (fun c50 => ?_)
  · rw [if_pos c50] at hf
    refine r_aload_n (pc := 16) X dX12_thing_16 rfl ?_
    obtain ⟨u3, eu3, hf⟩ := ob hf
    obtain ⟨x4, ex4, hf⟩ := ob hf
    refine r_callVI (pc := 17) X [] dX12_thing_17 ml_X12_143 vo_X12_fine ⟨Nat.le_refl _, Nat.le_refl _⟩ eu3 (ev_X12_fine (d := d - 1) (by omega) _ _ _ ex4) hd1 rfl (Nat.le_of_ble_eq_true rfl) rfl ?_
    refine r_if_ne (pc := 20) X 25 dX12_thing_20 (by decide) (fun c47 => ?_) (fun c47 => ?_)
    · rw [if_neg c47] at hf
      refine r_aload_n (pc := 25) X dX12_thing_25 rfl ?_
      obtain ⟨u5, eu5, hf⟩ := ob hf
      obtain ⟨x6, ex6, hf⟩ := ob hf
      refine r_callVI (pc := 26) X [] dX12_thing_26 ml_X12_147 vo_X12_here ⟨Nat.le_refl _, Nat.le_refl _⟩ eu5 (ev_X12_here (d := d - 1) (by omega) _ _ _ ex6) hd1 rfl (Nat.le_of_ble_eq_true rfl) rfl ?_
      refine r_istore_n (pc := 29) X [some (.ref p0), some (.int p1), some (.int x6), none] dX12_thing_29 (by decide) rfl ?_
      refine r_iload_n (pc := 30) X dX12_thing_30 rfl ?_
      refine r_bipush (pc := 31) X 40 dX12_thing_31 (by decide) ?_
      refine r_icmp_ne (pc := 33) X 67 dX12_thing_33 (by decide) (fun c46 => ?_) (fun c46 => ?_)
      · rw [if_neg c46] at hf
        refine r_iload_n (pc := 67) X dX12_thing_67 rfl ?_
        refine r_bipush (pc := 68) X 48 dX12_thing_68 (by decide) ?_
        refine r_bipush (pc := 70) X 57 dX12_thing_70 (by decide) ?_
        obtain ⟨x7, ex7, hf⟩ := ob hf
        refine r_callSI (pc := 72) X [.int x6, .int 48, .int 57] dX12_thing_72 ml_X12_110 so_X12_in ⟨Nat.le_refl _, Nat.le_refl _⟩ (ev_X12_in (d := d - 1) (by omega) _ _ _ _ _ ex7) hd1 rfl (Nat.le_of_ble_eq_true rfl) rfl ?_
        refine r_if_eq (pc := 75) X 84 dX12_thing_75 (by decide) (fun c22 => ?_) (fun c22 => ?_)
        · rw [if_pos c22] at hf
          refine r_iload_n (pc := 84) X dX12_thing_84 rfl ?_
          obtain ⟨x8, ex8, hf⟩ := ob hf
          refine r_callSI (pc := 85) X [.int x6] dX12_thing_85 ml_X12_204 so_X12_letterOf ⟨Nat.le_refl _, Nat.le_refl _⟩ (ev_X12_letterOf (d := d - 1) (by omega) _ _ _ ex8) hd1 rfl (Nat.le_of_ble_eq_true rfl) rfl ?_
          refine r_iconst (pc := 88) X (-1) dX12_thing_88 (by decide) ?_
          refine r_icmp_ne (pc := 89) X 102 dX12_thing_89 (by decide) (fun c19 => ?_) (fun c19 => ?_)
          · rw [if_neg c19] at hf
            refine r_aload_n (pc := 102) X dX12_thing_102 rfl ?_
            refine r_dup (pc := 103) X dX12_thing_103 rfl ?_
            obtain ⟨x9, ex9, hf⟩ := ob hf
            refine r_getI (pc := 104) X dX12_thing_104 fl_X12_133 rfl ex9 ?_
            refine r_iconst (pc := 107) X 1 dX12_thing_107 (by decide) ?_
            refine r_iadd (pc := 108) X dX12_thing_108 ?_
            obtain ⟨h10, eh10, hf⟩ := ob hf
            refine r_putI (pc := 109) X dX12_thing_109 fp_X12_133 rfl eh10 ?_
            refine r_aload_n (pc := 112) X dX12_thing_112 rfl ?_
            obtain ⟨x11, ex11, hf⟩ := ob hf
            refine r_getI (pc := 113) X dX12_thing_113 fl_X12_207 rfl ex11 ?_
            refine r_if_eq (pc := 116) X 131 dX12_thing_116 (by decide) (fun c15 => ?_) (fun c15 => ?_)
            · rw [if_pos c15] at hf
              refine r_iconst (pc := 131) X 0 dX12_thing_131 (by decide) ?_
              obtain rfl := Option.some.inj hf
              exact r_iret (pc := 132) X dX12_thing_132 hk
            · rw [if_neg c15] at hf
              refine r_aload_n (pc := 119) X dX12_thing_119 rfl ?_
              obtain ⟨a12, ea12, hf⟩ := ob hf
              refine r_getR (pc := 120) X dX12_thing_120 fl_X12_39 rfl ea12 ?_
              refine r_iload_n (pc := 123) X dX12_thing_123 rfl ?_
              obtain ⟨x13, ex13, hf⟩ := ob hf
              refine r_callSI (pc := 124) X [.int x6] dX12_thing_124 ml_X12_204 so_X12_letterOf ⟨Nat.le_refl _, Nat.le_refl _⟩ (ev_X12_letterOf (d := d - 1) (by omega) _ _ _ ex13) hd1 rfl (Nat.le_of_ble_eq_true rfl) rfl ?_
              obtain ⟨x14, ex14, hf⟩ := ob hf
              refine r_iald (pc := 127) X dX12_thing_127 ex14 ?_
              refine r_goto (pc := 128) X 132 dX12_thing_128 (by decide) ?_
              obtain rfl := Option.some.inj hf
              exact r_iret (pc := 132) X dX12_thing_132 hk
          · rw [if_pos c19] at hf
            refine r_aload_n (pc := 92) X dX12_thing_92 rfl ?_
            refine r_aload_n (pc := 93) X dX12_thing_93 rfl ?_
            obtain ⟨x16, ex16, hf⟩ := ob hf
            refine r_getI (pc := 94) X dX12_thing_94 fl_X12_133 rfl ex16 ?_
            obtain ⟨u17, eu17, hf⟩ := ob hf
            obtain ⟨h18, eh18, hf⟩ := ob hf
            refine r_callVV (pc := 97) X [.int x16] dX12_thing_97 ml_X12_155 vo_X12_fault ⟨Nat.le_refl _, Nat.le_refl _⟩ eu17 (ev_X12_fault (d := d - 1) (by omega) _ _ _ _ eh18) hd1 rfl (Nat.le_of_ble_eq_true rfl) rfl ?_
            refine r_iconst (pc := 100) X 0 dX12_thing_100 (by decide) ?_
            obtain rfl := Option.some.inj hf
            exact r_iret (pc := 101) X dX12_thing_101 hk
        · rw [if_neg c22] at hf
          refine r_aload_n (pc := 78) X dX12_thing_78 rfl ?_
          refine r_iconst (pc := 79) X 3 dX12_thing_79 (by decide) ?_
          obtain ⟨u20, eu20, hf⟩ := ob hf
          obtain ⟨o21, eo21, hf⟩ := ob hf
          refine r_callVI (pc := 80) X [.int 3] dX12_thing_80 ml_X12_201 vo_X12_number ⟨Nat.le_refl _, Nat.le_refl _⟩ eu20 (ev_X12_number (d := d - 1) (by omega) _ _ _ _ eo21) hd1 rfl (Nat.le_of_ble_eq_true rfl) rfl ?_
          obtain rfl := Option.some.inj hf
          exact r_iret (pc := 83) X dX12_thing_83 hk
      · rw [if_pos c46] at hf
        refine r_iload_n (pc := 36) X dX12_thing_36 rfl ?_
        refine r_iconst (pc := 37) X 4 dX12_thing_37 (by decide) ?_
        refine r_icmp_ge (pc := 38) X 67 dX12_thing_38 (by decide) (fun c45 => ?_) (fun c45 => ?_)
        · rw [if_neg c45] at hf
          refine r_iload_n (pc := 67) X dX12_thing_67 rfl ?_
          refine r_bipush (pc := 68) X 48 dX12_thing_68 (by decide) ?_
          refine r_bipush (pc := 70) X 57 dX12_thing_70 (by decide) ?_
          obtain ⟨x23, ex23, hf⟩ := ob hf
          refine r_callSI (pc := 72) X [.int x6, .int 48, .int 57] dX12_thing_72 ml_X12_110 so_X12_in ⟨Nat.le_refl _, Nat.le_refl _⟩ (ev_X12_in (d := d - 1) (by omega) _ _ _ _ _ ex23) hd1 rfl (Nat.le_of_ble_eq_true rfl) rfl ?_
          refine r_if_eq (pc := 75) X 84 dX12_thing_75 (by decide) (fun c38 => ?_) (fun c38 => ?_)
          · rw [if_pos c38] at hf
            refine r_iload_n (pc := 84) X dX12_thing_84 rfl ?_
            obtain ⟨x24, ex24, hf⟩ := ob hf
            refine r_callSI (pc := 85) X [.int x6] dX12_thing_85 ml_X12_204 so_X12_letterOf ⟨Nat.le_refl _, Nat.le_refl _⟩ (ev_X12_letterOf (d := d - 1) (by omega) _ _ _ ex24) hd1 rfl (Nat.le_of_ble_eq_true rfl) rfl ?_
            refine r_iconst (pc := 88) X (-1) dX12_thing_88 (by decide) ?_
            refine r_icmp_ne (pc := 89) X 102 dX12_thing_89 (by decide) (fun c35 => ?_) (fun c35 => ?_)
            · rw [if_neg c35] at hf
              refine r_aload_n (pc := 102) X dX12_thing_102 rfl ?_
              refine r_dup (pc := 103) X dX12_thing_103 rfl ?_
              obtain ⟨x25, ex25, hf⟩ := ob hf
              refine r_getI (pc := 104) X dX12_thing_104 fl_X12_133 rfl ex25 ?_
              refine r_iconst (pc := 107) X 1 dX12_thing_107 (by decide) ?_
              refine r_iadd (pc := 108) X dX12_thing_108 ?_
              obtain ⟨h26, eh26, hf⟩ := ob hf
              refine r_putI (pc := 109) X dX12_thing_109 fp_X12_133 rfl eh26 ?_
              refine r_aload_n (pc := 112) X dX12_thing_112 rfl ?_
              obtain ⟨x27, ex27, hf⟩ := ob hf
              refine r_getI (pc := 113) X dX12_thing_113 fl_X12_207 rfl ex27 ?_
              refine r_if_eq (pc := 116) X 131 dX12_thing_116 (by decide) (fun c31 => ?_) (fun c31 => ?_)
              · rw [if_pos c31] at hf
                refine r_iconst (pc := 131) X 0 dX12_thing_131 (by decide) ?_
                obtain rfl := Option.some.inj hf
                exact r_iret (pc := 132) X dX12_thing_132 hk
              · rw [if_neg c31] at hf
                refine r_aload_n (pc := 119) X dX12_thing_119 rfl ?_
                obtain ⟨a28, ea28, hf⟩ := ob hf
                refine r_getR (pc := 120) X dX12_thing_120 fl_X12_39 rfl ea28 ?_
                refine r_iload_n (pc := 123) X dX12_thing_123 rfl ?_
                obtain ⟨x29, ex29, hf⟩ := ob hf
                refine r_callSI (pc := 124) X [.int x6] dX12_thing_124 ml_X12_204 so_X12_letterOf ⟨Nat.le_refl _, Nat.le_refl _⟩ (ev_X12_letterOf (d := d - 1) (by omega) _ _ _ ex29) hd1 rfl (Nat.le_of_ble_eq_true rfl) rfl ?_
                obtain ⟨x30, ex30, hf⟩ := ob hf
                refine r_iald (pc := 127) X dX12_thing_127 ex30 ?_
                refine r_goto (pc := 128) X 132 dX12_thing_128 (by decide) ?_
                obtain rfl := Option.some.inj hf
                exact r_iret (pc := 132) X dX12_thing_132 hk
            · rw [if_pos c35] at hf
              refine r_aload_n (pc := 92) X dX12_thing_92 rfl ?_
              refine r_aload_n (pc := 93) X dX12_thing_93 rfl ?_
              obtain ⟨x32, ex32, hf⟩ := ob hf
              refine r_getI (pc := 94) X dX12_thing_94 fl_X12_133 rfl ex32 ?_
              obtain ⟨u33, eu33, hf⟩ := ob hf
              obtain ⟨h34, eh34, hf⟩ := ob hf
              refine r_callVV (pc := 97) X [.int x32] dX12_thing_97 ml_X12_155 vo_X12_fault ⟨Nat.le_refl _, Nat.le_refl _⟩ eu33 (ev_X12_fault (d := d - 1) (by omega) _ _ _ _ eh34) hd1 rfl (Nat.le_of_ble_eq_true rfl) rfl ?_
              refine r_iconst (pc := 100) X 0 dX12_thing_100 (by decide) ?_
              obtain rfl := Option.some.inj hf
              exact r_iret (pc := 101) X dX12_thing_101 hk
          · rw [if_neg c38] at hf
            refine r_aload_n (pc := 78) X dX12_thing_78 rfl ?_
            refine r_iconst (pc := 79) X 3 dX12_thing_79 (by decide) ?_
            obtain ⟨u36, eu36, hf⟩ := ob hf
            obtain ⟨o37, eo37, hf⟩ := ob hf
            refine r_callVI (pc := 80) X [.int 3] dX12_thing_80 ml_X12_201 vo_X12_number ⟨Nat.le_refl _, Nat.le_refl _⟩ eu36 (ev_X12_number (d := d - 1) (by omega) _ _ _ _ eo37) hd1 rfl (Nat.le_of_ble_eq_true rfl) rfl ?_
            obtain rfl := Option.some.inj hf
            exact r_iret (pc := 83) X dX12_thing_83 hk
        · rw [if_pos c45] at hf
          refine r_aload_n (pc := 41) X dX12_thing_41 rfl ?_
          refine r_dup (pc := 42) X dX12_thing_42 rfl ?_
          obtain ⟨x39, ex39, hf⟩ := ob hf
          refine r_getI (pc := 43) X dX12_thing_43 fl_X12_133 rfl ex39 ?_
          refine r_iconst (pc := 46) X 1 dX12_thing_46 (by decide) ?_
          refine r_iadd (pc := 47) X dX12_thing_47 ?_
          obtain ⟨h40, eh40, hf⟩ := ob hf
          refine r_putI (pc := 48) X dX12_thing_48 fp_X12_133 rfl eh40 ?_
          refine r_aload_n (pc := 51) X dX12_thing_51 rfl ?_
          refine r_iload_n (pc := 52) X dX12_thing_52 rfl ?_
          refine r_iconst (pc := 53) X 1 dX12_thing_53 (by decide) ?_
          refine r_iadd (pc := 54) X dX12_thing_54 ?_
          obtain ⟨u41, eu41, hf⟩ := ob hf
          obtain ⟨o42, eo42, hf⟩ := ob hf
          refine r_callVI (pc := 55) X [.int (p1 + 1)] dX12_thing_55 ml_X12_194 vo_X12_held ⟨Nat.le_refl _, Nat.le_refl _⟩ eu41 (ev_X12_held th (d := d - 1) (by omega) hth _ _ _ _ eo42) hd1 rfl (Nat.le_of_ble_eq_true rfl) rfl ?_
          refine r_istore_n (pc := 58) X [some (.ref p0), some (.int p1), some (.int x6), some (.int o42.1)] dX12_thing_58 (by decide) rfl ?_
          refine r_aload_n (pc := 59) X dX12_thing_59 rfl ?_
          refine r_bipush (pc := 60) X 41 dX12_thing_60 (by decide) ?_
          obtain ⟨u43, eu43, hf⟩ := ob hf
          obtain ⟨h44, eh44, hf⟩ := ob hf
          refine r_callVV (pc := 62) X [.int 41] dX12_thing_62 ml_X12_197 vo_X12_need ⟨Nat.le_refl _, Nat.le_refl _⟩ eu43 (ev_X12_need (d := d - 1) (by omega) _ _ _ _ eh44) hd1 rfl (Nat.le_of_ble_eq_true rfl) rfl ?_
          refine r_iload_n (pc := 65) X dX12_thing_65 rfl ?_
          obtain rfl := Option.some.inj hf
          exact r_iret (pc := 66) X dX12_thing_66 hk
    · rw [if_pos c47] at hf
      refine r_iconst (pc := 23) X 0 dX12_thing_23 (by decide) ?_
      obtain rfl := Option.some.inj hf
      exact r_iret (pc := 24) X dX12_thing_24 hk
  · rw [if_neg c50] at hf
    refine r_aload_n (pc := 9) X dX12_thing_9 rfl ?_
    refine r_iload_n (pc := 10) X dX12_thing_10 rfl ?_
    obtain ⟨u48, eu48, hf⟩ := ob hf
    obtain ⟨o49, eo49, hf⟩ := ob hf
    refine r_callVI (pc := 11) X [.int p1] dX12_thing_11 ml_X12_191 vo_X12_thing ⟨Nat.le_refl _, Nat.le_refl _⟩ eu48 (hth _ _ (d - 1) (by omega) _ _ _ _ eo49) hd1 rfl (Nat.le_of_ble_eq_true rfl) rfl ?_
    refine r_ineg (pc := 14) X dX12_thing_14 ?_
    obtain rfl := Option.some.inj hf
    exact r_iret (pc := 15) X dX12_thing_15 hk

def fn_X12_thing : Nat → aH → Nat → Int32 → Option (Int32 × aH)
  | 0 => fun _ _ _ => none
  | n + 1 => fnF_X12_thing (fn_X12_thing n)
theorem ev_X12_thing (n : Nat) : ∀ (l : Launch) (g : aG) (d : Nat), 4 * n ≤ d → ∀ (h : aH) (q0 : Nat) (q1 : Int32) (o : Int32 × aH), fn_X12_thing n h q0 q1 = some o → EvM l g d yX12_thing cX12_thing 4 (some .int) [.ref q0, .int q1] h (some (.int o.1), o.2) := by
  induction n with
  | zero => intro l g d hd h q0 q1 o hf; cases hf
  | succ n ih => intro l g d hd h q0 q1 o hf; exact evF_X12_thing (fn_X12_thing n) (D0 := 4 * n) (by omega) ih h q0 q1 o hf
