theorem dX10_isOpen_0 : decode cX10_isOpen 0 = .ok (.iload_n 1, 1) := by decide +kernel
theorem dX10_isOpen_1 : decode cX10_isOpen 1 = .ok (.iload_n 0, 1) := by decide +kernel
theorem dX10_isOpen_2 : decode cX10_isOpen 2 = .ok (.ishr, 1) := by decide +kernel
theorem dX10_isOpen_3 : decode cX10_isOpen 3 = .ok (.iconst 1, 1) := by decide +kernel
theorem dX10_isOpen_4 : decode cX10_isOpen 4 = .ok (.iand, 1) := by decide +kernel
theorem dX10_isOpen_5 : decode cX10_isOpen 5 = .ok (.ifCond .ne 7, 3) := by decide +kernel
theorem dX10_isOpen_8 : decode cX10_isOpen 8 = .ok (.iconst 1, 1) := by decide +kernel
theorem dX10_isOpen_9 : decode cX10_isOpen 9 = .ok (.goto 4, 3) := by decide +kernel
theorem dX10_isOpen_12 : decode cX10_isOpen 12 = .ok (.iconst 0, 1) := by decide +kernel
theorem dX10_isOpen_13 : decode cX10_isOpen 13 = .ok (.ireturn, 1) := by decide +kernel
def fn_X10_isOpen (h : aH) (p0 : Int32) (p1 : Int32) : Option (Int32) :=
  if ((p1 >>> (p0 &&& 31)) &&& 1) = 0 then
    some 1
  else
    some 0
set_option maxRecDepth 20000 in
set_option maxHeartbeats 4000000 in
theorem ev_X10_isOpen {l : Launch} {g : aG} {d : Nat} (hd : 0 ≤ d) (h : aH) (p0 : Int32) (p1 : Int32) (o : Int32) (hf : fn_X10_isOpen h p0 p1 = some o) : EvM l g d yX10_isOpen cX10_isOpen 2 (some .boolean) [.int p0, .int p1] h (some (.int o), h) := by
  refine EvM.of mk_X10_isOpen (Nat.le_of_ble_eq_true rfl) ?_
  intro Γ hl hg hq X
  have hd1 : 0 ≤ d := by omega
  have hk : RpI h Γ o := hq
  unfold fn_X10_isOpen at hf
  show Jd Γ (0, 0) 0 [some (.int p0), some (.int p1)] [] h
  refine r_iload_n (pc := 0) X dX10_isOpen_0 rfl ?_
  refine r_iload_n (pc := 1) X dX10_isOpen_1 rfl ?_
  refine r_ishr (pc := 2) X dX10_isOpen_2 ?_
  refine r_iconst (pc := 3) X 1 dX10_isOpen_3 (by decide) ?_
  refine r_iand (pc := 4) X dX10_isOpen_4 ?_
  refine r_if_ne (pc := 5) X 12 dX10_isOpen_5 (by decide) (fun c1 => ?_) (fun c1 => ?_)
  · rw [if_neg c1] at hf
    refine r_iconst (pc := 12) X 0 dX10_isOpen_12 (by decide) ?_
    obtain rfl := Option.some.inj hf
    exact r_zret (pc := 13) X dX10_isOpen_13 (Or.inl rfl) hk
  · rw [if_pos c1] at hf
    refine r_iconst (pc := 8) X 1 dX10_isOpen_8 (by decide) ?_
    refine r_goto (pc := 9) X 13 dX10_isOpen_9 (by decide) ?_
    obtain rfl := Option.some.inj hf
    exact r_zret (pc := 13) X dX10_isOpen_13 (Or.inr rfl) hk

theorem dX10_reached_0 : decode cX10_reached 0 = .ok (.iconst 1, 1) := by decide +kernel
theorem dX10_reached_1 : decode cX10_reached 1 = .ok (.iload_n 1, 1) := by decide +kernel
theorem dX10_reached_2 : decode cX10_reached 2 = .ok (.ishl, 1) := by decide +kernel
theorem dX10_reached_3 : decode cX10_reached 3 = .ok (.istore_n 3, 1) := by decide +kernel
theorem dX10_reached_4 : decode cX10_reached 4 = .ok (.iconst 0, 1) := by decide +kernel
theorem dX10_reached_5 : decode cX10_reached 5 = .ok (.istore 4, 2) := by decide +kernel
theorem dX10_reached_7 : decode cX10_reached 7 = .ok (.iload 4, 2) := by decide +kernel
theorem dX10_reached_9 : decode cX10_reached 9 = .ok (.bipush 6, 2) := by decide +kernel
theorem dX10_reached_11 : decode cX10_reached 11 = .ok (.if_icmp .ge 71, 3) := by decide +kernel
theorem dX10_reached_14 : decode cX10_reached 14 = .ok (.iconst 0, 1) := by decide +kernel
theorem dX10_reached_15 : decode cX10_reached 15 = .ok (.istore 5, 2) := by decide +kernel
theorem dX10_reached_17 : decode cX10_reached 17 = .ok (.iload 5, 2) := by decide +kernel
theorem dX10_reached_19 : decode cX10_reached 19 = .ok (.aload_n 0, 1) := by decide +kernel
theorem dX10_reached_20 : decode cX10_reached 20 = .ok (.getfield 9, 3) := by decide +kernel
theorem dX10_reached_23 : decode cX10_reached 23 = .ok (.getfield 19, 3) := by decide +kernel
theorem dX10_reached_26 : decode cX10_reached 26 = .ok (.if_icmp .ge 50, 3) := by decide +kernel
theorem dX10_reached_29 : decode cX10_reached 29 = .ok (.iload 5, 2) := by decide +kernel
theorem dX10_reached_31 : decode cX10_reached 31 = .ok (.iload_n 2, 1) := by decide +kernel
theorem dX10_reached_32 : decode cX10_reached 32 = .ok (.invokestatic 25, 3) := by decide +kernel
theorem dX10_reached_35 : decode cX10_reached 35 = .ok (.ifCond .eq 35, 3) := by decide +kernel
theorem dX10_reached_38 : decode cX10_reached 38 = .ok (.iload_n 3, 1) := by decide +kernel
theorem dX10_reached_39 : decode cX10_reached 39 = .ok (.aload_n 0, 1) := by decide +kernel
theorem dX10_reached_40 : decode cX10_reached 40 = .ok (.getfield 9, 3) := by decide +kernel
theorem dX10_reached_43 : decode cX10_reached 43 = .ok (.getfield 29, 3) := by decide +kernel
theorem dX10_reached_46 : decode cX10_reached 46 = .ok (.iload 5, 2) := by decide +kernel
theorem dX10_reached_48 : decode cX10_reached 48 = .ok (.iaload, 1) := by decide +kernel
theorem dX10_reached_49 : decode cX10_reached 49 = .ok (.ishr, 1) := by decide +kernel
theorem dX10_reached_50 : decode cX10_reached 50 = .ok (.iconst 1, 1) := by decide +kernel
theorem dX10_reached_51 : decode cX10_reached 51 = .ok (.iand, 1) := by decide +kernel
theorem dX10_reached_52 : decode cX10_reached 52 = .ok (.ifCond .eq 18, 3) := by decide +kernel
theorem dX10_reached_55 : decode cX10_reached 55 = .ok (.iload_n 3, 1) := by decide +kernel
theorem dX10_reached_56 : decode cX10_reached 56 = .ok (.iconst 1, 1) := by decide +kernel
theorem dX10_reached_57 : decode cX10_reached 57 = .ok (.aload_n 0, 1) := by decide +kernel
theorem dX10_reached_58 : decode cX10_reached 58 = .ok (.getfield 9, 3) := by decide +kernel
theorem dX10_reached_61 : decode cX10_reached 61 = .ok (.getfield 32, 3) := by decide +kernel
theorem dX10_reached_64 : decode cX10_reached 64 = .ok (.iload 5, 2) := by decide +kernel
theorem dX10_reached_66 : decode cX10_reached 66 = .ok (.iaload, 1) := by decide +kernel
theorem dX10_reached_67 : decode cX10_reached 67 = .ok (.ishl, 1) := by decide +kernel
theorem dX10_reached_68 : decode cX10_reached 68 = .ok (.ior, 1) := by decide +kernel
theorem dX10_reached_69 : decode cX10_reached 69 = .ok (.istore_n 3, 1) := by decide +kernel
theorem dX10_reached_70 : decode cX10_reached 70 = .ok (.iinc 5 1, 3) := by decide +kernel
theorem dX10_reached_73 : decode cX10_reached 73 = .ok (.goto (-56), 3) := by decide +kernel
theorem dX10_reached_76 : decode cX10_reached 76 = .ok (.iinc 4 1, 3) := by decide +kernel
theorem dX10_reached_79 : decode cX10_reached 79 = .ok (.goto (-72), 3) := by decide +kernel
theorem dX10_reached_82 : decode cX10_reached 82 = .ok (.iload_n 3, 1) := by decide +kernel
theorem dX10_reached_83 : decode cX10_reached 83 = .ok (.ireturn, 1) := by decide +kernel
def lb_X10_reached_17 (hh : aH) (v0 : Nat) (v2 : Int32) (v4 : Int32) (s : Int32 × Int32) : Option ((Int32 × Int32) ⊕ ((Int32))) :=
  (gR hh v0 9 0).bind fun a2 =>
  (gI hh a2 0 1).bind fun x3 =>
  if s.2 < x3 then
    (fn_X10_isOpen hh s.2 v2).bind fun x4 =>
    if x4 = 0 then
      (some (s.2 + 1)).bind fun x5 =>
      some (.inl (s.1, x5))
    else
      (gR hh v0 9 0).bind fun a6 =>
      (gR hh a6 0 3).bind fun a7 =>
      (aI hh a7 14 s.2).bind fun x8 =>
      if ((s.1 >>> (x8 &&& 31)) &&& 1) = 0 then
        (some (s.2 + 1)).bind fun x9 =>
        some (.inl (s.1, x9))
      else
        (gR hh v0 9 0).bind fun a10 =>
        (gR hh a10 0 4).bind fun a11 =>
        (aI hh a11 14 s.2).bind fun x12 =>
        (some (s.1 ||| (1 <<< (x12 &&& 31)))).bind fun x13 =>
        (some (s.2 + 1)).bind fun x14 =>
        some (.inl (x13, x14))
  else
    some (.inr s.1)
def hd_X10_reached_17 (Γ : aC) (hh : aH) (v0 : Nat) (v2 : Int32) (v4 : Int32) (s : Int32 × Int32) : Prop := ∀ (j1 : Option Value), Jd Γ (0, 0) 17 [some (.ref v0), j1, some (.int v2), some (.int s.1), some (.int v4), some (.int s.2)] [] hh
def ex_X10_reached_17 (Γ : aC) (hh : aH) (v0 : Nat) (v2 : Int32) (v4 : Int32) (r : (Int32)) : Prop := (fun r => ∀ (j1 : Option Value) (j5 : Option Value), Jd Γ (0, 0) 76 [some (.ref v0), j1, some (.int v2), some (.int r), some (.int v4), j5] [] hh) r
set_option maxRecDepth 20000 in
set_option maxHeartbeats 4000000 in
theorem lw_X10_reached_17 {Γ : aC} {d : Nat} (X : Cx Γ RX10 cX10_reached 6 (some .int) (d, 0, 0)) (hd : 1 ≤ d) (hh : aH) (v0 : Nat) (v2 : Int32) (v4 : Int32) : ∀ n s o, lp (lb_X10_reached_17 hh v0 v2 v4) n s = some o → ex_X10_reached_17 Γ hh v0 v2 v4 o → hd_X10_reached_17 Γ hh v0 v2 v4 s := by
  have hd1 : 1 ≤ d := by omega
  refine J_lp _ _ _ ?_
  intro s o hf hk j1
  unfold lb_X10_reached_17 at hf
  refine r_iload (pc := 17) X dX10_reached_17 rfl ?_
  refine r_aload_n (pc := 19) X dX10_reached_19 rfl ?_
  obtain ⟨a2, ea2, hf⟩ := ob hf
  refine r_getR (pc := 20) X dX10_reached_20 fl_X10_9 rfl ea2 ?_
  obtain ⟨x3, ex3, hf⟩ := ob hf
  refine r_getI (pc := 23) X dX10_reached_23 fl_X10_19 rfl ex3 ?_
  refine r_icmp_ge (pc := 26) X 76 dX10_reached_26 (by decide) (fun c17 => ?_) (fun c17 => ?_)
  · rw [if_neg c17] at hf
    obtain rfl := Option.some.inj hf
    exact hk _ _
  · rw [if_pos c17] at hf
    refine r_iload (pc := 29) X dX10_reached_29 rfl ?_
    refine r_iload_n (pc := 31) X dX10_reached_31 rfl ?_
    obtain ⟨x4, ex4, hf⟩ := ob hf
    refine r_callSI (pc := 32) X [.int s.2, .int v2] dX10_reached_32 ml_X10_25 so_X10_isOpen ⟨Nat.le_refl _, Nat.le_refl _⟩ (ev_X10_isOpen (d := d - 1) (by omega) _ _ _ _ ex4) hd1 rfl (Nat.le_of_ble_eq_true rfl) rfl ?_
    refine r_if_eq (pc := 35) X 70 dX10_reached_35 (by decide) (fun c16 => ?_) (fun c16 => ?_)
    · rw [if_pos c16] at hf
      obtain ⟨x5, ex5, hf⟩ := ob hf
      refine r_iinc2 (pc := 70) X 1 [some (.ref v0), j1, some (.int v2), some (.int s.1), some (.int v4), some (.int x5)] dX10_reached_70 (by decide) rfl (by decide) ex5 rfl ?_
      refine r_goto (pc := 73) X 17 dX10_reached_73 (by decide) ?_
      obtain rfl := Option.some.inj hf
      exact hk _
    · rw [if_neg c16] at hf
      refine r_iload_n (pc := 38) X dX10_reached_38 rfl ?_
      refine r_aload_n (pc := 39) X dX10_reached_39 rfl ?_
      obtain ⟨a6, ea6, hf⟩ := ob hf
      refine r_getR (pc := 40) X dX10_reached_40 fl_X10_9 rfl ea6 ?_
      obtain ⟨a7, ea7, hf⟩ := ob hf
      refine r_getR (pc := 43) X dX10_reached_43 fl_X10_29 rfl ea7 ?_
      refine r_iload (pc := 46) X dX10_reached_46 rfl ?_
      obtain ⟨x8, ex8, hf⟩ := ob hf
      refine r_iald (pc := 48) X dX10_reached_48 ex8 ?_
      refine r_ishr (pc := 49) X dX10_reached_49 ?_
      refine r_iconst (pc := 50) X 1 dX10_reached_50 (by decide) ?_
      refine r_iand (pc := 51) X dX10_reached_51 ?_
      refine r_if_eq (pc := 52) X 70 dX10_reached_52 (by decide) (fun c15 => ?_) (fun c15 => ?_)
      · rw [if_pos c15] at hf
        obtain ⟨x9, ex9, hf⟩ := ob hf
        refine r_iinc2 (pc := 70) X 1 [some (.ref v0), j1, some (.int v2), some (.int s.1), some (.int v4), some (.int x9)] dX10_reached_70 (by decide) rfl (by decide) ex9 rfl ?_
        refine r_goto (pc := 73) X 17 dX10_reached_73 (by decide) ?_
        obtain rfl := Option.some.inj hf
        exact hk _
      · rw [if_neg c15] at hf
        refine r_iload_n (pc := 55) X dX10_reached_55 rfl ?_
        refine r_iconst (pc := 56) X 1 dX10_reached_56 (by decide) ?_
        refine r_aload_n (pc := 57) X dX10_reached_57 rfl ?_
        obtain ⟨a10, ea10, hf⟩ := ob hf
        refine r_getR (pc := 58) X dX10_reached_58 fl_X10_9 rfl ea10 ?_
        obtain ⟨a11, ea11, hf⟩ := ob hf
        refine r_getR (pc := 61) X dX10_reached_61 fl_X10_32 rfl ea11 ?_
        refine r_iload (pc := 64) X dX10_reached_64 rfl ?_
        obtain ⟨x12, ex12, hf⟩ := ob hf
        refine r_iald (pc := 66) X dX10_reached_66 ex12 ?_
        refine r_ishl (pc := 67) X dX10_reached_67 ?_
        refine r_ior (pc := 68) X dX10_reached_68 ?_
        obtain ⟨x13, ex13, hf⟩ := ob hf
        refine r_nmI ex13 ?_
        refine r_istore_n (pc := 69) X [some (.ref v0), j1, some (.int v2), some (.int x13), some (.int v4), some (.int s.2)] dX10_reached_69 (by decide) rfl ?_
        obtain ⟨x14, ex14, hf⟩ := ob hf
        refine r_iinc2 (pc := 70) X 1 [some (.ref v0), j1, some (.int v2), some (.int x13), some (.int v4), some (.int x14)] dX10_reached_70 (by decide) rfl (by decide) ex14 rfl ?_
        refine r_goto (pc := 73) X 17 dX10_reached_73 (by decide) ?_
        obtain rfl := Option.some.inj hf
        exact hk _
def lb_X10_reached_7 (hh : aH) (v0 : Nat) (v2 : Int32) (s : Int32 × Int32) : Option ((Int32 × Int32) ⊕ ((Int32))) :=
  if s.2 < 6 then
    (lp (lb_X10_reached_17 hh v0 v2 s.2) lpN (s.1, 0)).bind fun o18 =>
    (some (s.2 + 1)).bind fun x21 =>
    some (.inl (o18, x21))
  else
    some (.inr s.1)
def hd_X10_reached_7 (Γ : aC) (hh : aH) (v0 : Nat) (v2 : Int32) (s : Int32 × Int32) : Prop := ∀ (j1 : Option Value) (j5 : Option Value), Jd Γ (0, 0) 7 [some (.ref v0), j1, some (.int v2), some (.int s.1), some (.int s.2), j5] [] hh
def ex_X10_reached_7 (Γ : aC) (hh : aH) (v0 : Nat) (v2 : Int32) (r : (Int32)) : Prop := (fun r => RpI hh Γ r) r
set_option maxRecDepth 20000 in
set_option maxHeartbeats 4000000 in
theorem lw_X10_reached_7 {Γ : aC} {d : Nat} (X : Cx Γ RX10 cX10_reached 6 (some .int) (d, 0, 0)) (hd : 1 ≤ d) (hh : aH) (v0 : Nat) (v2 : Int32) : ∀ n s o, lp (lb_X10_reached_7 hh v0 v2) n s = some o → ex_X10_reached_7 Γ hh v0 v2 o → hd_X10_reached_7 Γ hh v0 v2 s := by
  have hd1 : 1 ≤ d := by omega
  refine J_lp _ _ _ ?_
  intro s o hf hk j1 j5
  unfold lb_X10_reached_7 at hf
  refine r_iload (pc := 7) X dX10_reached_7 rfl ?_
  refine r_bipush (pc := 9) X 6 dX10_reached_9 (by decide) ?_
  refine r_icmp_ge (pc := 11) X 82 dX10_reached_11 (by decide) (fun c22 => ?_) (fun c22 => ?_)
  · rw [if_neg c22] at hf
    refine r_iload_n (pc := 82) X dX10_reached_82 rfl ?_
    obtain rfl := Option.some.inj hf
    exact r_iret (pc := 83) X dX10_reached_83 hk
  · rw [if_pos c22] at hf
    refine r_iconst (pc := 14) X 0 dX10_reached_14 (by decide) ?_
    refine r_istore (pc := 15) X [some (.ref v0), j1, some (.int v2), some (.int s.1), some (.int s.2), some (.int 0)] dX10_reached_15 (by decide) rfl ?_
    obtain ⟨o18, eo18, hf⟩ := ob hf
    refine (lw_X10_reached_17 X hd _ _ _ _ lpN _ o18 eo18 ?_) _
    intro j19 j20
    obtain ⟨x21, ex21, hf⟩ := ob hf
    refine r_iinc2 (pc := 76) X 1 [some (.ref v0), j19, some (.int v2), some (.int o18), some (.int x21), j20] dX10_reached_76 (by decide) rfl (by decide) ex21 rfl ?_
    refine r_goto (pc := 79) X 7 dX10_reached_79 (by decide) ?_
    obtain rfl := Option.some.inj hf
    exact hk _ _
def fn_X10_reached (h : aH) (p0 : Nat) (p1 : Int32) (p2 : Int32) : Option (Int32) :=
  (some (1 <<< (p1 &&& 31))).bind fun x1 =>
  (lp (lb_X10_reached_7 h p0 p2) lpN (x1, 0)).bind fun o23 =>
  some o23
set_option maxRecDepth 20000 in
set_option maxHeartbeats 4000000 in
theorem ev_X10_reached {l : Launch} {g : aG} {d : Nat} (hd : 1 ≤ d) (h : aH) (p0 : Nat) (p1 : Int32) (p2 : Int32) (o : Int32) (hf : fn_X10_reached h p0 p1 p2 = some o) : EvM l g d yX10_reached cX10_reached 6 (some .int) [.ref p0, .int p1, .int p2] h (some (.int o), h) := by
  refine EvM.of mk_X10_reached (Nat.le_of_ble_eq_true rfl) ?_
  intro Γ hl hg hq X
  have hd1 : 1 ≤ d := by omega
  have hk : RpI h Γ o := hq
  unfold fn_X10_reached at hf
  show Jd Γ (0, 0) 0 [some (.ref p0), some (.int p1), some (.int p2), none, none, none] [] h
  refine r_iconst (pc := 0) X 1 dX10_reached_0 (by decide) ?_
  refine r_iload_n (pc := 1) X dX10_reached_1 rfl ?_
  refine r_ishl (pc := 2) X dX10_reached_2 ?_
  obtain ⟨x1, ex1, hf⟩ := ob hf
  refine r_nmI ex1 ?_
  refine r_istore_n (pc := 3) X [some (.ref p0), some (.int p1), some (.int p2), some (.int x1), none, none] dX10_reached_3 (by decide) rfl ?_
  refine r_iconst (pc := 4) X 0 dX10_reached_4 (by decide) ?_
  refine r_istore (pc := 5) X [some (.ref p0), some (.int p1), some (.int p2), some (.int x1), some (.int 0), none] dX10_reached_5 (by decide) rfl ?_
  obtain ⟨o23, eo23, hf⟩ := ob hf
  refine (lw_X10_reached_7 X hd _ _ _ lpN _ o23 eo23 ?_) _ _
  obtain rfl := Option.some.inj hf
  exact hk

theorem dX10_measure_0 : decode cX10_measure 0 = .ok (.iconst 0, 1) := by decide +kernel
theorem dX10_measure_1 : decode cX10_measure 1 = .ok (.istore_n 3, 1) := by decide +kernel
theorem dX10_measure_2 : decode cX10_measure 2 = .ok (.iload_n 3, 1) := by decide +kernel
theorem dX10_measure_3 : decode cX10_measure 3 = .ok (.bipush 6, 2) := by decide +kernel
theorem dX10_measure_5 : decode cX10_measure 5 = .ok (.if_icmp .ge 27, 3) := by decide +kernel
theorem dX10_measure_8 : decode cX10_measure 8 = .ok (.aload_n 0, 1) := by decide +kernel
theorem dX10_measure_9 : decode cX10_measure 9 = .ok (.getfield 15, 3) := by decide +kernel
theorem dX10_measure_12 : decode cX10_measure 12 = .ok (.iload_n 3, 1) := by decide +kernel
theorem dX10_measure_13 : decode cX10_measure 13 = .ok (.iload_n 3, 1) := by decide +kernel
theorem dX10_measure_14 : decode cX10_measure 14 = .ok (.iload_n 1, 1) := by decide +kernel
theorem dX10_measure_15 : decode cX10_measure 15 = .ok (.if_icmp .ne 7, 3) := by decide +kernel
theorem dX10_measure_18 : decode cX10_measure 18 = .ok (.iconst 0, 1) := by decide +kernel
theorem dX10_measure_19 : decode cX10_measure 19 = .ok (.goto 6, 3) := by decide +kernel
theorem dX10_measure_22 : decode cX10_measure 22 = .ok (.sipush 1000, 3) := by decide +kernel
theorem dX10_measure_25 : decode cX10_measure 25 = .ok (.iastore, 1) := by decide +kernel
theorem dX10_measure_26 : decode cX10_measure 26 = .ok (.iinc 3 1, 3) := by decide +kernel
theorem dX10_measure_29 : decode cX10_measure 29 = .ok (.goto (-27), 3) := by decide +kernel
theorem dX10_measure_32 : decode cX10_measure 32 = .ok (.iconst 0, 1) := by decide +kernel
theorem dX10_measure_33 : decode cX10_measure 33 = .ok (.istore_n 3, 1) := by decide +kernel
theorem dX10_measure_34 : decode cX10_measure 34 = .ok (.iload_n 3, 1) := by decide +kernel
theorem dX10_measure_35 : decode cX10_measure 35 = .ok (.bipush 6, 2) := by decide +kernel
theorem dX10_measure_37 : decode cX10_measure 37 = .ok (.if_icmp .ge 95, 3) := by decide +kernel
theorem dX10_measure_40 : decode cX10_measure 40 = .ok (.iconst 0, 1) := by decide +kernel
theorem dX10_measure_41 : decode cX10_measure 41 = .ok (.istore 4, 2) := by decide +kernel
theorem dX10_measure_43 : decode cX10_measure 43 = .ok (.iload 4, 2) := by decide +kernel
theorem dX10_measure_45 : decode cX10_measure 45 = .ok (.aload_n 0, 1) := by decide +kernel
theorem dX10_measure_46 : decode cX10_measure 46 = .ok (.getfield 9, 3) := by decide +kernel
theorem dX10_measure_49 : decode cX10_measure 49 = .ok (.getfield 19, 3) := by decide +kernel
theorem dX10_measure_52 : decode cX10_measure 52 = .ok (.if_icmp .ge 74, 3) := by decide +kernel
theorem dX10_measure_55 : decode cX10_measure 55 = .ok (.aload_n 0, 1) := by decide +kernel
theorem dX10_measure_56 : decode cX10_measure 56 = .ok (.getfield 15, 3) := by decide +kernel
theorem dX10_measure_59 : decode cX10_measure 59 = .ok (.aload_n 0, 1) := by decide +kernel
theorem dX10_measure_60 : decode cX10_measure 60 = .ok (.getfield 9, 3) := by decide +kernel
theorem dX10_measure_63 : decode cX10_measure 63 = .ok (.getfield 32, 3) := by decide +kernel
theorem dX10_measure_66 : decode cX10_measure 66 = .ok (.iload 4, 2) := by decide +kernel
theorem dX10_measure_68 : decode cX10_measure 68 = .ok (.iaload, 1) := by decide +kernel
theorem dX10_measure_69 : decode cX10_measure 69 = .ok (.iaload, 1) := by decide +kernel
theorem dX10_measure_70 : decode cX10_measure 70 = .ok (.iconst 1, 1) := by decide +kernel
theorem dX10_measure_71 : decode cX10_measure 71 = .ok (.iadd, 1) := by decide +kernel
theorem dX10_measure_72 : decode cX10_measure 72 = .ok (.istore 5, 2) := by decide +kernel
theorem dX10_measure_74 : decode cX10_measure 74 = .ok (.iload 4, 2) := by decide +kernel
theorem dX10_measure_76 : decode cX10_measure 76 = .ok (.iload_n 2, 1) := by decide +kernel
theorem dX10_measure_77 : decode cX10_measure 77 = .ok (.invokestatic 25, 3) := by decide +kernel
theorem dX10_measure_80 : decode cX10_measure 80 = .ok (.ifCond .eq 40, 3) := by decide +kernel
theorem dX10_measure_83 : decode cX10_measure 83 = .ok (.iload 5, 2) := by decide +kernel
theorem dX10_measure_85 : decode cX10_measure 85 = .ok (.aload_n 0, 1) := by decide +kernel
theorem dX10_measure_86 : decode cX10_measure 86 = .ok (.getfield 15, 3) := by decide +kernel
theorem dX10_measure_89 : decode cX10_measure 89 = .ok (.aload_n 0, 1) := by decide +kernel
theorem dX10_measure_90 : decode cX10_measure 90 = .ok (.getfield 9, 3) := by decide +kernel
theorem dX10_measure_93 : decode cX10_measure 93 = .ok (.getfield 29, 3) := by decide +kernel
theorem dX10_measure_96 : decode cX10_measure 96 = .ok (.iload 4, 2) := by decide +kernel
theorem dX10_measure_98 : decode cX10_measure 98 = .ok (.iaload, 1) := by decide +kernel
theorem dX10_measure_99 : decode cX10_measure 99 = .ok (.iaload, 1) := by decide +kernel
theorem dX10_measure_100 : decode cX10_measure 100 = .ok (.if_icmp .ge 20, 3) := by decide +kernel
theorem dX10_measure_103 : decode cX10_measure 103 = .ok (.aload_n 0, 1) := by decide +kernel
theorem dX10_measure_104 : decode cX10_measure 104 = .ok (.getfield 15, 3) := by decide +kernel
theorem dX10_measure_107 : decode cX10_measure 107 = .ok (.aload_n 0, 1) := by decide +kernel
theorem dX10_measure_108 : decode cX10_measure 108 = .ok (.getfield 9, 3) := by decide +kernel
theorem dX10_measure_111 : decode cX10_measure 111 = .ok (.getfield 29, 3) := by decide +kernel
theorem dX10_measure_114 : decode cX10_measure 114 = .ok (.iload 4, 2) := by decide +kernel
theorem dX10_measure_116 : decode cX10_measure 116 = .ok (.iaload, 1) := by decide +kernel
theorem dX10_measure_117 : decode cX10_measure 117 = .ok (.iload 5, 2) := by decide +kernel
theorem dX10_measure_119 : decode cX10_measure 119 = .ok (.iastore, 1) := by decide +kernel
theorem dX10_measure_120 : decode cX10_measure 120 = .ok (.iinc 4 1, 3) := by decide +kernel
theorem dX10_measure_123 : decode cX10_measure 123 = .ok (.goto (-80), 3) := by decide +kernel
theorem dX10_measure_126 : decode cX10_measure 126 = .ok (.iinc 3 1, 3) := by decide +kernel
theorem dX10_measure_129 : decode cX10_measure 129 = .ok (.goto (-95), 3) := by decide +kernel
theorem dX10_measure_132 : decode cX10_measure 132 = .ok (.return_, 1) := by decide +kernel
def lb_X10_measure_2 (v0 : Nat) (v1 : Int32) (v2 : Int32) (s : Int32 × aH) : Option ((Int32 × aH) ⊕ ((aH))) :=
  if s.1 < 6 then
    (gR s.2 v0 9 1).bind fun a1 =>
    ((
      if s.1 = v1 then
        some 0
      else
        some 1000
    ) : Option (Int32)).bind fun t2 =>
    (wI s.2 a1 s.1 t2).bind fun h3 =>
    (some (s.1 + 1)).bind fun x4 =>
    some (.inl (x4, h3))
  else
    some (.inr s.2)
def hd_X10_measure_2 (Γ : aC) (v0 : Nat) (v1 : Int32) (v2 : Int32) (s : Int32 × aH) : Prop := ∀ (j4 : Option Value) (j5 : Option Value), Jd Γ (0, 0) 2 [some (.ref v0), some (.int v1), some (.int v2), some (.int s.1), j4, j5] [] s.2
def ex_X10_measure_2 (Γ : aC) (v0 : Nat) (v1 : Int32) (v2 : Int32) (r : (aH)) : Prop := (fun r => ∀ (j3 : Option Value) (j4 : Option Value) (j5 : Option Value), Jd Γ (0, 0) 32 [some (.ref v0), some (.int v1), some (.int v2), j3, j4, j5] [] r) r
set_option maxRecDepth 20000 in
set_option maxHeartbeats 4000000 in
theorem lw_X10_measure_2 {Γ : aC} {d : Nat} (X : Cx Γ RX10 cX10_measure 6 none (d, 0, 0)) (hd : 1 ≤ d) (v0 : Nat) (v1 : Int32) (v2 : Int32) : ∀ n s o, lp (lb_X10_measure_2 v0 v1 v2) n s = some o → ex_X10_measure_2 Γ v0 v1 v2 o → hd_X10_measure_2 Γ v0 v1 v2 s := by
  have hd1 : 1 ≤ d := by omega
  refine J_lp _ _ _ ?_
  intro s o hf hk j4 j5
  unfold lb_X10_measure_2 at hf
  refine r_iload_n (pc := 2) X dX10_measure_2 rfl ?_
  refine r_bipush (pc := 3) X 6 dX10_measure_3 (by decide) ?_
  refine r_icmp_ge (pc := 5) X 32 dX10_measure_5 (by decide) (fun c6 => ?_) (fun c6 => ?_)
  · rw [if_neg c6] at hf
    obtain rfl := Option.some.inj hf
    exact hk _ _ _
  · rw [if_pos c6] at hf
    refine r_aload_n (pc := 8) X dX10_measure_8 rfl ?_
    obtain ⟨a1, ea1, hf⟩ := ob hf
    refine r_getR (pc := 9) X dX10_measure_9 fl_X10_15 rfl ea1 ?_
    refine r_iload_n (pc := 12) X dX10_measure_12 rfl ?_
    refine r_iload_n (pc := 13) X dX10_measure_13 rfl ?_
    refine r_iload_n (pc := 14) X dX10_measure_14 rfl ?_
    obtain ⟨t2, et2, hf⟩ := ob hf
    have Jt2 : Jd Γ (0, 0) 25 [some (.ref v0), some (.int v1), some (.int v2), some (.int s.1), j4, j5] [.int t2, .int s.1, .ref a1] s.2 := by
      obtain ⟨h3, eh3, hf⟩ := ob hf
      refine r_iast (pc := 25) X dX10_measure_25 eh3 ?_
      obtain ⟨x4, ex4, hf⟩ := ob hf
      refine r_iinc2 (pc := 26) X 1 [some (.ref v0), some (.int v1), some (.int v2), some (.int x4), j4, j5] dX10_measure_26 (by decide) rfl (by decide) ex4 rfl ?_
      refine r_goto (pc := 29) X 2 dX10_measure_29 (by decide) ?_
      obtain rfl := Option.some.inj hf
      exact hk _ _
    refine r_icmp_ne (pc := 15) X 22 dX10_measure_15 (by decide) (fun c5 => ?_) (fun c5 => ?_)
    · rw [if_neg c5] at et2
      refine r_sipush (pc := 22) X 1000 dX10_measure_22 (by decide) ?_
      obtain rfl := Option.some.inj et2
      exact Jt2
    · rw [if_pos c5] at et2
      refine r_iconst (pc := 18) X 0 dX10_measure_18 (by decide) ?_
      refine r_goto (pc := 19) X 25 dX10_measure_19 (by decide) ?_
      obtain rfl := Option.some.inj et2
      exact Jt2
def lb_X10_measure_43 (v0 : Nat) (v2 : Int32) (v3 : Int32) (s : Int32 × aH) : Option ((Int32 × aH) ⊕ ((aH))) :=
  (gR s.2 v0 9 0).bind fun a11 =>
  (gI s.2 a11 0 1).bind fun x12 =>
  if s.1 < x12 then
    (gR s.2 v0 9 1).bind fun a13 =>
    (gR s.2 v0 9 0).bind fun a14 =>
    (gR s.2 a14 0 4).bind fun a15 =>
    (aI s.2 a15 14 s.1).bind fun x16 =>
    (aI s.2 a13 14 x16).bind fun x17 =>
    (some (x17 + 1)).bind fun x18 =>
    (fn_X10_isOpen s.2 s.1 v2).bind fun x19 =>
    if x19 = 0 then
      (some (s.1 + 1)).bind fun x20 =>
      some (.inl (x20, s.2))
    else
      (gR s.2 v0 9 1).bind fun a21 =>
      (gR s.2 v0 9 0).bind fun a22 =>
      (gR s.2 a22 0 3).bind fun a23 =>
      (aI s.2 a23 14 s.1).bind fun x24 =>
      (aI s.2 a21 14 x24).bind fun x25 =>
      if x18 < x25 then
        (gR s.2 v0 9 1).bind fun a27 =>
        (gR s.2 v0 9 0).bind fun a28 =>
        (gR s.2 a28 0 3).bind fun a29 =>
        (aI s.2 a29 14 s.1).bind fun x30 =>
        (wI s.2 a27 x30 x18).bind fun h31 =>
        (some (s.1 + 1)).bind fun x32 =>
        some (.inl (x32, h31))
      else
        (some (s.1 + 1)).bind fun x26 =>
        some (.inl (x26, s.2))
  else
    some (.inr s.2)
def hd_X10_measure_43 (Γ : aC) (v0 : Nat) (v2 : Int32) (v3 : Int32) (s : Int32 × aH) : Prop := ∀ (j1 : Option Value) (j5 : Option Value), Jd Γ (0, 0) 43 [some (.ref v0), j1, some (.int v2), some (.int v3), some (.int s.1), j5] [] s.2
def ex_X10_measure_43 (Γ : aC) (v0 : Nat) (v2 : Int32) (v3 : Int32) (r : (aH)) : Prop := (fun r => ∀ (j1 : Option Value) (j4 : Option Value) (j5 : Option Value), Jd Γ (0, 0) 126 [some (.ref v0), j1, some (.int v2), some (.int v3), j4, j5] [] r) r
set_option maxRecDepth 20000 in
set_option maxHeartbeats 4000000 in
theorem lw_X10_measure_43 {Γ : aC} {d : Nat} (X : Cx Γ RX10 cX10_measure 6 none (d, 0, 0)) (hd : 1 ≤ d) (v0 : Nat) (v2 : Int32) (v3 : Int32) : ∀ n s o, lp (lb_X10_measure_43 v0 v2 v3) n s = some o → ex_X10_measure_43 Γ v0 v2 v3 o → hd_X10_measure_43 Γ v0 v2 v3 s := by
  have hd1 : 1 ≤ d := by omega
  refine J_lp _ _ _ ?_
  intro s o hf hk j1 j5
  unfold lb_X10_measure_43 at hf
  refine r_iload (pc := 43) X dX10_measure_43 rfl ?_
  refine r_aload_n (pc := 45) X dX10_measure_45 rfl ?_
  obtain ⟨a11, ea11, hf⟩ := ob hf
  refine r_getR (pc := 46) X dX10_measure_46 fl_X10_9 rfl ea11 ?_
  obtain ⟨x12, ex12, hf⟩ := ob hf
  refine r_getI (pc := 49) X dX10_measure_49 fl_X10_19 rfl ex12 ?_
  refine r_icmp_ge (pc := 52) X 126 dX10_measure_52 (by decide) (fun c35 => ?_) (fun c35 => ?_)
  · rw [if_neg c35] at hf
    obtain rfl := Option.some.inj hf
    exact hk _ _ _
  · rw [if_pos c35] at hf
    refine r_aload_n (pc := 55) X dX10_measure_55 rfl ?_
    obtain ⟨a13, ea13, hf⟩ := ob hf
    refine r_getR (pc := 56) X dX10_measure_56 fl_X10_15 rfl ea13 ?_
    refine r_aload_n (pc := 59) X dX10_measure_59 rfl ?_
    obtain ⟨a14, ea14, hf⟩ := ob hf
    refine r_getR (pc := 60) X dX10_measure_60 fl_X10_9 rfl ea14 ?_
    obtain ⟨a15, ea15, hf⟩ := ob hf
    refine r_getR (pc := 63) X dX10_measure_63 fl_X10_32 rfl ea15 ?_
    refine r_iload (pc := 66) X dX10_measure_66 rfl ?_
    obtain ⟨x16, ex16, hf⟩ := ob hf
    refine r_iald (pc := 68) X dX10_measure_68 ex16 ?_
    obtain ⟨x17, ex17, hf⟩ := ob hf
    refine r_iald (pc := 69) X dX10_measure_69 ex17 ?_
    refine r_iconst (pc := 70) X 1 dX10_measure_70 (by decide) ?_
    refine r_iadd (pc := 71) X dX10_measure_71 ?_
    obtain ⟨x18, ex18, hf⟩ := ob hf
    refine r_nmI ex18 ?_
    refine r_istore (pc := 72) X [some (.ref v0), j1, some (.int v2), some (.int v3), some (.int s.1), some (.int x18)] dX10_measure_72 (by decide) rfl ?_
    refine r_iload (pc := 74) X dX10_measure_74 rfl ?_
    refine r_iload_n (pc := 76) X dX10_measure_76 rfl ?_
    obtain ⟨x19, ex19, hf⟩ := ob hf
    refine r_callSI (pc := 77) X [.int s.1, .int v2] dX10_measure_77 ml_X10_25 so_X10_isOpen ⟨Nat.le_refl _, Nat.le_refl _⟩ (ev_X10_isOpen (d := d - 1) (by omega) _ _ _ _ ex19) hd1 rfl (Nat.le_of_ble_eq_true rfl) rfl ?_
    refine r_if_eq (pc := 80) X 120 dX10_measure_80 (by decide) (fun c34 => ?_) (fun c34 => ?_)
    · rw [if_pos c34] at hf
      obtain ⟨x20, ex20, hf⟩ := ob hf
      refine r_iinc2 (pc := 120) X 1 [some (.ref v0), j1, some (.int v2), some (.int v3), some (.int x20), some (.int x18)] dX10_measure_120 (by decide) rfl (by decide) ex20 rfl ?_
      refine r_goto (pc := 123) X 43 dX10_measure_123 (by decide) ?_
      obtain rfl := Option.some.inj hf
      exact hk _ _
    · rw [if_neg c34] at hf
      refine r_iload (pc := 83) X dX10_measure_83 rfl ?_
      refine r_aload_n (pc := 85) X dX10_measure_85 rfl ?_
      obtain ⟨a21, ea21, hf⟩ := ob hf
      refine r_getR (pc := 86) X dX10_measure_86 fl_X10_15 rfl ea21 ?_
      refine r_aload_n (pc := 89) X dX10_measure_89 rfl ?_
      obtain ⟨a22, ea22, hf⟩ := ob hf
      refine r_getR (pc := 90) X dX10_measure_90 fl_X10_9 rfl ea22 ?_
      obtain ⟨a23, ea23, hf⟩ := ob hf
      refine r_getR (pc := 93) X dX10_measure_93 fl_X10_29 rfl ea23 ?_
      refine r_iload (pc := 96) X dX10_measure_96 rfl ?_
      obtain ⟨x24, ex24, hf⟩ := ob hf
      refine r_iald (pc := 98) X dX10_measure_98 ex24 ?_
      obtain ⟨x25, ex25, hf⟩ := ob hf
      refine r_iald (pc := 99) X dX10_measure_99 ex25 ?_
      refine r_icmp_ge (pc := 100) X 120 dX10_measure_100 (by decide) (fun c33 => ?_) (fun c33 => ?_)
      · rw [if_neg c33] at hf
        obtain ⟨x26, ex26, hf⟩ := ob hf
        refine r_iinc2 (pc := 120) X 1 [some (.ref v0), j1, some (.int v2), some (.int v3), some (.int x26), some (.int x18)] dX10_measure_120 (by decide) rfl (by decide) ex26 rfl ?_
        refine r_goto (pc := 123) X 43 dX10_measure_123 (by decide) ?_
        obtain rfl := Option.some.inj hf
        exact hk _ _
      · rw [if_pos c33] at hf
        refine r_aload_n (pc := 103) X dX10_measure_103 rfl ?_
        obtain ⟨a27, ea27, hf⟩ := ob hf
        refine r_getR (pc := 104) X dX10_measure_104 fl_X10_15 rfl ea27 ?_
        refine r_aload_n (pc := 107) X dX10_measure_107 rfl ?_
        obtain ⟨a28, ea28, hf⟩ := ob hf
        refine r_getR (pc := 108) X dX10_measure_108 fl_X10_9 rfl ea28 ?_
        obtain ⟨a29, ea29, hf⟩ := ob hf
        refine r_getR (pc := 111) X dX10_measure_111 fl_X10_29 rfl ea29 ?_
        refine r_iload (pc := 114) X dX10_measure_114 rfl ?_
        obtain ⟨x30, ex30, hf⟩ := ob hf
        refine r_iald (pc := 116) X dX10_measure_116 ex30 ?_
        refine r_iload (pc := 117) X dX10_measure_117 rfl ?_
        obtain ⟨h31, eh31, hf⟩ := ob hf
        refine r_iast (pc := 119) X dX10_measure_119 eh31 ?_
        obtain ⟨x32, ex32, hf⟩ := ob hf
        refine r_iinc2 (pc := 120) X 1 [some (.ref v0), j1, some (.int v2), some (.int v3), some (.int x32), some (.int x18)] dX10_measure_120 (by decide) rfl (by decide) ex32 rfl ?_
        refine r_goto (pc := 123) X 43 dX10_measure_123 (by decide) ?_
        obtain rfl := Option.some.inj hf
        exact hk _ _
def lb_X10_measure_34 (v0 : Nat) (v2 : Int32) (s : Int32 × aH) : Option ((Int32 × aH) ⊕ ((aH))) :=
  if s.1 < 6 then
    (lp (lb_X10_measure_43 v0 v2 s.1) lpN (0, s.2)).bind fun o36 =>
    (some (s.1 + 1)).bind fun x40 =>
    some (.inl (x40, o36))
  else
    some (.inr s.2)
def hd_X10_measure_34 (Γ : aC) (v0 : Nat) (v2 : Int32) (s : Int32 × aH) : Prop := ∀ (j1 : Option Value) (j4 : Option Value) (j5 : Option Value), Jd Γ (0, 0) 34 [some (.ref v0), j1, some (.int v2), some (.int s.1), j4, j5] [] s.2
def ex_X10_measure_34 (Γ : aC) (v0 : Nat) (v2 : Int32) (r : (aH)) : Prop := (fun r => RqV Γ r) r
set_option maxRecDepth 20000 in
set_option maxHeartbeats 4000000 in
theorem lw_X10_measure_34 {Γ : aC} {d : Nat} (X : Cx Γ RX10 cX10_measure 6 none (d, 0, 0)) (hd : 1 ≤ d) (v0 : Nat) (v2 : Int32) : ∀ n s o, lp (lb_X10_measure_34 v0 v2) n s = some o → ex_X10_measure_34 Γ v0 v2 o → hd_X10_measure_34 Γ v0 v2 s := by
  have hd1 : 1 ≤ d := by omega
  refine J_lp _ _ _ ?_
  intro s o hf hk j1 j4 j5
  unfold lb_X10_measure_34 at hf
  refine r_iload_n (pc := 34) X dX10_measure_34 rfl ?_
  refine r_bipush (pc := 35) X 6 dX10_measure_35 (by decide) ?_
  refine r_icmp_ge (pc := 37) X 132 dX10_measure_37 (by decide) (fun c41 => ?_) (fun c41 => ?_)
  · rw [if_neg c41] at hf
    obtain rfl := Option.some.inj hf
    exact r_vret (pc := 132) X dX10_measure_132 hk
  · rw [if_pos c41] at hf
    refine r_iconst (pc := 40) X 0 dX10_measure_40 (by decide) ?_
    refine r_istore (pc := 41) X [some (.ref v0), j1, some (.int v2), some (.int s.1), some (.int 0), j5] dX10_measure_41 (by decide) rfl ?_
    obtain ⟨o36, eo36, hf⟩ := ob hf
    refine (lw_X10_measure_43 X hd _ _ _ lpN _ o36 eo36 ?_) _ _
    intro j37 j38 j39
    obtain ⟨x40, ex40, hf⟩ := ob hf
    refine r_iinc2 (pc := 126) X 1 [some (.ref v0), j37, some (.int v2), some (.int x40), j38, j39] dX10_measure_126 (by decide) rfl (by decide) ex40 rfl ?_
    refine r_goto (pc := 129) X 34 dX10_measure_129 (by decide) ?_
    obtain rfl := Option.some.inj hf
    exact hk _ _ _
def fn_X10_measure (h : aH) (p0 : Nat) (p1 : Int32) (p2 : Int32) : Option (aH) :=
  (lp (lb_X10_measure_2 p0 p1 p2) lpN (0, h)).bind fun o7 =>
  (lp (lb_X10_measure_34 p0 p2) lpN (0, o7)).bind fun o42 =>
  some o42
set_option maxRecDepth 20000 in
set_option maxHeartbeats 4000000 in
theorem ev_X10_measure {l : Launch} {g : aG} {d : Nat} (hd : 1 ≤ d) (h : aH) (p0 : Nat) (p1 : Int32) (p2 : Int32) (o : aH) (hf : fn_X10_measure h p0 p1 p2 = some o) : EvM l g d yX10_measure cX10_measure 6 none [.ref p0, .int p1, .int p2] h (none, o) := by
  refine EvM.of mk_X10_measure (Nat.le_of_ble_eq_true rfl) ?_
  intro Γ hl hg hq X
  have hd1 : 1 ≤ d := by omega
  have hk : RqV Γ o := hq
  unfold fn_X10_measure at hf
  show Jd Γ (0, 0) 0 [some (.ref p0), some (.int p1), some (.int p2), none, none, none] [] h
  refine r_iconst (pc := 0) X 0 dX10_measure_0 (by decide) ?_
  refine r_istore_n (pc := 1) X [some (.ref p0), some (.int p1), some (.int p2), some (.int 0), none, none] dX10_measure_1 (by decide) rfl ?_
  obtain ⟨o7, eo7, hf⟩ := ob hf
  refine (lw_X10_measure_2 X hd _ _ _ lpN _ o7 eo7 ?_) _ _
  intro j8 j9 j10
  refine r_iconst (pc := 32) X 0 dX10_measure_32 (by decide) ?_
  refine r_istore_n (pc := 33) X [some (.ref p0), some (.int p1), some (.int p2), some (.int 0), j9, j10] dX10_measure_33 (by decide) rfl ?_
  obtain ⟨o42, eo42, hf⟩ := ob hf
  refine (lw_X10_measure_34 X hd _ _ lpN _ o42 eo42 ?_) _ _ _
  obtain rfl := Option.some.inj hf
  exact hk

theorem dX10_leastAhead_0 : decode cX10_leastAhead 0 = .ok (.iconst 0, 1) := by decide +kernel
theorem dX10_leastAhead_1 : decode cX10_leastAhead 1 = .ok (.istore_n 3, 1) := by decide +kernel
theorem dX10_leastAhead_2 : decode cX10_leastAhead 2 = .ok (.iload_n 3, 1) := by decide +kernel
theorem dX10_leastAhead_3 : decode cX10_leastAhead 3 = .ok (.aload_n 0, 1) := by decide +kernel
theorem dX10_leastAhead_4 : decode cX10_leastAhead 4 = .ok (.getfield 9, 3) := by decide +kernel
theorem dX10_leastAhead_7 : decode cX10_leastAhead 7 = .ok (.getfield 19, 3) := by decide +kernel
theorem dX10_leastAhead_10 : decode cX10_leastAhead 10 = .ok (.if_icmp .ge 69, 3) := by decide +kernel
theorem dX10_leastAhead_13 : decode cX10_leastAhead 13 = .ok (.aload_n 0, 1) := by decide +kernel
theorem dX10_leastAhead_14 : decode cX10_leastAhead 14 = .ok (.getfield 9, 3) := by decide +kernel
theorem dX10_leastAhead_17 : decode cX10_leastAhead 17 = .ok (.getfield 29, 3) := by decide +kernel
theorem dX10_leastAhead_20 : decode cX10_leastAhead 20 = .ok (.iload_n 3, 1) := by decide +kernel
theorem dX10_leastAhead_21 : decode cX10_leastAhead 21 = .ok (.iaload, 1) := by decide +kernel
theorem dX10_leastAhead_22 : decode cX10_leastAhead 22 = .ok (.iload_n 1, 1) := by decide +kernel
theorem dX10_leastAhead_23 : decode cX10_leastAhead 23 = .ok (.if_icmp .ne 32, 3) := by decide +kernel
theorem dX10_leastAhead_26 : decode cX10_leastAhead 26 = .ok (.aload_n 0, 1) := by decide +kernel
theorem dX10_leastAhead_27 : decode cX10_leastAhead 27 = .ok (.getfield 15, 3) := by decide +kernel
theorem dX10_leastAhead_30 : decode cX10_leastAhead 30 = .ok (.aload_n 0, 1) := by decide +kernel
theorem dX10_leastAhead_31 : decode cX10_leastAhead 31 = .ok (.getfield 9, 3) := by decide +kernel
theorem dX10_leastAhead_34 : decode cX10_leastAhead 34 = .ok (.getfield 32, 3) := by decide +kernel
theorem dX10_leastAhead_37 : decode cX10_leastAhead 37 = .ok (.iload_n 3, 1) := by decide +kernel
theorem dX10_leastAhead_38 : decode cX10_leastAhead 38 = .ok (.iaload, 1) := by decide +kernel
theorem dX10_leastAhead_39 : decode cX10_leastAhead 39 = .ok (.iaload, 1) := by decide +kernel
theorem dX10_leastAhead_40 : decode cX10_leastAhead 40 = .ok (.aload_n 0, 1) := by decide +kernel
theorem dX10_leastAhead_41 : decode cX10_leastAhead 41 = .ok (.getfield 15, 3) := by decide +kernel
theorem dX10_leastAhead_44 : decode cX10_leastAhead 44 = .ok (.iload_n 1, 1) := by decide +kernel
theorem dX10_leastAhead_45 : decode cX10_leastAhead 45 = .ok (.iaload, 1) := by decide +kernel
theorem dX10_leastAhead_46 : decode cX10_leastAhead 46 = .ok (.iconst 1, 1) := by decide +kernel
theorem dX10_leastAhead_47 : decode cX10_leastAhead 47 = .ok (.isub, 1) := by decide +kernel
theorem dX10_leastAhead_48 : decode cX10_leastAhead 48 = .ok (.if_icmp .ne 7, 3) := by decide +kernel
theorem dX10_leastAhead_51 : decode cX10_leastAhead 51 = .ok (.iconst 1, 1) := by decide +kernel
theorem dX10_leastAhead_52 : decode cX10_leastAhead 52 = .ok (.goto 4, 3) := by decide +kernel
theorem dX10_leastAhead_55 : decode cX10_leastAhead 55 = .ok (.iconst 0, 1) := by decide +kernel
theorem dX10_leastAhead_56 : decode cX10_leastAhead 56 = .ok (.istore 4, 2) := by decide +kernel
theorem dX10_leastAhead_58 : decode cX10_leastAhead 58 = .ok (.iload 4, 2) := by decide +kernel
theorem dX10_leastAhead_60 : decode cX10_leastAhead 60 = .ok (.ifCond .eq 13, 3) := by decide +kernel
theorem dX10_leastAhead_63 : decode cX10_leastAhead 63 = .ok (.iload_n 3, 1) := by decide +kernel
theorem dX10_leastAhead_64 : decode cX10_leastAhead 64 = .ok (.iload_n 2, 1) := by decide +kernel
theorem dX10_leastAhead_65 : decode cX10_leastAhead 65 = .ok (.invokestatic 25, 3) := by decide +kernel
theorem dX10_leastAhead_68 : decode cX10_leastAhead 68 = .ok (.ifCond .eq 5, 3) := by decide +kernel
theorem dX10_leastAhead_71 : decode cX10_leastAhead 71 = .ok (.iload_n 3, 1) := by decide +kernel
theorem dX10_leastAhead_72 : decode cX10_leastAhead 72 = .ok (.ireturn, 1) := by decide +kernel
theorem dX10_leastAhead_73 : decode cX10_leastAhead 73 = .ok (.iinc 3 1, 3) := by decide +kernel
theorem dX10_leastAhead_76 : decode cX10_leastAhead 76 = .ok (.goto (-74), 3) := by decide +kernel
theorem dX10_leastAhead_79 : decode cX10_leastAhead 79 = .ok (.iconst (-1), 1) := by decide +kernel
theorem dX10_leastAhead_80 : decode cX10_leastAhead 80 = .ok (.ireturn, 1) := by decide +kernel
def lb_X10_leastAhead_2 (hh : aH) (v0 : Nat) (v1 : Int32) (v2 : Int32) (s : Int32) : Option ((Int32) ⊕ ((Int32))) :=
  (gR hh v0 9 0).bind fun a1 =>
  (gI hh a1 0 1).bind fun x2 =>
  if s < x2 then
    (gR hh v0 9 0).bind fun a3 =>
    (gR hh a3 0 3).bind fun a4 =>
    (aI hh a4 14 s).bind fun x5 =>
    ((
      if x5 = v1 then
        (gR hh v0 9 1).bind fun a12 =>
        (gR hh v0 9 0).bind fun a13 =>
        (gR hh a13 0 4).bind fun a14 =>
        (aI hh a14 14 s).bind fun x15 =>
        (aI hh a12 14 x15).bind fun x16 =>
        (gR hh v0 9 1).bind fun a17 =>
        (aI hh a17 14 v1).bind fun x18 =>
        if x16 = (x18 - 1) then
          some 1
        else
          some 0
      else
        some 0
    ) : Option (Int32)).bind fun t6 =>
    if t6 = 0 then
      (some (s + 1)).bind fun x7 =>
      some (.inl x7)
    else
      (fn_X10_isOpen hh s v2).bind fun x8 =>
      if x8 = 0 then
        (some (s + 1)).bind fun x9 =>
        some (.inl x9)
      else
        some (.inr s)
  else
    some (.inr (-1))
def hd_X10_leastAhead_2 (Γ : aC) (hh : aH) (v0 : Nat) (v1 : Int32) (v2 : Int32) (s : Int32) : Prop := ∀ (j4 : Option Value), Jd Γ (0, 0) 2 [some (.ref v0), some (.int v1), some (.int v2), some (.int s), j4] [] hh
def ex_X10_leastAhead_2 (Γ : aC) (hh : aH) (v0 : Nat) (v1 : Int32) (v2 : Int32) (r : (Int32)) : Prop := (fun r => RpI hh Γ r) r
set_option maxRecDepth 20000 in
set_option maxHeartbeats 4000000 in
theorem lw_X10_leastAhead_2 {Γ : aC} {d : Nat} (X : Cx Γ RX10 cX10_leastAhead 5 (some .int) (d, 0, 0)) (hd : 1 ≤ d) (hh : aH) (v0 : Nat) (v1 : Int32) (v2 : Int32) : ∀ n s o, lp (lb_X10_leastAhead_2 hh v0 v1 v2) n s = some o → ex_X10_leastAhead_2 Γ hh v0 v1 v2 o → hd_X10_leastAhead_2 Γ hh v0 v1 v2 s := by
  have hd1 : 1 ≤ d := by omega
  refine J_lp _ _ _ ?_
  intro s o hf hk j4
  unfold lb_X10_leastAhead_2 at hf
  refine r_iload_n (pc := 2) X dX10_leastAhead_2 rfl ?_
  refine r_aload_n (pc := 3) X dX10_leastAhead_3 rfl ?_
  obtain ⟨a1, ea1, hf⟩ := ob hf
  refine r_getR (pc := 4) X dX10_leastAhead_4 fl_X10_9 rfl ea1 ?_
  obtain ⟨x2, ex2, hf⟩ := ob hf
  refine r_getI (pc := 7) X dX10_leastAhead_7 fl_X10_19 rfl ex2 ?_
  refine r_icmp_ge (pc := 10) X 79 dX10_leastAhead_10 (by decide) (fun c21 => ?_) (fun c21 => ?_)
  · rw [if_neg c21] at hf
    refine r_iconst (pc := 79) X (-1) dX10_leastAhead_79 (by decide) ?_
    obtain rfl := Option.some.inj hf
    exact r_iret (pc := 80) X dX10_leastAhead_80 hk
  · rw [if_pos c21] at hf
    refine r_aload_n (pc := 13) X dX10_leastAhead_13 rfl ?_
    obtain ⟨a3, ea3, hf⟩ := ob hf
    refine r_getR (pc := 14) X dX10_leastAhead_14 fl_X10_9 rfl ea3 ?_
    obtain ⟨a4, ea4, hf⟩ := ob hf
    refine r_getR (pc := 17) X dX10_leastAhead_17 fl_X10_29 rfl ea4 ?_
    refine r_iload_n (pc := 20) X dX10_leastAhead_20 rfl ?_
    obtain ⟨x5, ex5, hf⟩ := ob hf
    refine r_iald (pc := 21) X dX10_leastAhead_21 ex5 ?_
    refine r_iload_n (pc := 22) X dX10_leastAhead_22 rfl ?_
    obtain ⟨t6, et6, hf⟩ := ob hf
    have Jt6 : Jd Γ (0, 0) 56 [some (.ref v0), some (.int v1), some (.int v2), some (.int s), j4] [.int t6] hh := by
      refine r_istore (pc := 56) X [some (.ref v0), some (.int v1), some (.int v2), some (.int s), some (.int t6)] dX10_leastAhead_56 (by decide) rfl ?_
      refine r_iload (pc := 58) X dX10_leastAhead_58 rfl ?_
      refine r_if_eq (pc := 60) X 73 dX10_leastAhead_60 (by decide) (fun c11 => ?_) (fun c11 => ?_)
      · rw [if_pos c11] at hf
        obtain ⟨x7, ex7, hf⟩ := ob hf
        refine r_iinc2 (pc := 73) X 1 [some (.ref v0), some (.int v1), some (.int v2), some (.int x7), some (.int t6)] dX10_leastAhead_73 (by decide) rfl (by decide) ex7 rfl ?_
        refine r_goto (pc := 76) X 2 dX10_leastAhead_76 (by decide) ?_
        obtain rfl := Option.some.inj hf
        exact hk _
      · rw [if_neg c11] at hf
        refine r_iload_n (pc := 63) X dX10_leastAhead_63 rfl ?_
        refine r_iload_n (pc := 64) X dX10_leastAhead_64 rfl ?_
        obtain ⟨x8, ex8, hf⟩ := ob hf
        refine r_callSI (pc := 65) X [.int s, .int v2] dX10_leastAhead_65 ml_X10_25 so_X10_isOpen ⟨Nat.le_refl _, Nat.le_refl _⟩ (ev_X10_isOpen (d := d - 1) (by omega) _ _ _ _ ex8) hd1 rfl (Nat.le_of_ble_eq_true rfl) rfl ?_
        refine r_if_eq (pc := 68) X 73 dX10_leastAhead_68 (by decide) (fun c10 => ?_) (fun c10 => ?_)
        · rw [if_pos c10] at hf
          obtain ⟨x9, ex9, hf⟩ := ob hf
          refine r_iinc2 (pc := 73) X 1 [some (.ref v0), some (.int v1), some (.int v2), some (.int x9), some (.int t6)] dX10_leastAhead_73 (by decide) rfl (by decide) ex9 rfl ?_
          refine r_goto (pc := 76) X 2 dX10_leastAhead_76 (by decide) ?_
          obtain rfl := Option.some.inj hf
          exact hk _
        · rw [if_neg c10] at hf
          refine r_iload_n (pc := 71) X dX10_leastAhead_71 rfl ?_
          obtain rfl := Option.some.inj hf
          exact r_iret (pc := 72) X dX10_leastAhead_72 hk
    refine r_icmp_ne (pc := 23) X 55 dX10_leastAhead_23 (by decide) (fun c20 => ?_) (fun c20 => ?_)
    · rw [if_neg c20] at et6
      refine r_iconst (pc := 55) X 0 dX10_leastAhead_55 (by decide) ?_
      obtain rfl := Option.some.inj et6
      exact Jt6
    · rw [if_pos c20] at et6
      refine r_aload_n (pc := 26) X dX10_leastAhead_26 rfl ?_
      obtain ⟨a12, ea12, et6⟩ := ob et6
      refine r_getR (pc := 27) X dX10_leastAhead_27 fl_X10_15 rfl ea12 ?_
      refine r_aload_n (pc := 30) X dX10_leastAhead_30 rfl ?_
      obtain ⟨a13, ea13, et6⟩ := ob et6
      refine r_getR (pc := 31) X dX10_leastAhead_31 fl_X10_9 rfl ea13 ?_
      obtain ⟨a14, ea14, et6⟩ := ob et6
      refine r_getR (pc := 34) X dX10_leastAhead_34 fl_X10_32 rfl ea14 ?_
      refine r_iload_n (pc := 37) X dX10_leastAhead_37 rfl ?_
      obtain ⟨x15, ex15, et6⟩ := ob et6
      refine r_iald (pc := 38) X dX10_leastAhead_38 ex15 ?_
      obtain ⟨x16, ex16, et6⟩ := ob et6
      refine r_iald (pc := 39) X dX10_leastAhead_39 ex16 ?_
      refine r_aload_n (pc := 40) X dX10_leastAhead_40 rfl ?_
      obtain ⟨a17, ea17, et6⟩ := ob et6
      refine r_getR (pc := 41) X dX10_leastAhead_41 fl_X10_15 rfl ea17 ?_
      refine r_iload_n (pc := 44) X dX10_leastAhead_44 rfl ?_
      obtain ⟨x18, ex18, et6⟩ := ob et6
      refine r_iald (pc := 45) X dX10_leastAhead_45 ex18 ?_
      refine r_iconst (pc := 46) X 1 dX10_leastAhead_46 (by decide) ?_
      refine r_isub (pc := 47) X dX10_leastAhead_47 ?_
      refine r_icmp_ne (pc := 48) X 55 dX10_leastAhead_48 (by decide) (fun c19 => ?_) (fun c19 => ?_)
      · rw [if_neg c19] at et6
        refine r_iconst (pc := 55) X 0 dX10_leastAhead_55 (by decide) ?_
        obtain rfl := Option.some.inj et6
        exact Jt6
      · rw [if_pos c19] at et6
        refine r_iconst (pc := 51) X 1 dX10_leastAhead_51 (by decide) ?_
        refine r_goto (pc := 52) X 56 dX10_leastAhead_52 (by decide) ?_
        obtain rfl := Option.some.inj et6
        exact Jt6
def fn_X10_leastAhead (h : aH) (p0 : Nat) (p1 : Int32) (p2 : Int32) : Option (Int32) :=
  (lp (lb_X10_leastAhead_2 h p0 p1 p2) lpN 0).bind fun o22 =>
  some o22
set_option maxRecDepth 20000 in
set_option maxHeartbeats 4000000 in
theorem ev_X10_leastAhead {l : Launch} {g : aG} {d : Nat} (hd : 1 ≤ d) (h : aH) (p0 : Nat) (p1 : Int32) (p2 : Int32) (o : Int32) (hf : fn_X10_leastAhead h p0 p1 p2 = some o) : EvM l g d yX10_leastAhead cX10_leastAhead 5 (some .int) [.ref p0, .int p1, .int p2] h (some (.int o), h) := by
  refine EvM.of mk_X10_leastAhead (Nat.le_of_ble_eq_true rfl) ?_
  intro Γ hl hg hq X
  have hd1 : 1 ≤ d := by omega
  have hk : RpI h Γ o := hq
  unfold fn_X10_leastAhead at hf
  show Jd Γ (0, 0) 0 [some (.ref p0), some (.int p1), some (.int p2), none, none] [] h
  refine r_iconst (pc := 0) X 0 dX10_leastAhead_0 (by decide) ?_
  refine r_istore_n (pc := 1) X [some (.ref p0), some (.int p1), some (.int p2), some (.int 0), none] dX10_leastAhead_1 (by decide) rfl ?_
  obtain ⟨o22, eo22, hf⟩ := ob hf
  refine (lw_X10_leastAhead_2 X hd _ _ _ _ lpN _ o22 eo22 ?_) _
  obtain rfl := Option.some.inj hf
  exact hk

theorem dX10_walk_0 : decode cX10_walk 0 = .ok (.iload_n 1, 1) := by decide +kernel
theorem dX10_walk_1 : decode cX10_walk 1 = .ok (.istore 4, 2) := by decide +kernel
theorem dX10_walk_3 : decode cX10_walk 3 = .ok (.iconst 0, 1) := by decide +kernel
theorem dX10_walk_4 : decode cX10_walk 4 = .ok (.istore 5, 2) := by decide +kernel
theorem dX10_walk_6 : decode cX10_walk 6 = .ok (.iload 5, 2) := by decide +kernel
theorem dX10_walk_8 : decode cX10_walk 8 = .ok (.bipush 6, 2) := by decide +kernel
theorem dX10_walk_10 : decode cX10_walk 10 = .ok (.if_icmp .ge 54, 3) := by decide +kernel
theorem dX10_walk_13 : decode cX10_walk 13 = .ok (.aload_n 0, 1) := by decide +kernel
theorem dX10_walk_14 : decode cX10_walk 14 = .ok (.getfield 15, 3) := by decide +kernel
theorem dX10_walk_17 : decode cX10_walk 17 = .ok (.iload 4, 2) := by decide +kernel
theorem dX10_walk_19 : decode cX10_walk 19 = .ok (.iaload, 1) := by decide +kernel
theorem dX10_walk_20 : decode cX10_walk 20 = .ok (.ifCond .le 44, 3) := by decide +kernel
theorem dX10_walk_23 : decode cX10_walk 23 = .ok (.aload_n 0, 1) := by decide +kernel
theorem dX10_walk_24 : decode cX10_walk 24 = .ok (.iload 4, 2) := by decide +kernel
theorem dX10_walk_26 : decode cX10_walk 26 = .ok (.iload_n 2, 1) := by decide +kernel
theorem dX10_walk_27 : decode cX10_walk 27 = .ok (.invokevirtual 35, 3) := by decide +kernel
theorem dX10_walk_30 : decode cX10_walk 30 = .ok (.istore 6, 2) := by decide +kernel
theorem dX10_walk_32 : decode cX10_walk 32 = .ok (.iload 6, 2) := by decide +kernel
theorem dX10_walk_34 : decode cX10_walk 34 = .ok (.iconst (-1), 1) := by decide +kernel
theorem dX10_walk_35 : decode cX10_walk 35 = .ok (.if_icmp .ne 4, 3) := by decide +kernel
theorem dX10_walk_38 : decode cX10_walk 38 = .ok (.return_, 1) := by decide +kernel
theorem dX10_walk_39 : decode cX10_walk 39 = .ok (.aload_n 3, 1) := by decide +kernel
theorem dX10_walk_40 : decode cX10_walk 40 = .ok (.iload 6, 2) := by decide +kernel
theorem dX10_walk_42 : decode cX10_walk 42 = .ok (.i2l, 1) := by decide +kernel
theorem dX10_walk_43 : decode cX10_walk 43 = .ok (.invokevirtual 39, 3) := by decide +kernel
theorem dX10_walk_46 : decode cX10_walk 46 = .ok (.aload_n 0, 1) := by decide +kernel
theorem dX10_walk_47 : decode cX10_walk 47 = .ok (.getfield 9, 3) := by decide +kernel
theorem dX10_walk_50 : decode cX10_walk 50 = .ok (.getfield 32, 3) := by decide +kernel
theorem dX10_walk_53 : decode cX10_walk 53 = .ok (.iload 6, 2) := by decide +kernel
theorem dX10_walk_55 : decode cX10_walk 55 = .ok (.iaload, 1) := by decide +kernel
theorem dX10_walk_56 : decode cX10_walk 56 = .ok (.istore 4, 2) := by decide +kernel
theorem dX10_walk_58 : decode cX10_walk 58 = .ok (.iinc 5 1, 3) := by decide +kernel
theorem dX10_walk_61 : decode cX10_walk 61 = .ok (.goto (-55), 3) := by decide +kernel
theorem dX10_walk_64 : decode cX10_walk 64 = .ok (.return_, 1) := by decide +kernel
def lb_X10_walk_6 (v0 : Nat) (v2 : Int32) (v3 : Nat) (s : Int32 × Int32 × aH) : Option ((Int32 × Int32 × aH) ⊕ ((aH))) :=
  if s.2.1 < 6 then
    (gR s.2.2 v0 9 1).bind fun a1 =>
    (aI s.2.2 a1 14 s.1).bind fun x2 =>
    if x2 ≤ 0 then
      some (.inr s.2.2)
    else
      (ck s.2.2 v0 9).bind fun u3 =>
      (fn_X10_leastAhead s.2.2 v0 s.1 v2).bind fun x4 =>
      if x4 = (-1) then
        some (.inr s.2.2)
      else
        (ck s.2.2 v3 2).bind fun u5 =>
        (fn_X3_add s.2.2 v3 (Int32.toInt64 x4)).bind fun h6 =>
        (gR h6 v0 9 0).bind fun a7 =>
        (gR h6 a7 0 4).bind fun a8 =>
        (aI h6 a8 14 x4).bind fun x9 =>
        (some (s.2.1 + 1)).bind fun x10 =>
        some (.inl (x9, x10, h6))
  else
    some (.inr s.2.2)
def hd_X10_walk_6 (Γ : aC) (v0 : Nat) (v2 : Int32) (v3 : Nat) (s : Int32 × Int32 × aH) : Prop := ∀ (j1 : Option Value) (j6 : Option Value), Jd Γ (0, 0) 6 [some (.ref v0), j1, some (.int v2), some (.ref v3), some (.int s.1), some (.int s.2.1), j6] [] s.2.2
def ex_X10_walk_6 (Γ : aC) (v0 : Nat) (v2 : Int32) (v3 : Nat) (r : (aH)) : Prop := (fun r => RqV Γ r) r
set_option maxRecDepth 20000 in
set_option maxHeartbeats 4000000 in
theorem lw_X10_walk_6 {Γ : aC} {d : Nat} (X : Cx Γ RX10 cX10_walk 7 none (d, 0, 0)) (hd : 2 ≤ d) (v0 : Nat) (v2 : Int32) (v3 : Nat) : ∀ n s o, lp (lb_X10_walk_6 v0 v2 v3) n s = some o → ex_X10_walk_6 Γ v0 v2 v3 o → hd_X10_walk_6 Γ v0 v2 v3 s := by
  have hd1 : 1 ≤ d := by omega
  refine J_lp _ _ _ ?_
  intro s o hf hk j1 j6
  unfold lb_X10_walk_6 at hf
  refine r_iload (pc := 6) X dX10_walk_6 rfl ?_
  refine r_bipush (pc := 8) X 6 dX10_walk_8 (by decide) ?_
  refine r_icmp_ge (pc := 10) X 64 dX10_walk_10 (by decide) (fun c13 => ?_) (fun c13 => ?_)
  · rw [if_neg c13] at hf
    obtain rfl := Option.some.inj hf
    exact r_vret (pc := 64) X dX10_walk_64 hk
  · rw [if_pos c13] at hf
    refine r_aload_n (pc := 13) X dX10_walk_13 rfl ?_
    obtain ⟨a1, ea1, hf⟩ := ob hf
    refine r_getR (pc := 14) X dX10_walk_14 fl_X10_15 rfl ea1 ?_
    refine r_iload (pc := 17) X dX10_walk_17 rfl ?_
    obtain ⟨x2, ex2, hf⟩ := ob hf
    refine r_iald (pc := 19) X dX10_walk_19 ex2 ?_
    refine r_if_le (pc := 20) X 64 dX10_walk_20 (by decide) (fun c12 => ?_) (fun c12 => ?_)
    · rw [if_pos c12] at hf
      obtain rfl := Option.some.inj hf
      exact r_vret (pc := 64) X dX10_walk_64 hk
    · rw [if_neg c12] at hf
      refine r_aload_n (pc := 23) X dX10_walk_23 rfl ?_
      refine r_iload (pc := 24) X dX10_walk_24 rfl ?_
      refine r_iload_n (pc := 26) X dX10_walk_26 rfl ?_
      obtain ⟨u3, eu3, hf⟩ := ob hf
      obtain ⟨x4, ex4, hf⟩ := ob hf
      refine r_callVI (pc := 27) X [.int s.1, .int v2] dX10_walk_27 ml_X10_35 vo_X10_leastAhead ⟨Nat.le_refl _, Nat.le_refl _⟩ eu3 (ev_X10_leastAhead (d := d - 1) (by omega) _ _ _ _ _ ex4) hd1 rfl (Nat.le_of_ble_eq_true rfl) rfl ?_
      refine r_istore (pc := 30) X [some (.ref v0), j1, some (.int v2), some (.ref v3), some (.int s.1), some (.int s.2.1), some (.int x4)] dX10_walk_30 (by decide) rfl ?_
      refine r_iload (pc := 32) X dX10_walk_32 rfl ?_
      refine r_iconst (pc := 34) X (-1) dX10_walk_34 (by decide) ?_
      refine r_icmp_ne (pc := 35) X 39 dX10_walk_35 (by decide) (fun c11 => ?_) (fun c11 => ?_)
      · rw [if_neg c11] at hf
        refine r_aload_n (pc := 39) X dX10_walk_39 rfl ?_
        refine r_iload (pc := 40) X dX10_walk_40 rfl ?_
        refine r_i2l (pc := 42) X dX10_walk_42 ?_
        obtain ⟨u5, eu5, hf⟩ := ob hf
        obtain ⟨h6, eh6, hf⟩ := ob hf
        refine r_callVV (pc := 43) X [.long (Int32.toInt64 x4)] dX10_walk_43 ml_X10_39 vo_X3_add ⟨Nat.le_refl _, Nat.le_refl _⟩ eu5 (ev_X3_add (d := d - 1) (by omega) _ _ _ _ eh6) hd1 rfl (Nat.le_of_ble_eq_true rfl) rfl ?_
        refine r_aload_n (pc := 46) X dX10_walk_46 rfl ?_
        obtain ⟨a7, ea7, hf⟩ := ob hf
        refine r_getR (pc := 47) X dX10_walk_47 fl_X10_9 rfl ea7 ?_
        obtain ⟨a8, ea8, hf⟩ := ob hf
        refine r_getR (pc := 50) X dX10_walk_50 fl_X10_32 rfl ea8 ?_
        refine r_iload (pc := 53) X dX10_walk_53 rfl ?_
        obtain ⟨x9, ex9, hf⟩ := ob hf
        refine r_iald (pc := 55) X dX10_walk_55 ex9 ?_
        refine r_istore (pc := 56) X [some (.ref v0), j1, some (.int v2), some (.ref v3), some (.int x9), some (.int s.2.1), some (.int x4)] dX10_walk_56 (by decide) rfl ?_
        obtain ⟨x10, ex10, hf⟩ := ob hf
        refine r_iinc2 (pc := 58) X 1 [some (.ref v0), j1, some (.int v2), some (.ref v3), some (.int x9), some (.int x10), some (.int x4)] dX10_walk_58 (by decide) rfl (by decide) ex10 rfl ?_
        refine r_goto (pc := 61) X 6 dX10_walk_61 (by decide) ?_
        obtain rfl := Option.some.inj hf
        exact hk _ _
      · rw [if_pos c11] at hf
        obtain rfl := Option.some.inj hf
        exact r_vret (pc := 38) X dX10_walk_38 hk
def fn_X10_walk (h : aH) (p0 : Nat) (p1 : Int32) (p2 : Int32) (p3 : Nat) : Option (aH) :=
  (lp (lb_X10_walk_6 p0 p2 p3) lpN (p1, 0, h)).bind fun o14 =>
  some o14
set_option maxRecDepth 20000 in
set_option maxHeartbeats 4000000 in
theorem ev_X10_walk {l : Launch} {g : aG} {d : Nat} (hd : 2 ≤ d) (h : aH) (p0 : Nat) (p1 : Int32) (p2 : Int32) (p3 : Nat) (o : aH) (hf : fn_X10_walk h p0 p1 p2 p3 = some o) : EvM l g d yX10_walk cX10_walk 7 none [.ref p0, .int p1, .int p2, .ref p3] h (none, o) := by
  refine EvM.of mk_X10_walk (Nat.le_of_ble_eq_true rfl) ?_
  intro Γ hl hg hq X
  have hd1 : 1 ≤ d := by omega
  have hk : RqV Γ o := hq
  unfold fn_X10_walk at hf
  show Jd Γ (0, 0) 0 [some (.ref p0), some (.int p1), some (.int p2), some (.ref p3), none, none, none] [] h
  refine r_iload_n (pc := 0) X dX10_walk_0 rfl ?_
  refine r_istore (pc := 1) X [some (.ref p0), some (.int p1), some (.int p2), some (.ref p3), some (.int p1), none, none] dX10_walk_1 (by decide) rfl ?_
  refine r_iconst (pc := 3) X 0 dX10_walk_3 (by decide) ?_
  refine r_istore (pc := 4) X [some (.ref p0), some (.int p1), some (.int p2), some (.ref p3), some (.int p1), some (.int 0), none] dX10_walk_4 (by decide) rfl ?_
  obtain ⟨o14, eo14, hf⟩ := ob hf
  refine (lw_X10_walk_6 X hd _ _ _ lpN _ o14 eo14 ?_) _ _
  obtain rfl := Option.some.inj hf
  exact hk

theorem dX10_leastCut_0 : decode cX10_leastCut 0 = .ok (.iconst 1, 1) := by decide +kernel
theorem dX10_leastCut_1 : decode cX10_leastCut 1 = .ok (.aload_n 0, 1) := by decide +kernel
theorem dX10_leastCut_2 : decode cX10_leastCut 2 = .ok (.getfield 9, 3) := by decide +kernel
theorem dX10_leastCut_5 : decode cX10_leastCut 5 = .ok (.getfield 19, 3) := by decide +kernel
theorem dX10_leastCut_8 : decode cX10_leastCut 8 = .ok (.ishl, 1) := by decide +kernel
theorem dX10_leastCut_9 : decode cX10_leastCut 9 = .ok (.iconst 1, 1) := by decide +kernel
theorem dX10_leastCut_10 : decode cX10_leastCut 10 = .ok (.isub, 1) := by decide +kernel
theorem dX10_leastCut_11 : decode cX10_leastCut 11 = .ok (.iload_n 3, 1) := by decide +kernel
theorem dX10_leastCut_12 : decode cX10_leastCut 12 = .ok (.iconst (-1), 1) := by decide +kernel
theorem dX10_leastCut_13 : decode cX10_leastCut 13 = .ok (.ixor, 1) := by decide +kernel
theorem dX10_leastCut_14 : decode cX10_leastCut 14 = .ok (.iand, 1) := by decide +kernel
theorem dX10_leastCut_15 : decode cX10_leastCut 15 = .ok (.istore 4, 2) := by decide +kernel
theorem dX10_leastCut_17 : decode cX10_leastCut 17 = .ok (.iconst 0, 1) := by decide +kernel
theorem dX10_leastCut_18 : decode cX10_leastCut 18 = .ok (.istore 5, 2) := by decide +kernel
theorem dX10_leastCut_20 : decode cX10_leastCut 20 = .ok (.iload 5, 2) := by decide +kernel
theorem dX10_leastCut_22 : decode cX10_leastCut 22 = .ok (.iconst 1, 1) := by decide +kernel
theorem dX10_leastCut_23 : decode cX10_leastCut 23 = .ok (.aload_n 0, 1) := by decide +kernel
theorem dX10_leastCut_24 : decode cX10_leastCut 24 = .ok (.getfield 9, 3) := by decide +kernel
theorem dX10_leastCut_27 : decode cX10_leastCut 27 = .ok (.getfield 19, 3) := by decide +kernel
theorem dX10_leastCut_30 : decode cX10_leastCut 30 = .ok (.ishl, 1) := by decide +kernel
theorem dX10_leastCut_31 : decode cX10_leastCut 31 = .ok (.if_icmp .ge 78, 3) := by decide +kernel
theorem dX10_leastCut_34 : decode cX10_leastCut 34 = .ok (.iload 5, 2) := by decide +kernel
theorem dX10_leastCut_36 : decode cX10_leastCut 36 = .ok (.invokestatic 45, 3) := by decide +kernel
theorem dX10_leastCut_39 : decode cX10_leastCut 39 = .ok (.iload 4, 2) := by decide +kernel
theorem dX10_leastCut_41 : decode cX10_leastCut 41 = .ok (.invokestatic 45, 3) := by decide +kernel
theorem dX10_leastCut_44 : decode cX10_leastCut 44 = .ok (.if_icmp .ge 7, 3) := by decide +kernel
theorem dX10_leastCut_47 : decode cX10_leastCut 47 = .ok (.iconst 1, 1) := by decide +kernel
theorem dX10_leastCut_48 : decode cX10_leastCut 48 = .ok (.goto 4, 3) := by decide +kernel
theorem dX10_leastCut_51 : decode cX10_leastCut 51 = .ok (.iconst 0, 1) := by decide +kernel
theorem dX10_leastCut_52 : decode cX10_leastCut 52 = .ok (.istore 6, 2) := by decide +kernel
theorem dX10_leastCut_54 : decode cX10_leastCut 54 = .ok (.iload 6, 2) := by decide +kernel
theorem dX10_leastCut_56 : decode cX10_leastCut 56 = .ok (.ifCond .eq 47, 3) := by decide +kernel
theorem dX10_leastCut_59 : decode cX10_leastCut 59 = .ok (.iload 5, 2) := by decide +kernel
theorem dX10_leastCut_61 : decode cX10_leastCut 61 = .ok (.iload_n 3, 1) := by decide +kernel
theorem dX10_leastCut_62 : decode cX10_leastCut 62 = .ok (.iand, 1) := by decide +kernel
theorem dX10_leastCut_63 : decode cX10_leastCut 63 = .ok (.ifCond .ne 40, 3) := by decide +kernel
theorem dX10_leastCut_66 : decode cX10_leastCut 66 = .ok (.aload_n 0, 1) := by decide +kernel
theorem dX10_leastCut_67 : decode cX10_leastCut 67 = .ok (.iload_n 1, 1) := by decide +kernel
theorem dX10_leastCut_68 : decode cX10_leastCut 68 = .ok (.iload_n 3, 1) := by decide +kernel
theorem dX10_leastCut_69 : decode cX10_leastCut 69 = .ok (.iload 5, 2) := by decide +kernel
theorem dX10_leastCut_71 : decode cX10_leastCut 71 = .ok (.ior, 1) := by decide +kernel
theorem dX10_leastCut_72 : decode cX10_leastCut 72 = .ok (.invokevirtual 51, 3) := by decide +kernel
theorem dX10_leastCut_75 : decode cX10_leastCut 75 = .ok (.iload_n 2, 1) := by decide +kernel
theorem dX10_leastCut_76 : decode cX10_leastCut 76 = .ok (.ishr, 1) := by decide +kernel
theorem dX10_leastCut_77 : decode cX10_leastCut 77 = .ok (.iconst 1, 1) := by decide +kernel
theorem dX10_leastCut_78 : decode cX10_leastCut 78 = .ok (.iand, 1) := by decide +kernel
theorem dX10_leastCut_79 : decode cX10_leastCut 79 = .ok (.ifCond .ne 7, 3) := by decide +kernel
theorem dX10_leastCut_82 : decode cX10_leastCut 82 = .ok (.iconst 1, 1) := by decide +kernel
theorem dX10_leastCut_83 : decode cX10_leastCut 83 = .ok (.goto 4, 3) := by decide +kernel
theorem dX10_leastCut_86 : decode cX10_leastCut 86 = .ok (.iconst 0, 1) := by decide +kernel
theorem dX10_leastCut_87 : decode cX10_leastCut 87 = .ok (.istore 7, 2) := by decide +kernel
theorem dX10_leastCut_89 : decode cX10_leastCut 89 = .ok (.iload 7, 2) := by decide +kernel
theorem dX10_leastCut_91 : decode cX10_leastCut 91 = .ok (.ifCond .eq 8, 3) := by decide +kernel
theorem dX10_leastCut_94 : decode cX10_leastCut 94 = .ok (.iload 5, 2) := by decide +kernel
theorem dX10_leastCut_96 : decode cX10_leastCut 96 = .ok (.goto 5, 3) := by decide +kernel
theorem dX10_leastCut_99 : decode cX10_leastCut 99 = .ok (.iload 4, 2) := by decide +kernel
theorem dX10_leastCut_101 : decode cX10_leastCut 101 = .ok (.istore 4, 2) := by decide +kernel
theorem dX10_leastCut_103 : decode cX10_leastCut 103 = .ok (.iinc 5 1, 3) := by decide +kernel
theorem dX10_leastCut_106 : decode cX10_leastCut 106 = .ok (.goto (-86), 3) := by decide +kernel
theorem dX10_leastCut_109 : decode cX10_leastCut 109 = .ok (.iload 4, 2) := by decide +kernel
theorem dX10_leastCut_111 : decode cX10_leastCut 111 = .ok (.ireturn, 1) := by decide +kernel
def lb_X10_leastCut_20 (hh : aH) (v0 : Nat) (v1 : Int32) (v2 : Int32) (v3 : Int32) (s : Int32 × Int32) : Option ((Int32 × Int32) ⊕ ((Int32))) :=
  (gR hh v0 9 0).bind fun a4 =>
  (gI hh a4 0 1).bind fun x5 =>
  if s.2 < (1 <<< (x5 &&& 31)) then
    (fn_J6_bitCount_0f7a4 hh s.2).bind fun x6 =>
    (fn_J6_bitCount_0f7a4 hh s.1).bind fun x7 =>
    ((
      if x6 < x7 then
        some 1
      else
        some 0
    ) : Option (Int32)).bind fun t8 =>
    if t8 = 0 then
      (some (s.2 + 1)).bind fun x9 =>
      some (.inl (s.1, x9))
    else
      if (s.2 &&& v3) = 0 then
        (ck hh v0 9).bind fun u11 =>
        (fn_X10_reached hh v0 v1 (v3 ||| s.2)).bind fun x12 =>
        ((
          if ((x12 >>> (v2 &&& 31)) &&& 1) = 0 then
            some 1
          else
            some 0
        ) : Option (Int32)).bind fun t13 =>
        if t13 = 0 then
          (some (s.2 + 1)).bind fun x14 =>
          some (.inl (s.1, x14))
        else
          (some (s.2 + 1)).bind fun x15 =>
          some (.inl (s.2, x15))
      else
        (some (s.2 + 1)).bind fun x10 =>
        some (.inl (s.1, x10))
  else
    some (.inr s.1)
def hd_X10_leastCut_20 (Γ : aC) (hh : aH) (v0 : Nat) (v1 : Int32) (v2 : Int32) (v3 : Int32) (s : Int32 × Int32) : Prop := ∀ (j6 : Option Value) (j7 : Option Value), Jd Γ (0, 0) 20 [some (.ref v0), some (.int v1), some (.int v2), some (.int v3), some (.int s.1), some (.int s.2), j6, j7] [] hh
def ex_X10_leastCut_20 (Γ : aC) (hh : aH) (v0 : Nat) (v1 : Int32) (v2 : Int32) (v3 : Int32) (r : (Int32)) : Prop := (fun r => RpI hh Γ r) r
set_option maxRecDepth 20000 in
set_option maxHeartbeats 4000000 in
theorem lw_X10_leastCut_20 {Γ : aC} {d : Nat} (X : Cx Γ RX10 cX10_leastCut 8 (some .int) (d, 0, 0)) (hd : 2 ≤ d) (hh : aH) (v0 : Nat) (v1 : Int32) (v2 : Int32) (v3 : Int32) : ∀ n s o, lp (lb_X10_leastCut_20 hh v0 v1 v2 v3) n s = some o → ex_X10_leastCut_20 Γ hh v0 v1 v2 v3 o → hd_X10_leastCut_20 Γ hh v0 v1 v2 v3 s := by
  have hd1 : 1 ≤ d := by omega
  refine J_lp _ _ _ ?_
  intro s o hf hk j6 j7
  unfold lb_X10_leastCut_20 at hf
  refine r_iload (pc := 20) X dX10_leastCut_20 rfl ?_
  refine r_iconst (pc := 22) X 1 dX10_leastCut_22 (by decide) ?_
  refine r_aload_n (pc := 23) X dX10_leastCut_23 rfl ?_
  obtain ⟨a4, ea4, hf⟩ := ob hf
  refine r_getR (pc := 24) X dX10_leastCut_24 fl_X10_9 rfl ea4 ?_
  obtain ⟨x5, ex5, hf⟩ := ob hf
  refine r_getI (pc := 27) X dX10_leastCut_27 fl_X10_19 rfl ex5 ?_
  refine r_ishl (pc := 30) X dX10_leastCut_30 ?_
  refine r_icmp_ge (pc := 31) X 109 dX10_leastCut_31 (by decide) (fun c21 => ?_) (fun c21 => ?_)
  · rw [if_neg c21] at hf
    refine r_iload (pc := 109) X dX10_leastCut_109 rfl ?_
    obtain rfl := Option.some.inj hf
    exact r_iret (pc := 111) X dX10_leastCut_111 hk
  · rw [if_pos c21] at hf
    refine r_iload (pc := 34) X dX10_leastCut_34 rfl ?_
    obtain ⟨x6, ex6, hf⟩ := ob hf
    refine r_callSI (pc := 36) X [.int s.2] dX10_leastCut_36 ml_X10_45 so_J6_bitCount_0f7a4 ⟨Nat.le_refl _, Nat.le_refl _⟩ (ev_J6_bitCount_0f7a4 (d := d - 1) (by omega) _ _ _ ex6) hd1 rfl (Nat.le_of_ble_eq_true rfl) rfl ?_
    refine r_iload (pc := 39) X dX10_leastCut_39 rfl ?_
    obtain ⟨x7, ex7, hf⟩ := ob hf
    refine r_callSI (pc := 41) X [.int s.1] dX10_leastCut_41 ml_X10_45 so_J6_bitCount_0f7a4 ⟨Nat.le_refl _, Nat.le_refl _⟩ (ev_J6_bitCount_0f7a4 (d := d - 1) (by omega) _ _ _ ex7) hd1 rfl (Nat.le_of_ble_eq_true rfl) rfl ?_
    obtain ⟨t8, et8, hf⟩ := ob hf
    have Jt8 : Jd Γ (0, 0) 52 [some (.ref v0), some (.int v1), some (.int v2), some (.int v3), some (.int s.1), some (.int s.2), j6, j7] [.int t8] hh := by
      refine r_istore (pc := 52) X [some (.ref v0), some (.int v1), some (.int v2), some (.int v3), some (.int s.1), some (.int s.2), some (.int t8), j7] dX10_leastCut_52 (by decide) rfl ?_
      refine r_iload (pc := 54) X dX10_leastCut_54 rfl ?_
      refine r_if_eq (pc := 56) X 103 dX10_leastCut_56 (by decide) (fun c19 => ?_) (fun c19 => ?_)
      · rw [if_pos c19] at hf
        obtain ⟨x9, ex9, hf⟩ := ob hf
        refine r_iinc2 (pc := 103) X 1 [some (.ref v0), some (.int v1), some (.int v2), some (.int v3), some (.int s.1), some (.int x9), some (.int t8), j7] dX10_leastCut_103 (by decide) rfl (by decide) ex9 rfl ?_
        refine r_goto (pc := 106) X 20 dX10_leastCut_106 (by decide) ?_
        obtain rfl := Option.some.inj hf
        exact hk _ _
      · rw [if_neg c19] at hf
        refine r_iload (pc := 59) X dX10_leastCut_59 rfl ?_
        refine r_iload_n (pc := 61) X dX10_leastCut_61 rfl ?_
        refine r_iand (pc := 62) X dX10_leastCut_62 ?_
        refine r_if_ne (pc := 63) X 103 dX10_leastCut_63 (by decide) (fun c18 => ?_) (fun c18 => ?_)
        · rw [if_neg c18] at hf
          obtain ⟨x10, ex10, hf⟩ := ob hf
          refine r_iinc2 (pc := 103) X 1 [some (.ref v0), some (.int v1), some (.int v2), some (.int v3), some (.int s.1), some (.int x10), some (.int t8), j7] dX10_leastCut_103 (by decide) rfl (by decide) ex10 rfl ?_
          refine r_goto (pc := 106) X 20 dX10_leastCut_106 (by decide) ?_
          obtain rfl := Option.some.inj hf
          exact hk _ _
        · rw [if_pos c18] at hf
          refine r_aload_n (pc := 66) X dX10_leastCut_66 rfl ?_
          refine r_iload_n (pc := 67) X dX10_leastCut_67 rfl ?_
          refine r_iload_n (pc := 68) X dX10_leastCut_68 rfl ?_
          refine r_iload (pc := 69) X dX10_leastCut_69 rfl ?_
          refine r_ior (pc := 71) X dX10_leastCut_71 ?_
          obtain ⟨u11, eu11, hf⟩ := ob hf
          obtain ⟨x12, ex12, hf⟩ := ob hf
          refine r_callVI (pc := 72) X [.int v1, .int (v3 ||| s.2)] dX10_leastCut_72 ml_X10_51 vo_X10_reached ⟨Nat.le_refl _, Nat.le_refl _⟩ eu11 (ev_X10_reached (d := d - 1) (by omega) _ _ _ _ _ ex12) hd1 rfl (Nat.le_of_ble_eq_true rfl) rfl ?_
          refine r_iload_n (pc := 75) X dX10_leastCut_75 rfl ?_
          refine r_ishr (pc := 76) X dX10_leastCut_76 ?_
          refine r_iconst (pc := 77) X 1 dX10_leastCut_77 (by decide) ?_
          refine r_iand (pc := 78) X dX10_leastCut_78 ?_
          obtain ⟨t13, et13, hf⟩ := ob hf
          have Jt13 : Jd Γ (0, 0) 87 [some (.ref v0), some (.int v1), some (.int v2), some (.int v3), some (.int s.1), some (.int s.2), some (.int t8), j7] [.int t13] hh := by
            refine r_istore (pc := 87) X [some (.ref v0), some (.int v1), some (.int v2), some (.int v3), some (.int s.1), some (.int s.2), some (.int t8), some (.int t13)] dX10_leastCut_87 (by decide) rfl ?_
            refine r_iload (pc := 89) X dX10_leastCut_89 rfl ?_
            refine r_if_eq (pc := 91) X 99 dX10_leastCut_91 (by decide) (fun c16 => ?_) (fun c16 => ?_)
            · rw [if_pos c16] at hf
              refine r_iload (pc := 99) X dX10_leastCut_99 rfl ?_
              refine r_istore (pc := 101) X [some (.ref v0), some (.int v1), some (.int v2), some (.int v3), some (.int s.1), some (.int s.2), some (.int t8), some (.int t13)] dX10_leastCut_101 (by decide) rfl ?_
              obtain ⟨x14, ex14, hf⟩ := ob hf
              refine r_iinc2 (pc := 103) X 1 [some (.ref v0), some (.int v1), some (.int v2), some (.int v3), some (.int s.1), some (.int x14), some (.int t8), some (.int t13)] dX10_leastCut_103 (by decide) rfl (by decide) ex14 rfl ?_
              refine r_goto (pc := 106) X 20 dX10_leastCut_106 (by decide) ?_
              obtain rfl := Option.some.inj hf
              exact hk _ _
            · rw [if_neg c16] at hf
              refine r_iload (pc := 94) X dX10_leastCut_94 rfl ?_
              refine r_goto (pc := 96) X 101 dX10_leastCut_96 (by decide) ?_
              refine r_istore (pc := 101) X [some (.ref v0), some (.int v1), some (.int v2), some (.int v3), some (.int s.2), some (.int s.2), some (.int t8), some (.int t13)] dX10_leastCut_101 (by decide) rfl ?_
              obtain ⟨x15, ex15, hf⟩ := ob hf
              refine r_iinc2 (pc := 103) X 1 [some (.ref v0), some (.int v1), some (.int v2), some (.int v3), some (.int s.2), some (.int x15), some (.int t8), some (.int t13)] dX10_leastCut_103 (by decide) rfl (by decide) ex15 rfl ?_
              refine r_goto (pc := 106) X 20 dX10_leastCut_106 (by decide) ?_
              obtain rfl := Option.some.inj hf
              exact hk _ _
          refine r_if_ne (pc := 79) X 86 dX10_leastCut_79 (by decide) (fun c17 => ?_) (fun c17 => ?_)
          · rw [if_neg c17] at et13
            refine r_iconst (pc := 86) X 0 dX10_leastCut_86 (by decide) ?_
            obtain rfl := Option.some.inj et13
            exact Jt13
          · rw [if_pos c17] at et13
            refine r_iconst (pc := 82) X 1 dX10_leastCut_82 (by decide) ?_
            refine r_goto (pc := 83) X 87 dX10_leastCut_83 (by decide) ?_
            obtain rfl := Option.some.inj et13
            exact Jt13
    refine r_icmp_ge (pc := 44) X 51 dX10_leastCut_44 (by decide) (fun c20 => ?_) (fun c20 => ?_)
    · rw [if_neg c20] at et8
      refine r_iconst (pc := 51) X 0 dX10_leastCut_51 (by decide) ?_
      obtain rfl := Option.some.inj et8
      exact Jt8
    · rw [if_pos c20] at et8
      refine r_iconst (pc := 47) X 1 dX10_leastCut_47 (by decide) ?_
      refine r_goto (pc := 48) X 52 dX10_leastCut_48 (by decide) ?_
      obtain rfl := Option.some.inj et8
      exact Jt8
def fn_X10_leastCut (h : aH) (p0 : Nat) (p1 : Int32) (p2 : Int32) (p3 : Int32) : Option (Int32) :=
  (gR h p0 9 0).bind fun a1 =>
  (gI h a1 0 1).bind fun x2 =>
  (some (((1 <<< (x2 &&& 31)) - 1) &&& (p3 ^^^ (-1)))).bind fun x3 =>
  (lp (lb_X10_leastCut_20 h p0 p1 p2 p3) lpN (x3, 0)).bind fun o22 =>
  some o22
set_option maxRecDepth 20000 in
set_option maxHeartbeats 4000000 in
theorem ev_X10_leastCut {l : Launch} {g : aG} {d : Nat} (hd : 2 ≤ d) (h : aH) (p0 : Nat) (p1 : Int32) (p2 : Int32) (p3 : Int32) (o : Int32) (hf : fn_X10_leastCut h p0 p1 p2 p3 = some o) : EvM l g d yX10_leastCut cX10_leastCut 8 (some .int) [.ref p0, .int p1, .int p2, .int p3] h (some (.int o), h) := by
  refine EvM.of mk_X10_leastCut (Nat.le_of_ble_eq_true rfl) ?_
  intro Γ hl hg hq X
  have hd1 : 1 ≤ d := by omega
  have hk : RpI h Γ o := hq
  unfold fn_X10_leastCut at hf
  show Jd Γ (0, 0) 0 [some (.ref p0), some (.int p1), some (.int p2), some (.int p3), none, none, none, none] [] h
  refine r_iconst (pc := 0) X 1 dX10_leastCut_0 (by decide) ?_
  refine r_aload_n (pc := 1) X dX10_leastCut_1 rfl ?_
  obtain ⟨a1, ea1, hf⟩ := ob hf
  refine r_getR (pc := 2) X dX10_leastCut_2 fl_X10_9 rfl ea1 ?_
  obtain ⟨x2, ex2, hf⟩ := ob hf
  refine r_getI (pc := 5) X dX10_leastCut_5 fl_X10_19 rfl ex2 ?_
  refine r_ishl (pc := 8) X dX10_leastCut_8 ?_
  refine r_iconst (pc := 9) X 1 dX10_leastCut_9 (by decide) ?_
  refine r_isub (pc := 10) X dX10_leastCut_10 ?_
  refine r_iload_n (pc := 11) X dX10_leastCut_11 rfl ?_
  refine r_iconst (pc := 12) X (-1) dX10_leastCut_12 (by decide) ?_
  refine r_ixor (pc := 13) X dX10_leastCut_13 ?_
  refine r_iand (pc := 14) X dX10_leastCut_14 ?_
  obtain ⟨x3, ex3, hf⟩ := ob hf
  refine r_nmI ex3 ?_
  refine r_istore (pc := 15) X [some (.ref p0), some (.int p1), some (.int p2), some (.int p3), some (.int x3), none, none, none] dX10_leastCut_15 (by decide) rfl ?_
  refine r_iconst (pc := 17) X 0 dX10_leastCut_17 (by decide) ?_
  refine r_istore (pc := 18) X [some (.ref p0), some (.int p1), some (.int p2), some (.int p3), some (.int x3), some (.int 0), none, none] dX10_leastCut_18 (by decide) rfl ?_
  obtain ⟨o22, eo22, hf⟩ := ob hf
  refine (lw_X10_leastCut_20 X hd _ _ _ _ _ lpN _ o22 eo22 ?_) _ _
  obtain rfl := Option.some.inj hf
  exact hk

theorem dX10_ringLength_0 : decode cX10_ringLength 0 = .ok (.iload_n 1, 1) := by decide +kernel
theorem dX10_ringLength_1 : decode cX10_ringLength 1 = .ok (.iload_n 2, 1) := by decide +kernel
theorem dX10_ringLength_2 : decode cX10_ringLength 2 = .ok (.invokestatic 25, 3) := by decide +kernel
theorem dX10_ringLength_5 : decode cX10_ringLength 5 = .ok (.ifCond .ne 7, 3) := by decide +kernel
theorem dX10_ringLength_8 : decode cX10_ringLength 8 = .ok (.sipush 1000, 3) := by decide +kernel
theorem dX10_ringLength_11 : decode cX10_ringLength 11 = .ok (.ireturn, 1) := by decide +kernel
theorem dX10_ringLength_12 : decode cX10_ringLength 12 = .ok (.aload_n 0, 1) := by decide +kernel
theorem dX10_ringLength_13 : decode cX10_ringLength 13 = .ok (.aload_n 0, 1) := by decide +kernel
theorem dX10_ringLength_14 : decode cX10_ringLength 14 = .ok (.getfield 9, 3) := by decide +kernel
theorem dX10_ringLength_17 : decode cX10_ringLength 17 = .ok (.getfield 29, 3) := by decide +kernel
theorem dX10_ringLength_20 : decode cX10_ringLength 20 = .ok (.iload_n 1, 1) := by decide +kernel
theorem dX10_ringLength_21 : decode cX10_ringLength 21 = .ok (.iaload, 1) := by decide +kernel
theorem dX10_ringLength_22 : decode cX10_ringLength 22 = .ok (.iload_n 2, 1) := by decide +kernel
theorem dX10_ringLength_23 : decode cX10_ringLength 23 = .ok (.invokevirtual 54, 3) := by decide +kernel
theorem dX10_ringLength_26 : decode cX10_ringLength 26 = .ok (.aload_n 0, 1) := by decide +kernel
theorem dX10_ringLength_27 : decode cX10_ringLength 27 = .ok (.getfield 15, 3) := by decide +kernel
theorem dX10_ringLength_30 : decode cX10_ringLength 30 = .ok (.aload_n 0, 1) := by decide +kernel
theorem dX10_ringLength_31 : decode cX10_ringLength 31 = .ok (.getfield 9, 3) := by decide +kernel
theorem dX10_ringLength_34 : decode cX10_ringLength 34 = .ok (.getfield 32, 3) := by decide +kernel
theorem dX10_ringLength_37 : decode cX10_ringLength 37 = .ok (.iload_n 1, 1) := by decide +kernel
theorem dX10_ringLength_38 : decode cX10_ringLength 38 = .ok (.iaload, 1) := by decide +kernel
theorem dX10_ringLength_39 : decode cX10_ringLength 39 = .ok (.iaload, 1) := by decide +kernel
theorem dX10_ringLength_40 : decode cX10_ringLength 40 = .ok (.iconst 1, 1) := by decide +kernel
theorem dX10_ringLength_41 : decode cX10_ringLength 41 = .ok (.iadd, 1) := by decide +kernel
theorem dX10_ringLength_42 : decode cX10_ringLength 42 = .ok (.ireturn, 1) := by decide +kernel
def fn_X10_ringLength (h : aH) (p0 : Nat) (p1 : Int32) (p2 : Int32) : Option (Int32 × aH) :=
  (fn_X10_isOpen h p1 p2).bind fun x1 =>
  if x1 = 0 then
    some (1000, h)
  else
    (gR h p0 9 0).bind fun a2 =>
    (gR h a2 0 3).bind fun a3 =>
    (aI h a3 14 p1).bind fun x4 =>
    (ck h p0 9).bind fun u5 =>
    (fn_X10_measure h p0 x4 p2).bind fun h6 =>
    (gR h6 p0 9 1).bind fun a7 =>
    (gR h6 p0 9 0).bind fun a8 =>
    (gR h6 a8 0 4).bind fun a9 =>
    (aI h6 a9 14 p1).bind fun x10 =>
    (aI h6 a7 14 x10).bind fun x11 =>
    some ((x11 + 1), h6)
set_option maxRecDepth 20000 in
set_option maxHeartbeats 4000000 in
theorem ev_X10_ringLength {l : Launch} {g : aG} {d : Nat} (hd : 2 ≤ d) (h : aH) (p0 : Nat) (p1 : Int32) (p2 : Int32) (o : Int32 × aH) (hf : fn_X10_ringLength h p0 p1 p2 = some o) : EvM l g d yX10_ringLength cX10_ringLength 3 (some .int) [.ref p0, .int p1, .int p2] h (some (.int o.1), o.2) := by
  refine EvM.of mk_X10_ringLength (Nat.le_of_ble_eq_true rfl) ?_
  intro Γ hl hg hq X
  have hd1 : 1 ≤ d := by omega
  have hk : RqI Γ o := hq
  unfold fn_X10_ringLength at hf
  show Jd Γ (0, 0) 0 [some (.ref p0), some (.int p1), some (.int p2)] [] h
  refine r_iload_n (pc := 0) X dX10_ringLength_0 rfl ?_
  refine r_iload_n (pc := 1) X dX10_ringLength_1 rfl ?_
  obtain ⟨x1, ex1, hf⟩ := ob hf
  refine r_callSI (pc := 2) X [.int p1, .int p2] dX10_ringLength_2 ml_X10_25 so_X10_isOpen ⟨Nat.le_refl _, Nat.le_refl _⟩ (ev_X10_isOpen (d := d - 1) (by omega) _ _ _ _ ex1) hd1 rfl (Nat.le_of_ble_eq_true rfl) rfl ?_
  refine r_if_ne (pc := 5) X 12 dX10_ringLength_5 (by decide) (fun c12 => ?_) (fun c12 => ?_)
  · rw [if_neg c12] at hf
    refine r_aload_n (pc := 12) X dX10_ringLength_12 rfl ?_
    refine r_aload_n (pc := 13) X dX10_ringLength_13 rfl ?_
    obtain ⟨a2, ea2, hf⟩ := ob hf
    refine r_getR (pc := 14) X dX10_ringLength_14 fl_X10_9 rfl ea2 ?_
    obtain ⟨a3, ea3, hf⟩ := ob hf
    refine r_getR (pc := 17) X dX10_ringLength_17 fl_X10_29 rfl ea3 ?_
    refine r_iload_n (pc := 20) X dX10_ringLength_20 rfl ?_
    obtain ⟨x4, ex4, hf⟩ := ob hf
    refine r_iald (pc := 21) X dX10_ringLength_21 ex4 ?_
    refine r_iload_n (pc := 22) X dX10_ringLength_22 rfl ?_
    obtain ⟨u5, eu5, hf⟩ := ob hf
    obtain ⟨h6, eh6, hf⟩ := ob hf
    refine r_callVV (pc := 23) X [.int x4, .int p2] dX10_ringLength_23 ml_X10_54 vo_X10_measure ⟨Nat.le_refl _, Nat.le_refl _⟩ eu5 (ev_X10_measure (d := d - 1) (by omega) _ _ _ _ _ eh6) hd1 rfl (Nat.le_of_ble_eq_true rfl) rfl ?_
    refine r_aload_n (pc := 26) X dX10_ringLength_26 rfl ?_
    obtain ⟨a7, ea7, hf⟩ := ob hf
    refine r_getR (pc := 27) X dX10_ringLength_27 fl_X10_15 rfl ea7 ?_
    refine r_aload_n (pc := 30) X dX10_ringLength_30 rfl ?_
    obtain ⟨a8, ea8, hf⟩ := ob hf
    refine r_getR (pc := 31) X dX10_ringLength_31 fl_X10_9 rfl ea8 ?_
    obtain ⟨a9, ea9, hf⟩ := ob hf
    refine r_getR (pc := 34) X dX10_ringLength_34 fl_X10_32 rfl ea9 ?_
    refine r_iload_n (pc := 37) X dX10_ringLength_37 rfl ?_
    obtain ⟨x10, ex10, hf⟩ := ob hf
    refine r_iald (pc := 38) X dX10_ringLength_38 ex10 ?_
    obtain ⟨x11, ex11, hf⟩ := ob hf
    refine r_iald (pc := 39) X dX10_ringLength_39 ex11 ?_
    refine r_iconst (pc := 40) X 1 dX10_ringLength_40 (by decide) ?_
    refine r_iadd (pc := 41) X dX10_ringLength_41 ?_
    obtain rfl := Option.some.inj hf
    exact r_iret (pc := 42) X dX10_ringLength_42 hk
  · rw [if_pos c12] at hf
    refine r_sipush (pc := 8) X 1000 dX10_ringLength_8 (by decide) ?_
    obtain rfl := Option.some.inj hf
    exact r_iret (pc := 11) X dX10_ringLength_11 hk
