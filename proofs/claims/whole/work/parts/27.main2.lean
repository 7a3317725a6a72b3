theorem dX11_signsOfAct_0 : decode cX11_signsOfAct 0 = .ok (.iload_n 0, 1) := by decide +kernel
theorem dX11_signsOfAct_1 : decode cX11_signsOfAct 1 = .ok (.tableswitch 79 98 112 #[75, 79, 79, 79, 79, 79, 79, 79, 79, 75, 77, 77, 75, 79, 77], 75) := by decide +kernel
theorem dX11_signsOfAct_76 : decode cX11_signsOfAct 76 = .ok (.iconst 2, 1) := by decide +kernel
theorem dX11_signsOfAct_77 : decode cX11_signsOfAct 77 = .ok (.ireturn, 1) := by decide +kernel
theorem dX11_signsOfAct_78 : decode cX11_signsOfAct 78 = .ok (.iconst 3, 1) := by decide +kernel
theorem dX11_signsOfAct_79 : decode cX11_signsOfAct 79 = .ok (.ireturn, 1) := by decide +kernel
theorem dX11_signsOfAct_80 : decode cX11_signsOfAct 80 = .ok (.iconst 0, 1) := by decide +kernel
theorem dX11_signsOfAct_81 : decode cX11_signsOfAct 81 = .ok (.ireturn, 1) := by decide +kernel
def fn_X11_signsOfAct (h : aH) (p0 : Int32) : Option (Int32) :=
  if p0 = 98 then
    some 2
  else
  if p0 = 99 then
    some 0
  else
  if p0 = 100 then
    some 0
  else
  if p0 = 101 then
    some 0
  else
  if p0 = 102 then
    some 0
  else
  if p0 = 103 then
    some 0
  else
  if p0 = 104 then
    some 0
  else
  if p0 = 105 then
    some 0
  else
  if p0 = 106 then
    some 0
  else
  if p0 = 107 then
    some 2
  else
  if p0 = 108 then
    some 3
  else
  if p0 = 109 then
    some 3
  else
  if p0 = 110 then
    some 2
  else
  if p0 = 111 then
    some 0
  else
  if p0 = 112 then
    some 3
  else
  some 0
set_option maxRecDepth 20000 in
set_option maxHeartbeats 4000000 in
theorem ev_X11_signsOfAct {l : Launch} {g : aG} {d : Nat} (hd : 0 ≤ d) (h : aH) (p0 : Int32) (o : Int32) (hf : fn_X11_signsOfAct h p0 = some o) : EvM l g d yX11_signsOfAct cX11_signsOfAct 1 (some .int) [.int p0] h (some (.int o), h) := by
  refine EvM.of mk_X11_signsOfAct (Nat.le_of_ble_eq_true rfl) ?_
  intro Γ hl hg hq X
  have hd1 : 0 ≤ d := by omega
  have hk : RpI h Γ o := hq
  unfold fn_X11_signsOfAct at hf
  show Jd Γ (0, 0) 0 [some (.int p0)] [] h
  refine r_iload_n (pc := 0) X dX11_signsOfAct_0 rfl ?_
  by_cases c1 : p0 = 98
  · rw [if_pos c1] at hf
    refine r_tableIn (pc := 1) X 76 dX11_signsOfAct_1 (by rw [c1] <;> decide) (by rw [c1] <;> decide) (by rw [c1] <;> rfl) (by decide) ?_
    refine r_iconst (pc := 76) X 2 dX11_signsOfAct_76 (by decide) ?_
    obtain rfl := Option.some.inj hf
    exact r_iret (pc := 77) X dX11_signsOfAct_77 hk
  rw [if_neg c1] at hf
  by_cases c2 : p0 = 99
  · rw [if_pos c2] at hf
    refine r_tableIn (pc := 1) X 80 dX11_signsOfAct_1 (by rw [c2] <;> decide) (by rw [c2] <;> decide) (by rw [c2] <;> rfl) (by decide) ?_
    refine r_iconst (pc := 80) X 0 dX11_signsOfAct_80 (by decide) ?_
    obtain rfl := Option.some.inj hf
    exact r_iret (pc := 81) X dX11_signsOfAct_81 hk
  rw [if_neg c2] at hf
  by_cases c3 : p0 = 100
  · rw [if_pos c3] at hf
    refine r_tableIn (pc := 1) X 80 dX11_signsOfAct_1 (by rw [c3] <;> decide) (by rw [c3] <;> decide) (by rw [c3] <;> rfl) (by decide) ?_
    refine r_iconst (pc := 80) X 0 dX11_signsOfAct_80 (by decide) ?_
    obtain rfl := Option.some.inj hf
    exact r_iret (pc := 81) X dX11_signsOfAct_81 hk
  rw [if_neg c3] at hf
  by_cases c4 : p0 = 101
  · rw [if_pos c4] at hf
    refine r_tableIn (pc := 1) X 80 dX11_signsOfAct_1 (by rw [c4] <;> decide) (by rw [c4] <;> decide) (by rw [c4] <;> rfl) (by decide) ?_
    refine r_iconst (pc := 80) X 0 dX11_signsOfAct_80 (by decide) ?_
    obtain rfl := Option.some.inj hf
    exact r_iret (pc := 81) X dX11_signsOfAct_81 hk
  rw [if_neg c4] at hf
  by_cases c5 : p0 = 102
  · rw [if_pos c5] at hf
    refine r_tableIn (pc := 1) X 80 dX11_signsOfAct_1 (by rw [c5] <;> decide) (by rw [c5] <;> decide) (by rw [c5] <;> rfl) (by decide) ?_
    refine r_iconst (pc := 80) X 0 dX11_signsOfAct_80 (by decide) ?_
    obtain rfl := Option.some.inj hf
    exact r_iret (pc := 81) X dX11_signsOfAct_81 hk
  rw [if_neg c5] at hf
  by_cases c6 : p0 = 103
  · rw [if_pos c6] at hf
    refine r_tableIn (pc := 1) X 80 dX11_signsOfAct_1 (by rw [c6] <;> decide) (by rw [c6] <;> decide) (by rw [c6] <;> rfl) (by decide) ?_
    refine r_iconst (pc := 80) X 0 dX11_signsOfAct_80 (by decide) ?_
    obtain rfl := Option.some.inj hf
    exact r_iret (pc := 81) X dX11_signsOfAct_81 hk
  rw [if_neg c6] at hf
  by_cases c7 : p0 = 104
  · rw [if_pos c7] at hf
    refine r_tableIn (pc := 1) X 80 dX11_signsOfAct_1 (by rw [c7] <;> decide) (by rw [c7] <;> decide) (by rw [c7] <;> rfl) (by decide) ?_
    refine r_iconst (pc := 80) X 0 dX11_signsOfAct_80 (by decide) ?_
    obtain rfl := Option.some.inj hf
    exact r_iret (pc := 81) X dX11_signsOfAct_81 hk
  rw [if_neg c7] at hf
  by_cases c8 : p0 = 105
  · rw [if_pos c8] at hf
    refine r_tableIn (pc := 1) X 80 dX11_signsOfAct_1 (by rw [c8] <;> decide) (by rw [c8] <;> decide) (by rw [c8] <;> rfl) (by decide) ?_
    refine r_iconst (pc := 80) X 0 dX11_signsOfAct_80 (by decide) ?_
    obtain rfl := Option.some.inj hf
    exact r_iret (pc := 81) X dX11_signsOfAct_81 hk
  rw [if_neg c8] at hf
  by_cases c9 : p0 = 106
  · rw [if_pos c9] at hf
    refine r_tableIn (pc := 1) X 80 dX11_signsOfAct_1 (by rw [c9] <;> decide) (by rw [c9] <;> decide) (by rw [c9] <;> rfl) (by decide) ?_
    refine r_iconst (pc := 80) X 0 dX11_signsOfAct_80 (by decide) ?_
    obtain rfl := Option.some.inj hf
    exact r_iret (pc := 81) X dX11_signsOfAct_81 hk
  rw [if_neg c9] at hf
  by_cases c10 : p0 = 107
  · rw [if_pos c10] at hf
    refine r_tableIn (pc := 1) X 76 dX11_signsOfAct_1 (by rw [c10] <;> decide) (by rw [c10] <;> decide) (by rw [c10] <;> rfl) (by decide) ?_
    refine r_iconst (pc := 76) X 2 dX11_signsOfAct_76 (by decide) ?_
    obtain rfl := Option.some.inj hf
    exact r_iret (pc := 77) X dX11_signsOfAct_77 hk
  rw [if_neg c10] at hf
  by_cases c11 : p0 = 108
  · rw [if_pos c11] at hf
    refine r_tableIn (pc := 1) X 78 dX11_signsOfAct_1 (by rw [c11] <;> decide) (by rw [c11] <;> decide) (by rw [c11] <;> rfl) (by decide) ?_
    refine r_iconst (pc := 78) X 3 dX11_signsOfAct_78 (by decide) ?_
    obtain rfl := Option.some.inj hf
    exact r_iret (pc := 79) X dX11_signsOfAct_79 hk
  rw [if_neg c11] at hf
  by_cases c12 : p0 = 109
  · rw [if_pos c12] at hf
    refine r_tableIn (pc := 1) X 78 dX11_signsOfAct_1 (by rw [c12] <;> decide) (by rw [c12] <;> decide) (by rw [c12] <;> rfl) (by decide) ?_
    refine r_iconst (pc := 78) X 3 dX11_signsOfAct_78 (by decide) ?_
    obtain rfl := Option.some.inj hf
    exact r_iret (pc := 79) X dX11_signsOfAct_79 hk
  rw [if_neg c12] at hf
  by_cases c13 : p0 = 110
  · rw [if_pos c13] at hf
    refine r_tableIn (pc := 1) X 76 dX11_signsOfAct_1 (by rw [c13] <;> decide) (by rw [c13] <;> decide) (by rw [c13] <;> rfl) (by decide) ?_
    refine r_iconst (pc := 76) X 2 dX11_signsOfAct_76 (by decide) ?_
    obtain rfl := Option.some.inj hf
    exact r_iret (pc := 77) X dX11_signsOfAct_77 hk
  rw [if_neg c13] at hf
  by_cases c14 : p0 = 111
  · rw [if_pos c14] at hf
    refine r_tableIn (pc := 1) X 80 dX11_signsOfAct_1 (by rw [c14] <;> decide) (by rw [c14] <;> decide) (by rw [c14] <;> rfl) (by decide) ?_
    refine r_iconst (pc := 80) X 0 dX11_signsOfAct_80 (by decide) ?_
    obtain rfl := Option.some.inj hf
    exact r_iret (pc := 81) X dX11_signsOfAct_81 hk
  rw [if_neg c14] at hf
  by_cases c15 : p0 = 112
  · rw [if_pos c15] at hf
    refine r_tableIn (pc := 1) X 78 dX11_signsOfAct_1 (by rw [c15] <;> decide) (by rw [c15] <;> decide) (by rw [c15] <;> rfl) (by decide) ?_
    refine r_iconst (pc := 78) X 3 dX11_signsOfAct_78 (by decide) ?_
    obtain rfl := Option.some.inj hf
    exact r_iret (pc := 79) X dX11_signsOfAct_79 hk
  rw [if_neg c15] at hf
  have nc1 := lv_neT c1 (show (98 : Int32).toInt = 98 from by decide)
  have nc2 := lv_neT c2 (show (99 : Int32).toInt = 99 from by decide)
  have nc3 := lv_neT c3 (show (100 : Int32).toInt = 100 from by decide)
  have nc4 := lv_neT c4 (show (101 : Int32).toInt = 101 from by decide)
  have nc5 := lv_neT c5 (show (102 : Int32).toInt = 102 from by decide)
  have nc6 := lv_neT c6 (show (103 : Int32).toInt = 103 from by decide)
  have nc7 := lv_neT c7 (show (104 : Int32).toInt = 104 from by decide)
  have nc8 := lv_neT c8 (show (105 : Int32).toInt = 105 from by decide)
  have nc9 := lv_neT c9 (show (106 : Int32).toInt = 106 from by decide)
  have nc10 := lv_neT c10 (show (107 : Int32).toInt = 107 from by decide)
  have nc11 := lv_neT c11 (show (108 : Int32).toInt = 108 from by decide)
  have nc12 := lv_neT c12 (show (109 : Int32).toInt = 109 from by decide)
  have nc13 := lv_neT c13 (show (110 : Int32).toInt = 110 from by decide)
  have nc14 := lv_neT c14 (show (111 : Int32).toInt = 111 from by decide)
  have nc15 := lv_neT c15 (show (112 : Int32).toInt = 112 from by decide)
  refine r_tableOut (pc := 1) X 80 dX11_signsOfAct_1 (by omega) (by decide) ?_
  refine r_iconst (pc := 80) X 0 dX11_signsOfAct_80 (by decide) ?_
  obtain rfl := Option.some.inj hf
  exact r_iret (pc := 81) X dX11_signsOfAct_81 hk

theorem dX11_standsInAct_0 : decode cX11_standsInAct 0 = .ok (.iload_n 2, 1) := by decide +kernel
theorem dX11_standsInAct_1 : decode cX11_standsInAct 1 = .ok (.ifCond .ne 16, 3) := by decide +kernel
theorem dX11_standsInAct_4 : decode cX11_standsInAct 4 = .ok (.iload_n 1, 1) := by decide +kernel
theorem dX11_standsInAct_5 : decode cX11_standsInAct 5 = .ok (.invokestatic 299, 3) := by decide +kernel
theorem dX11_standsInAct_8 : decode cX11_standsInAct 8 = .ok (.ifCond .le 7, 3) := by decide +kernel
theorem dX11_standsInAct_11 : decode cX11_standsInAct 11 = .ok (.iconst 1, 1) := by decide +kernel
theorem dX11_standsInAct_12 : decode cX11_standsInAct 12 = .ok (.goto 4, 3) := by decide +kernel
theorem dX11_standsInAct_15 : decode cX11_standsInAct 15 = .ok (.iconst 0, 1) := by decide +kernel
theorem dX11_standsInAct_16 : decode cX11_standsInAct 16 = .ok (.ireturn, 1) := by decide +kernel
theorem dX11_standsInAct_17 : decode cX11_standsInAct 17 = .ok (.iload_n 2, 1) := by decide +kernel
theorem dX11_standsInAct_18 : decode cX11_standsInAct 18 = .ok (.iconst 2, 1) := by decide +kernel
theorem dX11_standsInAct_19 : decode cX11_standsInAct 19 = .ok (.if_icmp .ne 13, 3) := by decide +kernel
theorem dX11_standsInAct_22 : decode cX11_standsInAct 22 = .ok (.iload_n 1, 1) := by decide +kernel
theorem dX11_standsInAct_23 : decode cX11_standsInAct 23 = .ok (.bipush 109, 2) := by decide +kernel
theorem dX11_standsInAct_25 : decode cX11_standsInAct 25 = .ok (.if_icmp .eq 7, 3) := by decide +kernel
theorem dX11_standsInAct_28 : decode cX11_standsInAct 28 = .ok (.iconst 1, 1) := by decide +kernel
theorem dX11_standsInAct_29 : decode cX11_standsInAct 29 = .ok (.goto 4, 3) := by decide +kernel
theorem dX11_standsInAct_32 : decode cX11_standsInAct 32 = .ok (.iconst 0, 1) := by decide +kernel
theorem dX11_standsInAct_33 : decode cX11_standsInAct 33 = .ok (.istore 4, 2) := by decide +kernel
theorem dX11_standsInAct_35 : decode cX11_standsInAct 35 = .ok (.aload_n 0, 1) := by decide +kernel
theorem dX11_standsInAct_36 : decode cX11_standsInAct 36 = .ok (.getfield 12, 3) := by decide +kernel
theorem dX11_standsInAct_39 : decode cX11_standsInAct 39 = .ok (.iload_n 3, 1) := by decide +kernel
theorem dX11_standsInAct_40 : decode cX11_standsInAct 40 = .ok (.invokevirtual 169, 3) := by decide +kernel
theorem dX11_standsInAct_43 : decode cX11_standsInAct 43 = .ok (.ifCond .eq 25, 3) := by decide +kernel
theorem dX11_standsInAct_46 : decode cX11_standsInAct 46 = .ok (.iload 4, 2) := by decide +kernel
theorem dX11_standsInAct_48 : decode cX11_standsInAct 48 = .ok (.ifCond .eq 16, 3) := by decide +kernel
theorem dX11_standsInAct_51 : decode cX11_standsInAct 51 = .ok (.aload_n 0, 1) := by decide +kernel
theorem dX11_standsInAct_52 : decode cX11_standsInAct 52 = .ok (.getfield 12, 3) := by decide +kernel
theorem dX11_standsInAct_55 : decode cX11_standsInAct 55 = .ok (.iload_n 3, 1) := by decide +kernel
theorem dX11_standsInAct_56 : decode cX11_standsInAct 56 = .ok (.invokevirtual 138, 3) := by decide +kernel
theorem dX11_standsInAct_59 : decode cX11_standsInAct 59 = .ok (.bipush 48, 2) := by decide +kernel
theorem dX11_standsInAct_61 : decode cX11_standsInAct 61 = .ok (.if_icmp .eq 7, 3) := by decide +kernel
theorem dX11_standsInAct_64 : decode cX11_standsInAct 64 = .ok (.iconst 1, 1) := by decide +kernel
theorem dX11_standsInAct_65 : decode cX11_standsInAct 65 = .ok (.goto 4, 3) := by decide +kernel
theorem dX11_standsInAct_68 : decode cX11_standsInAct 68 = .ok (.iconst 0, 1) := by decide +kernel
theorem dX11_standsInAct_69 : decode cX11_standsInAct 69 = .ok (.ireturn, 1) := by decide +kernel
def fn_X11_standsInAct (h : aH) (p0 : Nat) (p1 : Int32) (p2 : Int32) (p3 : Int32) : Option (Int32) :=
  if p2 = 0 then
    (fn_X11_signsOfAct h p1).bind fun x13 =>
    if x13 ≤ 0 then
      some 0
    else
      some 1
  else
    ((
      if p2 = 2 then
        if p1 = 109 then
          some 0
        else
          some 1
      else
        some 0
    ) : Option (Int32)).bind fun t1 =>
    (gR h p0 10 0).bind fun a2 =>
    (ck h a2 7).bind fun u3 =>
    (fn_X8_isDigit h a2 p3).bind fun x4 =>
    if x4 = 0 then
      some 0
    else
      if t1 = 0 then
        some 1
      else
        (gR h p0 10 0).bind fun a5 =>
        (ck h a5 7).bind fun u6 =>
        (fn_X8_at h a5 p3).bind fun x7 =>
        if x7 = 48 then
          some 0
        else
          some 1
set_option maxRecDepth 20000 in
set_option maxHeartbeats 4000000 in
theorem ev_X11_standsInAct {l : Launch} {g : aG} {d : Nat} (hd : 2 ≤ d) (h : aH) (p0 : Nat) (p1 : Int32) (p2 : Int32) (p3 : Int32) (o : Int32) (hf : fn_X11_standsInAct h p0 p1 p2 p3 = some o) : EvM l g d yX11_standsInAct cX11_standsInAct 5 (some .boolean) [.ref p0, .int p1, .int p2, .int p3] h (some (.int o), h) := by
  refine EvM.of mk_X11_standsInAct (Nat.le_of_ble_eq_true rfl) ?_
  intro Γ hl hg hq X
  have hd1 : 1 ≤ d := by omega
  have hk : RpI h Γ o := hq
  unfold fn_X11_standsInAct at hf
  show Jd Γ (0, 0) 0 [some (.ref p0), some (.int p1), some (.int p2), some (.int p3), none] [] h
  refine r_iload_n (pc := 0) X dX11_standsInAct_0 rfl ?_
  refine r_if_ne (pc := 1) X 17 dX11_standsInAct_1 (by decide) (fun c15 => ?_) (fun c15 => ?_)
  · rw [if_neg c15] at hf
    refine r_iload_n (pc := 17) X dX11_standsInAct_17 rfl ?_
    refine r_iconst (pc := 18) X 2 dX11_standsInAct_18 (by decide) ?_
    obtain ⟨t1, et1, hf⟩ := ob hf
    have Jt1 : Jd Γ (0, 0) 33 [some (.ref p0), some (.int p1), some (.int p2), some (.int p3), none] [.int t1] h := by
      refine r_istore (pc := 33) X [some (.ref p0), some (.int p1), some (.int p2), some (.int p3), some (.int t1)] dX11_standsInAct_33 (by decide) rfl ?_
      refine r_aload_n (pc := 35) X dX11_standsInAct_35 rfl ?_
      obtain ⟨a2, ea2, hf⟩ := ob hf
      refine r_getR (pc := 36) X dX11_standsInAct_36 fl_X11_12 rfl ea2 ?_
      refine r_iload_n (pc := 39) X dX11_standsInAct_39 rfl ?_
      obtain ⟨u3, eu3, hf⟩ := ob hf
      obtain ⟨x4, ex4, hf⟩ := ob hf
      refine r_callVI (pc := 40) X [.int p3] dX11_standsInAct_40 ml_X11_169 vo_X8_isDigit ⟨Nat.le_refl _, Nat.le_refl _⟩ eu3 (ev_X8_isDigit (d := d - 1) (by omega) _ _ _ _ ex4) hd1 rfl (Nat.le_of_ble_eq_true rfl) rfl ?_
      refine r_if_eq (pc := 43) X 68 dX11_standsInAct_43 (by decide) (fun c10 => ?_) (fun c10 => ?_)
      · rw [if_pos c10] at hf
        refine r_iconst (pc := 68) X 0 dX11_standsInAct_68 (by decide) ?_
        obtain rfl := Option.some.inj hf
        exact r_zret (pc := 69) X dX11_standsInAct_69 (Or.inl rfl) hk
      · rw [if_neg c10] at hf
        refine r_iload (pc := 46) X dX11_standsInAct_46 rfl ?_
        refine r_if_eq (pc := 48) X 64 dX11_standsInAct_48 (by decide) (fun c9 => ?_) (fun c9 => ?_)
        · rw [if_pos c9] at hf
          refine r_iconst (pc := 64) X 1 dX11_standsInAct_64 (by decide) ?_
          refine r_goto (pc := 65) X 69 dX11_standsInAct_65 (by decide) ?_
          obtain rfl := Option.some.inj hf
          exact r_zret (pc := 69) X dX11_standsInAct_69 (Or.inr rfl) hk
        · rw [if_neg c9] at hf
          refine r_aload_n (pc := 51) X dX11_standsInAct_51 rfl ?_
          obtain ⟨a5, ea5, hf⟩ := ob hf
          refine r_getR (pc := 52) X dX11_standsInAct_52 fl_X11_12 rfl ea5 ?_
          refine r_iload_n (pc := 55) X dX11_standsInAct_55 rfl ?_
          obtain ⟨u6, eu6, hf⟩ := ob hf
          obtain ⟨x7, ex7, hf⟩ := ob hf
          refine r_callVI (pc := 56) X [.int p3] dX11_standsInAct_56 ml_X11_138 vo_X8_at ⟨Nat.le_refl _, Nat.le_refl _⟩ eu6 (ev_X8_at (d := d - 1) (by omega) _ _ _ _ ex7) hd1 rfl (Nat.le_of_ble_eq_true rfl) rfl ?_
          refine r_bipush (pc := 59) X 48 dX11_standsInAct_59 (by decide) ?_
          refine r_icmp_eq (pc := 61) X 68 dX11_standsInAct_61 (by decide) (fun c8 => ?_) (fun c8 => ?_)
          · rw [if_pos c8] at hf
            refine r_iconst (pc := 68) X 0 dX11_standsInAct_68 (by decide) ?_
            obtain rfl := Option.some.inj hf
            exact r_zret (pc := 69) X dX11_standsInAct_69 (Or.inl rfl) hk
          · rw [if_neg c8] at hf
            refine r_iconst (pc := 64) X 1 dX11_standsInAct_64 (by decide) ?_
            refine r_goto (pc := 65) X 69 dX11_standsInAct_65 (by decide) ?_
            obtain rfl := Option.some.inj hf
            exact r_zret (pc := 69) X dX11_standsInAct_69 (Or.inr rfl) hk
    refine r_icmp_ne (pc := 19) X 32 dX11_standsInAct_19 (by decide) (fun c12 => ?_) (fun c12 => ?_)
    · rw [if_neg c12] at et1
      refine r_iconst (pc := 32) X 0 dX11_standsInAct_32 (by decide) ?_
      obtain rfl := Option.some.inj et1
      exact Jt1
    · rw [if_pos c12] at et1
      refine r_iload_n (pc := 22) X dX11_standsInAct_22 rfl ?_
      refine r_bipush (pc := 23) X 109 dX11_standsInAct_23 (by decide) ?_
      refine r_icmp_eq (pc := 25) X 32 dX11_standsInAct_25 (by decide) (fun c11 => ?_) (fun c11 => ?_)
      · rw [if_pos c11] at et1
        refine r_iconst (pc := 32) X 0 dX11_standsInAct_32 (by decide) ?_
        obtain rfl := Option.some.inj et1
        exact Jt1
      · rw [if_neg c11] at et1
        refine r_iconst (pc := 28) X 1 dX11_standsInAct_28 (by decide) ?_
        refine r_goto (pc := 29) X 33 dX11_standsInAct_29 (by decide) ?_
        obtain rfl := Option.some.inj et1
        exact Jt1
  · rw [if_pos c15] at hf
    refine r_iload_n (pc := 4) X dX11_standsInAct_4 rfl ?_
    obtain ⟨x13, ex13, hf⟩ := ob hf
    refine r_callSI (pc := 5) X [.int p1] dX11_standsInAct_5 ml_X11_299 so_X11_signsOfAct ⟨Nat.le_refl _, Nat.le_refl _⟩ (ev_X11_signsOfAct (d := d - 1) (by omega) _ _ _ ex13) hd1 rfl (Nat.le_of_ble_eq_true rfl) rfl ?_
    refine r_if_le (pc := 8) X 15 dX11_standsInAct_8 (by decide) (fun c14 => ?_) (fun c14 => ?_)
    · rw [if_pos c14] at hf
      refine r_iconst (pc := 15) X 0 dX11_standsInAct_15 (by decide) ?_
      obtain rfl := Option.some.inj hf
      exact r_zret (pc := 16) X dX11_standsInAct_16 (Or.inl rfl) hk
    · rw [if_neg c14] at hf
      refine r_iconst (pc := 11) X 1 dX11_standsInAct_11 (by decide) ?_
      refine r_goto (pc := 12) X 16 dX11_standsInAct_12 (by decide) ?_
      obtain rfl := Option.some.inj hf
      exact r_zret (pc := 16) X dX11_standsInAct_16 (Or.inr rfl) hk

theorem dX11_wrongSignOfNight_0 : decode cX11_wrongSignOfNight 0 = .ok (.iconst 0, 1) := by decide +kernel
theorem dX11_wrongSignOfNight_1 : decode cX11_wrongSignOfNight 1 = .ok (.istore_n 1, 1) := by decide +kernel
theorem dX11_wrongSignOfNight_2 : decode cX11_wrongSignOfNight 2 = .ok (.iconst 0, 1) := by decide +kernel
theorem dX11_wrongSignOfNight_3 : decode cX11_wrongSignOfNight 3 = .ok (.istore_n 2, 1) := by decide +kernel
theorem dX11_wrongSignOfNight_4 : decode cX11_wrongSignOfNight 4 = .ok (.iconst 0, 1) := by decide +kernel
theorem dX11_wrongSignOfNight_5 : decode cX11_wrongSignOfNight 5 = .ok (.istore_n 3, 1) := by decide +kernel
theorem dX11_wrongSignOfNight_6 : decode cX11_wrongSignOfNight 6 = .ok (.iload_n 3, 1) := by decide +kernel
theorem dX11_wrongSignOfNight_7 : decode cX11_wrongSignOfNight 7 = .ok (.aload_n 0, 1) := by decide +kernel
theorem dX11_wrongSignOfNight_8 : decode cX11_wrongSignOfNight 8 = .ok (.getfield 12, 3) := by decide +kernel
theorem dX11_wrongSignOfNight_11 : decode cX11_wrongSignOfNight 11 = .ok (.getfield 121, 3) := by decide +kernel
theorem dX11_wrongSignOfNight_14 : decode cX11_wrongSignOfNight 14 = .ok (.if_icmp .ge 60, 3) := by decide +kernel
theorem dX11_wrongSignOfNight_17 : decode cX11_wrongSignOfNight 17 = .ok (.iload_n 3, 1) := by decide +kernel
theorem dX11_wrongSignOfNight_18 : decode cX11_wrongSignOfNight 18 = .ok (.bipush 60, 2) := by decide +kernel
theorem dX11_wrongSignOfNight_20 : decode cX11_wrongSignOfNight 20 = .ok (.if_icmp .ne 5, 3) := by decide +kernel
theorem dX11_wrongSignOfNight_23 : decode cX11_wrongSignOfNight 23 = .ok (.iload_n 3, 1) := by decide +kernel
theorem dX11_wrongSignOfNight_24 : decode cX11_wrongSignOfNight 24 = .ok (.ireturn, 1) := by decide +kernel
theorem dX11_wrongSignOfNight_25 : decode cX11_wrongSignOfNight 25 = .ok (.iload_n 2, 1) := by decide +kernel
theorem dX11_wrongSignOfNight_26 : decode cX11_wrongSignOfNight 26 = .ok (.ifCond .ne 12, 3) := by decide +kernel
theorem dX11_wrongSignOfNight_29 : decode cX11_wrongSignOfNight 29 = .ok (.aload_n 0, 1) := by decide +kernel
theorem dX11_wrongSignOfNight_30 : decode cX11_wrongSignOfNight 30 = .ok (.getfield 12, 3) := by decide +kernel
theorem dX11_wrongSignOfNight_33 : decode cX11_wrongSignOfNight 33 = .ok (.iload_n 3, 1) := by decide +kernel
theorem dX11_wrongSignOfNight_34 : decode cX11_wrongSignOfNight 34 = .ok (.invokevirtual 138, 3) := by decide +kernel
theorem dX11_wrongSignOfNight_37 : decode cX11_wrongSignOfNight 37 = .ok (.istore_n 1, 1) := by decide +kernel
theorem dX11_wrongSignOfNight_38 : decode cX11_wrongSignOfNight 38 = .ok (.aload_n 0, 1) := by decide +kernel
theorem dX11_wrongSignOfNight_39 : decode cX11_wrongSignOfNight 39 = .ok (.iload_n 1, 1) := by decide +kernel
theorem dX11_wrongSignOfNight_40 : decode cX11_wrongSignOfNight 40 = .ok (.iload_n 2, 1) := by decide +kernel
theorem dX11_wrongSignOfNight_41 : decode cX11_wrongSignOfNight 41 = .ok (.iload_n 3, 1) := by decide +kernel
theorem dX11_wrongSignOfNight_42 : decode cX11_wrongSignOfNight 42 = .ok (.invokevirtual 302, 3) := by decide +kernel
theorem dX11_wrongSignOfNight_45 : decode cX11_wrongSignOfNight 45 = .ok (.ifCond .ne 5, 3) := by decide +kernel
theorem dX11_wrongSignOfNight_48 : decode cX11_wrongSignOfNight 48 = .ok (.iload_n 3, 1) := by decide +kernel
theorem dX11_wrongSignOfNight_49 : decode cX11_wrongSignOfNight 49 = .ok (.ireturn, 1) := by decide +kernel
theorem dX11_wrongSignOfNight_50 : decode cX11_wrongSignOfNight 50 = .ok (.iload_n 2, 1) := by decide +kernel
theorem dX11_wrongSignOfNight_51 : decode cX11_wrongSignOfNight 51 = .ok (.iconst 1, 1) := by decide +kernel
theorem dX11_wrongSignOfNight_52 : decode cX11_wrongSignOfNight 52 = .ok (.iadd, 1) := by decide +kernel
theorem dX11_wrongSignOfNight_53 : decode cX11_wrongSignOfNight 53 = .ok (.iload_n 1, 1) := by decide +kernel
theorem dX11_wrongSignOfNight_54 : decode cX11_wrongSignOfNight 54 = .ok (.invokestatic 299, 3) := by decide +kernel
theorem dX11_wrongSignOfNight_57 : decode cX11_wrongSignOfNight 57 = .ok (.if_icmp .ne 7, 3) := by decide +kernel
theorem dX11_wrongSignOfNight_60 : decode cX11_wrongSignOfNight 60 = .ok (.iconst 0, 1) := by decide +kernel
theorem dX11_wrongSignOfNight_61 : decode cX11_wrongSignOfNight 61 = .ok (.goto 6, 3) := by decide +kernel
theorem dX11_wrongSignOfNight_64 : decode cX11_wrongSignOfNight 64 = .ok (.iload_n 2, 1) := by decide +kernel
theorem dX11_wrongSignOfNight_65 : decode cX11_wrongSignOfNight 65 = .ok (.iconst 1, 1) := by decide +kernel
theorem dX11_wrongSignOfNight_66 : decode cX11_wrongSignOfNight 66 = .ok (.iadd, 1) := by decide +kernel
theorem dX11_wrongSignOfNight_67 : decode cX11_wrongSignOfNight 67 = .ok (.istore_n 2, 1) := by decide +kernel
theorem dX11_wrongSignOfNight_68 : decode cX11_wrongSignOfNight 68 = .ok (.iinc 3 1, 3) := by decide +kernel
theorem dX11_wrongSignOfNight_71 : decode cX11_wrongSignOfNight 71 = .ok (.goto (-65), 3) := by decide +kernel
theorem dX11_wrongSignOfNight_74 : decode cX11_wrongSignOfNight 74 = .ok (.iload_n 2, 1) := by decide +kernel
theorem dX11_wrongSignOfNight_75 : decode cX11_wrongSignOfNight 75 = .ok (.ifCond .ne 7, 3) := by decide +kernel
theorem dX11_wrongSignOfNight_78 : decode cX11_wrongSignOfNight 78 = .ok (.iconst (-1), 1) := by decide +kernel
theorem dX11_wrongSignOfNight_79 : decode cX11_wrongSignOfNight 79 = .ok (.goto 10, 3) := by decide +kernel
theorem dX11_wrongSignOfNight_82 : decode cX11_wrongSignOfNight 82 = .ok (.aload_n 0, 1) := by decide +kernel
theorem dX11_wrongSignOfNight_83 : decode cX11_wrongSignOfNight 83 = .ok (.getfield 12, 3) := by decide +kernel
theorem dX11_wrongSignOfNight_86 : decode cX11_wrongSignOfNight 86 = .ok (.getfield 121, 3) := by decide +kernel
theorem dX11_wrongSignOfNight_89 : decode cX11_wrongSignOfNight 89 = .ok (.ireturn, 1) := by decide +kernel
def lb_X11_wrongSignOfNight_6 (hh : aH) (v0 : Nat) (s : Int32 × Int32 × Int32) : Option ((Int32 × Int32 × Int32) ⊕ ((Int32) ⊕ (Int32))) :=
  (gR hh v0 10 0).bind fun a1 =>
  (gI hh a1 7 1).bind fun x2 =>
  if s.2.2 < x2 then
    if s.2.2 = 60 then
      some (.inr (.inr s.2.2))
    else
      ((
        if s.2.1 = 0 then
          (gR hh v0 10 0).bind fun a12 =>
          (ck hh a12 7).bind fun u13 =>
          (fn_X8_at hh a12 s.2.2).bind fun x14 =>
          some x14
        else
          some s.1
      ) : Option (Int32)).bind fun t3 =>
      (ck hh v0 10).bind fun u4 =>
      (fn_X11_standsInAct hh v0 t3 s.2.1 s.2.2).bind fun x5 =>
      if x5 = 0 then
        some (.inr (.inr s.2.2))
      else
        (fn_X11_signsOfAct hh t3).bind fun x6 =>
        if (s.2.1 + 1) = x6 then
          (some (s.2.2 + 1)).bind fun x9 =>
          some (.inl (t3, 0, x9))
        else
          (some (s.2.1 + 1)).bind fun x7 =>
          (some (s.2.2 + 1)).bind fun x8 =>
          some (.inl (t3, x7, x8))
  else
    some (.inr (.inl s.2.1))
def hd_X11_wrongSignOfNight_6 (Γ : aC) (hh : aH) (v0 : Nat) (s : Int32 × Int32 × Int32) : Prop := Jd Γ (0, 0) 6 [some (.ref v0), some (.int s.1), some (.int s.2.1), some (.int s.2.2)] [] hh
def ex_X11_wrongSignOfNight_6 (Γ : aC) (hh : aH) (v0 : Nat) (r : (Int32) ⊕ (Int32)) : Prop := (Sum.elim (fun r => ∀ (j1 : Option Value) (j3 : Option Value), Jd Γ (0, 0) 74 [some (.ref v0), j1, some (.int r), j3] [] hh) (fun r => RpI hh Γ r)) r
set_option maxRecDepth 20000 in
set_option maxHeartbeats 4000000 in
theorem lw_X11_wrongSignOfNight_6 {Γ : aC} {d : Nat} (X : Cx Γ RX11 cX11_wrongSignOfNight 4 (some .int) (d, 0, 0)) (hd : 3 ≤ d) (hh : aH) (v0 : Nat) : ∀ n s o, lp (lb_X11_wrongSignOfNight_6 hh v0) n s = some o → ex_X11_wrongSignOfNight_6 Γ hh v0 o → hd_X11_wrongSignOfNight_6 Γ hh v0 s := by
  have hd1 : 1 ≤ d := by omega
  refine J_lp _ _ _ ?_
  intro s o hf hk
  unfold lb_X11_wrongSignOfNight_6 at hf
  refine r_iload_n (pc := 6) X dX11_wrongSignOfNight_6 rfl ?_
  refine r_aload_n (pc := 7) X dX11_wrongSignOfNight_7 rfl ?_
  obtain ⟨a1, ea1, hf⟩ := ob hf
  refine r_getR (pc := 8) X dX11_wrongSignOfNight_8 fl_X11_12 rfl ea1 ?_
  obtain ⟨x2, ex2, hf⟩ := ob hf
  refine r_getI (pc := 11) X dX11_wrongSignOfNight_11 fl_X11_121 rfl ex2 ?_
  refine r_icmp_ge (pc := 14) X 74 dX11_wrongSignOfNight_14 (by decide) (fun c17 => ?_) (fun c17 => ?_)
  · rw [if_neg c17] at hf
    obtain rfl := Option.some.inj hf
    exact hk _ _
  · rw [if_pos c17] at hf
    refine r_iload_n (pc := 17) X dX11_wrongSignOfNight_17 rfl ?_
    refine r_bipush (pc := 18) X 60 dX11_wrongSignOfNight_18 (by decide) ?_
    refine r_icmp_ne (pc := 20) X 25 dX11_wrongSignOfNight_20 (by decide) (fun c16 => ?_) (fun c16 => ?_)
    · rw [if_neg c16] at hf
      refine r_iload_n (pc := 25) X dX11_wrongSignOfNight_25 rfl ?_
      obtain ⟨t3, et3, hf⟩ := ob hf
      have Jt3 : Jd Γ (0, 0) 38 [some (.ref v0), some (.int t3), some (.int s.2.1), some (.int s.2.2)] [] hh := by
        refine r_aload_n (pc := 38) X dX11_wrongSignOfNight_38 rfl ?_
        refine r_iload_n (pc := 39) X dX11_wrongSignOfNight_39 rfl ?_
        refine r_iload_n (pc := 40) X dX11_wrongSignOfNight_40 rfl ?_
        refine r_iload_n (pc := 41) X dX11_wrongSignOfNight_41 rfl ?_
        obtain ⟨u4, eu4, hf⟩ := ob hf
        obtain ⟨x5, ex5, hf⟩ := ob hf
        refine r_callVI (pc := 42) X [.int t3, .int s.2.1, .int s.2.2] dX11_wrongSignOfNight_42 ml_X11_302 vo_X11_standsInAct ⟨Nat.le_refl _, Nat.le_refl _⟩ eu4 (ev_X11_standsInAct (d := d - 1) (by omega) _ _ _ _ _ _ ex5) hd1 rfl (Nat.le_of_ble_eq_true rfl) rfl ?_
        refine r_if_ne (pc := 45) X 50 dX11_wrongSignOfNight_45 (by decide) (fun c11 => ?_) (fun c11 => ?_)
        · rw [if_neg c11] at hf
          refine r_iload_n (pc := 50) X dX11_wrongSignOfNight_50 rfl ?_
          refine r_iconst (pc := 51) X 1 dX11_wrongSignOfNight_51 (by decide) ?_
          refine r_iadd (pc := 52) X dX11_wrongSignOfNight_52 ?_
          refine r_iload_n (pc := 53) X dX11_wrongSignOfNight_53 rfl ?_
          obtain ⟨x6, ex6, hf⟩ := ob hf
          refine r_callSI (pc := 54) X [.int t3] dX11_wrongSignOfNight_54 ml_X11_299 so_X11_signsOfAct ⟨Nat.le_refl _, Nat.le_refl _⟩ (ev_X11_signsOfAct (d := d - 1) (by omega) _ _ _ ex6) hd1 rfl (Nat.le_of_ble_eq_true rfl) rfl ?_
          refine r_icmp_ne (pc := 57) X 64 dX11_wrongSignOfNight_57 (by decide) (fun c10 => ?_) (fun c10 => ?_)
          · rw [if_neg c10] at hf
            refine r_iload_n (pc := 64) X dX11_wrongSignOfNight_64 rfl ?_
            refine r_iconst (pc := 65) X 1 dX11_wrongSignOfNight_65 (by decide) ?_
            refine r_iadd (pc := 66) X dX11_wrongSignOfNight_66 ?_
            obtain ⟨x7, ex7, hf⟩ := ob hf
            refine r_nmI ex7 ?_
            refine r_istore_n (pc := 67) X [some (.ref v0), some (.int t3), some (.int x7), some (.int s.2.2)] dX11_wrongSignOfNight_67 (by decide) rfl ?_
            obtain ⟨x8, ex8, hf⟩ := ob hf
            refine r_iinc2 (pc := 68) X 1 [some (.ref v0), some (.int t3), some (.int x7), some (.int x8)] dX11_wrongSignOfNight_68 (by decide) rfl (by decide) ex8 rfl ?_
            refine r_goto (pc := 71) X 6 dX11_wrongSignOfNight_71 (by decide) ?_
            obtain rfl := Option.some.inj hf
            exact hk
          · rw [if_pos c10] at hf
            refine r_iconst (pc := 60) X 0 dX11_wrongSignOfNight_60 (by decide) ?_
            refine r_goto (pc := 61) X 67 dX11_wrongSignOfNight_61 (by decide) ?_
            refine r_istore_n (pc := 67) X [some (.ref v0), some (.int t3), some (.int 0), some (.int s.2.2)] dX11_wrongSignOfNight_67 (by decide) rfl ?_
            obtain ⟨x9, ex9, hf⟩ := ob hf
            refine r_iinc2 (pc := 68) X 1 [some (.ref v0), some (.int t3), some (.int 0), some (.int x9)] dX11_wrongSignOfNight_68 (by decide) rfl (by decide) ex9 rfl ?_
            refine r_goto (pc := 71) X 6 dX11_wrongSignOfNight_71 (by decide) ?_
            obtain rfl := Option.some.inj hf
            exact hk
        · rw [if_pos c11] at hf
          refine r_iload_n (pc := 48) X dX11_wrongSignOfNight_48 rfl ?_
          obtain rfl := Option.some.inj hf
          exact r_iret (pc := 49) X dX11_wrongSignOfNight_49 hk
      refine r_if_ne (pc := 26) X 38 dX11_wrongSignOfNight_26 (by decide) (fun c15 => ?_) (fun c15 => ?_)
      · rw [if_neg c15] at et3
        obtain rfl := Option.some.inj et3
        exact Jt3
      · rw [if_pos c15] at et3
        refine r_aload_n (pc := 29) X dX11_wrongSignOfNight_29 rfl ?_
        obtain ⟨a12, ea12, et3⟩ := ob et3
        refine r_getR (pc := 30) X dX11_wrongSignOfNight_30 fl_X11_12 rfl ea12 ?_
        refine r_iload_n (pc := 33) X dX11_wrongSignOfNight_33 rfl ?_
        obtain ⟨u13, eu13, et3⟩ := ob et3
        obtain ⟨x14, ex14, et3⟩ := ob et3
        refine r_callVI (pc := 34) X [.int s.2.2] dX11_wrongSignOfNight_34 ml_X11_138 vo_X8_at ⟨Nat.le_refl _, Nat.le_refl _⟩ eu13 (ev_X8_at (d := d - 1) (by omega) _ _ _ _ ex14) hd1 rfl (Nat.le_of_ble_eq_true rfl) rfl ?_
        refine r_istore_n (pc := 37) X [some (.ref v0), some (.int x14), some (.int s.2.1), some (.int s.2.2)] dX11_wrongSignOfNight_37 (by decide) rfl ?_
        obtain rfl := Option.some.inj et3
        exact Jt3
    · rw [if_pos c16] at hf
      refine r_iload_n (pc := 23) X dX11_wrongSignOfNight_23 rfl ?_
      obtain rfl := Option.some.inj hf
      exact r_iret (pc := 24) X dX11_wrongSignOfNight_24 hk
def fn_X11_wrongSignOfNight (h : aH) (p0 : Nat) : Option (Int32) :=
  (lp (lb_X11_wrongSignOfNight_6 h p0) lpN (0, 0, 0)).bind fun o18 =>
  Sum.elim (fun o19 =>
    if o19 = 0 then
      some (-1)
    else
      (gR h p0 10 0).bind fun a23 =>
      (gI h a23 7 1).bind fun x24 =>
      some x24
  ) (fun o20 =>
    some o20
  ) o18
set_option maxRecDepth 20000 in
set_option maxHeartbeats 4000000 in
theorem ev_X11_wrongSignOfNight {l : Launch} {g : aG} {d : Nat} (hd : 3 ≤ d) (h : aH) (p0 : Nat) (o : Int32) (hf : fn_X11_wrongSignOfNight h p0 = some o) : EvM l g d yX11_wrongSignOfNight cX11_wrongSignOfNight 4 (some .int) [.ref p0] h (some (.int o), h) := by
  refine EvM.of mk_X11_wrongSignOfNight (Nat.le_of_ble_eq_true rfl) ?_
  intro Γ hl hg hq X
  have hd1 : 1 ≤ d := by omega
  have hk : RpI h Γ o := hq
  unfold fn_X11_wrongSignOfNight at hf
  show Jd Γ (0, 0) 0 [some (.ref p0), none, none, none] [] h
  refine r_iconst (pc := 0) X 0 dX11_wrongSignOfNight_0 (by decide) ?_
  refine r_istore_n (pc := 1) X [some (.ref p0), some (.int 0), none, none] dX11_wrongSignOfNight_1 (by decide) rfl ?_
  refine r_iconst (pc := 2) X 0 dX11_wrongSignOfNight_2 (by decide) ?_
  refine r_istore_n (pc := 3) X [some (.ref p0), some (.int 0), some (.int 0), none] dX11_wrongSignOfNight_3 (by decide) rfl ?_
  refine r_iconst (pc := 4) X 0 dX11_wrongSignOfNight_4 (by decide) ?_
  refine r_istore_n (pc := 5) X [some (.ref p0), some (.int 0), some (.int 0), some (.int 0)] dX11_wrongSignOfNight_5 (by decide) rfl ?_
  obtain ⟨o18, eo18, hf⟩ := ob hf
  refine (lw_X11_wrongSignOfNight_6 X hd _ _ lpN _ o18 eo18 ?_)
  rcases o18 with o19 | o20
  · simp only [Sum.elim_inl] at hf
    intro j21 j22
    refine r_iload_n (pc := 74) X dX11_wrongSignOfNight_74 rfl ?_
    refine r_if_ne (pc := 75) X 82 dX11_wrongSignOfNight_75 (by decide) (fun c25 => ?_) (fun c25 => ?_)
    · rw [if_neg c25] at hf
      refine r_aload_n (pc := 82) X dX11_wrongSignOfNight_82 rfl ?_
      obtain ⟨a23, ea23, hf⟩ := ob hf
      refine r_getR (pc := 83) X dX11_wrongSignOfNight_83 fl_X11_12 rfl ea23 ?_
      obtain ⟨x24, ex24, hf⟩ := ob hf
      refine r_getI (pc := 86) X dX11_wrongSignOfNight_86 fl_X11_121 rfl ex24 ?_
      obtain rfl := Option.some.inj hf
      exact r_iret (pc := 89) X dX11_wrongSignOfNight_89 hk
    · rw [if_pos c25] at hf
      refine r_iconst (pc := 78) X (-1) dX11_wrongSignOfNight_78 (by decide) ?_
      refine r_goto (pc := 79) X 89 dX11_wrongSignOfNight_79 (by decide) ?_
      obtain rfl := Option.some.inj hf
      exact r_iret (pc := 89) X dX11_wrongSignOfNight_89 hk
  · simp only [Sum.elim_inr] at hf
    obtain rfl := Option.some.inj hf
    exact hk

theorem dX11_night_0 : decode cX11_night 0 = .ok (.aload_n 0, 1) := by decide +kernel
theorem dX11_night_1 : decode cX11_night 1 = .ok (.invokevirtual 295, 3) := by decide +kernel
theorem dX11_night_4 : decode cX11_night 4 = .ok (.istore_n 1, 1) := by decide +kernel
theorem dX11_night_5 : decode cX11_night 5 = .ok (.iload_n 1, 1) := by decide +kernel
theorem dX11_night_6 : decode cX11_night 6 = .ok (.iconst (-1), 1) := by decide +kernel
theorem dX11_night_7 : decode cX11_night 7 = .ok (.if_icmp .eq 14, 3) := by decide +kernel
theorem dX11_night_10 : decode cX11_night 10 = .ok (.aload_n 0, 1) := by decide +kernel
theorem dX11_night_11 : decode cX11_night 11 = .ok (.getfield 12, 3) := by decide +kernel
theorem dX11_night_14 : decode cX11_night 14 = .ok (.invokevirtual 148, 3) := by decide +kernel
theorem dX11_night_17 : decode cX11_night 17 = .ok (.iconst (-1), 1) := by decide +kernel
theorem dX11_night_18 : decode cX11_night 18 = .ok (.iload_n 1, 1) := by decide +kernel
theorem dX11_night_19 : decode cX11_night 19 = .ok (.isub, 1) := by decide +kernel
theorem dX11_night_20 : decode cX11_night 20 = .ok (.ireturn, 1) := by decide +kernel
theorem dX11_night_21 : decode cX11_night 21 = .ok (.aload_n 0, 1) := by decide +kernel
theorem dX11_night_22 : decode cX11_night 22 = .ok (.getfield 65, 3) := by decide +kernel
theorem dX11_night_25 : decode cX11_night 25 = .ok (.aload_n 0, 1) := by decide +kernel
theorem dX11_night_26 : decode cX11_night 26 = .ok (.getfield 61, 3) := by decide +kernel
theorem dX11_night_29 : decode cX11_night 29 = .ok (.invokevirtual 255, 3) := by decide +kernel
theorem dX11_night_32 : decode cX11_night 32 = .ok (.iconst 0, 1) := by decide +kernel
theorem dX11_night_33 : decode cX11_night 33 = .ok (.istore_n 2, 1) := by decide +kernel
theorem dX11_night_34 : decode cX11_night 34 = .ok (.iconst 0, 1) := by decide +kernel
theorem dX11_night_35 : decode cX11_night 35 = .ok (.istore_n 3, 1) := by decide +kernel
theorem dX11_night_36 : decode cX11_night 36 = .ok (.iconst 0, 1) := by decide +kernel
theorem dX11_night_37 : decode cX11_night 37 = .ok (.istore 4, 2) := by decide +kernel
theorem dX11_night_39 : decode cX11_night 39 = .ok (.iload 4, 2) := by decide +kernel
theorem dX11_night_41 : decode cX11_night 41 = .ok (.aload_n 0, 1) := by decide +kernel
theorem dX11_night_42 : decode cX11_night 42 = .ok (.getfield 12, 3) := by decide +kernel
theorem dX11_night_45 : decode cX11_night 45 = .ok (.getfield 121, 3) := by decide +kernel
theorem dX11_night_48 : decode cX11_night 48 = .ok (.if_icmp .ge 87, 3) := by decide +kernel
theorem dX11_night_51 : decode cX11_night 51 = .ok (.iload_n 3, 1) := by decide +kernel
theorem dX11_night_52 : decode cX11_night 52 = .ok (.ifCond .ne 83, 3) := by decide +kernel
theorem dX11_night_55 : decode cX11_night 55 = .ok (.aload_n 0, 1) := by decide +kernel
theorem dX11_night_56 : decode cX11_night 56 = .ok (.aload_n 0, 1) := by decide +kernel
theorem dX11_night_57 : decode cX11_night 57 = .ok (.getfield 12, 3) := by decide +kernel
theorem dX11_night_60 : decode cX11_night 60 = .ok (.iload 4, 2) := by decide +kernel
theorem dX11_night_62 : decode cX11_night 62 = .ok (.invokevirtual 138, 3) := by decide +kernel
theorem dX11_night_65 : decode cX11_night 65 = .ok (.aload_n 0, 1) := by decide +kernel
theorem dX11_night_66 : decode cX11_night 66 = .ok (.getfield 12, 3) := by decide +kernel
theorem dX11_night_69 : decode cX11_night 69 = .ok (.iload 4, 2) := by decide +kernel
theorem dX11_night_71 : decode cX11_night 71 = .ok (.iconst 1, 1) := by decide +kernel
theorem dX11_night_72 : decode cX11_night 72 = .ok (.iadd, 1) := by decide +kernel
theorem dX11_night_73 : decode cX11_night 73 = .ok (.invokevirtual 135, 3) := by decide +kernel
theorem dX11_night_76 : decode cX11_night 76 = .ok (.aload_n 0, 1) := by decide +kernel
theorem dX11_night_77 : decode cX11_night 77 = .ok (.getfield 12, 3) := by decide +kernel
theorem dX11_night_80 : decode cX11_night 80 = .ok (.iload 4, 2) := by decide +kernel
theorem dX11_night_82 : decode cX11_night 82 = .ok (.iconst 2, 1) := by decide +kernel
theorem dX11_night_83 : decode cX11_night 83 = .ok (.iadd, 1) := by decide +kernel
theorem dX11_night_84 : decode cX11_night 84 = .ok (.invokevirtual 135, 3) := by decide +kernel
theorem dX11_night_87 : decode cX11_night 87 = .ok (.invokevirtual 258, 3) := by decide +kernel
theorem dX11_night_90 : decode cX11_night 90 = .ok (.ifCond .ge 7, 3) := by decide +kernel
theorem dX11_night_93 : decode cX11_night 93 = .ok (.iconst 1, 1) := by decide +kernel
theorem dX11_night_94 : decode cX11_night 94 = .ok (.goto 4, 3) := by decide +kernel
theorem dX11_night_97 : decode cX11_night 97 = .ok (.iconst 0, 1) := by decide +kernel
theorem dX11_night_98 : decode cX11_night 98 = .ok (.istore_n 3, 1) := by decide +kernel
theorem dX11_night_99 : decode cX11_night 99 = .ok (.iload_n 2, 1) := by decide +kernel
theorem dX11_night_100 : decode cX11_night 100 = .ok (.iload_n 3, 1) := by decide +kernel
theorem dX11_night_101 : decode cX11_night 101 = .ok (.ifCond .eq 7, 3) := by decide +kernel
theorem dX11_night_104 : decode cX11_night 104 = .ok (.iconst 0, 1) := by decide +kernel
theorem dX11_night_105 : decode cX11_night 105 = .ok (.goto 4, 3) := by decide +kernel
theorem dX11_night_108 : decode cX11_night 108 = .ok (.iconst 1, 1) := by decide +kernel
theorem dX11_night_109 : decode cX11_night 109 = .ok (.iadd, 1) := by decide +kernel
theorem dX11_night_110 : decode cX11_night 110 = .ok (.istore_n 2, 1) := by decide +kernel
theorem dX11_night_111 : decode cX11_night 111 = .ok (.iload 4, 2) := by decide +kernel
theorem dX11_night_113 : decode cX11_night 113 = .ok (.iconst 1, 1) := by decide +kernel
theorem dX11_night_114 : decode cX11_night 114 = .ok (.aload_n 0, 1) := by decide +kernel
theorem dX11_night_115 : decode cX11_night 115 = .ok (.getfield 12, 3) := by decide +kernel
theorem dX11_night_118 : decode cX11_night 118 = .ok (.iload 4, 2) := by decide +kernel
theorem dX11_night_120 : decode cX11_night 120 = .ok (.invokevirtual 138, 3) := by decide +kernel
theorem dX11_night_123 : decode cX11_night 123 = .ok (.invokestatic 299, 3) := by decide +kernel
theorem dX11_night_126 : decode cX11_night 126 = .ok (.invokestatic 235, 3) := by decide +kernel
theorem dX11_night_129 : decode cX11_night 129 = .ok (.iadd, 1) := by decide +kernel
theorem dX11_night_130 : decode cX11_night 130 = .ok (.istore 4, 2) := by decide +kernel
theorem dX11_night_132 : decode cX11_night 132 = .ok (.goto (-93), 3) := by decide +kernel
theorem dX11_night_135 : decode cX11_night 135 = .ok (.aload_n 0, 1) := by decide +kernel
theorem dX11_night_136 : decode cX11_night 136 = .ok (.getfield 12, 3) := by decide +kernel
theorem dX11_night_139 : decode cX11_night 139 = .ok (.invokevirtual 148, 3) := by decide +kernel
theorem dX11_night_142 : decode cX11_night 142 = .ok (.iload_n 2, 1) := by decide +kernel
theorem dX11_night_143 : decode cX11_night 143 = .ok (.ifCond .le 14, 3) := by decide +kernel
theorem dX11_night_146 : decode cX11_night 146 = .ok (.aload_n 0, 1) := by decide +kernel
theorem dX11_night_147 : decode cX11_night 147 = .ok (.getfield 74, 3) := by decide +kernel
theorem dX11_night_150 : decode cX11_night 150 = .ok (.aload_n 0, 1) := by decide +kernel
theorem dX11_night_151 : decode cX11_night 151 = .ok (.getfield 65, 3) := by decide +kernel
theorem dX11_night_154 : decode cX11_night 154 = .ok (.invokevirtual 261, 3) := by decide +kernel
theorem dX11_night_157 : decode cX11_night 157 = .ok (.aload_n 0, 1) := by decide +kernel
theorem dX11_night_158 : decode cX11_night 158 = .ok (.getfield 81, 3) := by decide +kernel
theorem dX11_night_161 : decode cX11_night 161 = .ok (.invokevirtual 242, 3) := by decide +kernel
theorem dX11_night_164 : decode cX11_night 164 = .ok (.aload_n 0, 1) := by decide +kernel
theorem dX11_night_165 : decode cX11_night 165 = .ok (.getfield 81, 3) := by decide +kernel
theorem dX11_night_168 : decode cX11_night 168 = .ok (.iload_n 3, 1) := by decide +kernel
theorem dX11_night_169 : decode cX11_night 169 = .ok (.ifCond .eq 7, 3) := by decide +kernel
theorem dX11_night_172 : decode cX11_night 172 = .ok (.lconst 1, 1) := by decide +kernel
theorem dX11_night_173 : decode cX11_night 173 = .ok (.goto 4, 3) := by decide +kernel
theorem dX11_night_176 : decode cX11_night 176 = .ok (.lconst 0, 1) := by decide +kernel
theorem dX11_night_177 : decode cX11_night 177 = .ok (.invokevirtual 248, 3) := by decide +kernel
theorem dX11_night_180 : decode cX11_night 180 = .ok (.aload_n 0, 1) := by decide +kernel
theorem dX11_night_181 : decode cX11_night 181 = .ok (.getfield 81, 3) := by decide +kernel
theorem dX11_night_184 : decode cX11_night 184 = .ok (.aload_n 0, 1) := by decide +kernel
theorem dX11_night_185 : decode cX11_night 185 = .ok (.aload_n 0, 1) := by decide +kernel
theorem dX11_night_186 : decode cX11_night 186 = .ok (.getfield 61, 3) := by decide +kernel
theorem dX11_night_189 : decode cX11_night 189 = .ok (.invokevirtual 226, 3) := by decide +kernel
theorem dX11_night_192 : decode cX11_night 192 = .ok (.i2l, 1) := by decide +kernel
theorem dX11_night_193 : decode cX11_night 193 = .ok (.invokevirtual 248, 3) := by decide +kernel
theorem dX11_night_196 : decode cX11_night 196 = .ok (.iload_n 2, 1) := by decide +kernel
theorem dX11_night_197 : decode cX11_night 197 = .ok (.ireturn, 1) := by decide +kernel
def lb_X11_night_39 (v0 : Nat) (s : Int32 × Int32 × Int32 × aH) : Option ((Int32 × Int32 × Int32 × aH) ⊕ ((Int32 × Int32 × aH))) :=
  (gR s.2.2.2 v0 10 0).bind fun a7 =>
  (gI s.2.2.2 a7 7 1).bind fun x8 =>
  if s.2.2.1 < x8 then
    if s.2.1 = 0 then
      (gR s.2.2.2 v0 10 0).bind fun a9 =>
      (ck s.2.2.2 a9 7).bind fun u10 =>
      (fn_X8_at s.2.2.2 a9 s.2.2.1).bind fun x11 =>
      (gR s.2.2.2 v0 10 0).bind fun a12 =>
      (ck s.2.2.2 a12 7).bind fun u13 =>
      (fn_X8_digit s.2.2.2 a12 (s.2.2.1 + 1)).bind fun x14 =>
      (gR s.2.2.2 v0 10 0).bind fun a15 =>
      (ck s.2.2.2 a15 7).bind fun u16 =>
      (fn_X8_digit s.2.2.2 a15 (s.2.2.1 + 2)).bind fun x17 =>
      (ck s.2.2.2 v0 10).bind fun u18 =>
      (fn_X11_act s.2.2.2 v0 x11 x14 x17).bind fun o19 =>
      ((
        if o19.1 < 0 then
          some 1
        else
          some 0
      ) : Option (Int32)).bind fun t20 =>
      ((
        if t20 = 0 then
          some 1
        else
          some 0
      ) : Option (Int32)).bind fun t21 =>
      (some (s.1 + t21)).bind fun x22 =>
      (gR o19.2 v0 10 0).bind fun a23 =>
      (ck o19.2 a23 7).bind fun u24 =>
      (fn_X8_at o19.2 a23 s.2.2.1).bind fun x25 =>
      (fn_X11_signsOfAct o19.2 x25).bind fun x26 =>
      (some (s.2.2.1 + (mx 1 x26))).bind fun x27 =>
      some (.inl (x22, t20, x27, o19.2))
    else
      some (.inr (s.1, s.2.1, s.2.2.2))
  else
    some (.inr (s.1, s.2.1, s.2.2.2))
def hd_X11_night_39 (Γ : aC) (v0 : Nat) (s : Int32 × Int32 × Int32 × aH) : Prop := ∀ (j1 : Option Value), Jd Γ (0, 0) 39 [some (.ref v0), j1, some (.int s.1), some (.int s.2.1), some (.int s.2.2.1)] [] s.2.2.2
def ex_X11_night_39 (Γ : aC) (v0 : Nat) (r : (Int32 × Int32 × aH)) : Prop := (fun r => ∀ (j1 : Option Value) (j4 : Option Value), Jd Γ (0, 0) 135 [some (.ref v0), j1, some (.int r.1), some (.int r.2.1), j4] [] r.2.2) r
set_option maxRecDepth 20000 in
set_option maxHeartbeats 4000000 in
theorem lw_X11_night_39 {Γ : aC} {d : Nat} (X : Cx Γ RX11 cX11_night 5 (some .int) (d, 0, 0)) (hd : 6 ≤ d) (v0 : Nat) : ∀ n s o, lp (lb_X11_night_39 v0) n s = some o → ex_X11_night_39 Γ v0 o → hd_X11_night_39 Γ v0 s := by
  have hd1 : 1 ≤ d := by omega
  refine J_lp _ _ _ ?_
  intro s o hf hk j1
  unfold lb_X11_night_39 at hf
  refine r_iload (pc := 39) X dX11_night_39 rfl ?_
  refine r_aload_n (pc := 41) X dX11_night_41 rfl ?_
  obtain ⟨a7, ea7, hf⟩ := ob hf
  refine r_getR (pc := 42) X dX11_night_42 fl_X11_12 rfl ea7 ?_
  obtain ⟨x8, ex8, hf⟩ := ob hf
  refine r_getI (pc := 45) X dX11_night_45 fl_X11_121 rfl ex8 ?_
  refine r_icmp_ge (pc := 48) X 135 dX11_night_48 (by decide) (fun c31 => ?_) (fun c31 => ?_)
  · rw [if_neg c31] at hf
    obtain rfl := Option.some.inj hf
    exact hk _ _
  · rw [if_pos c31] at hf
    refine r_iload_n (pc := 51) X dX11_night_51 rfl ?_
    refine r_if_ne (pc := 52) X 135 dX11_night_52 (by decide) (fun c30 => ?_) (fun c30 => ?_)
    · rw [if_neg c30] at hf
      obtain rfl := Option.some.inj hf
      exact hk _ _
    · rw [if_pos c30] at hf
      refine r_aload_n (pc := 55) X dX11_night_55 rfl ?_
      refine r_aload_n (pc := 56) X dX11_night_56 rfl ?_
      obtain ⟨a9, ea9, hf⟩ := ob hf
      refine r_getR (pc := 57) X dX11_night_57 fl_X11_12 rfl ea9 ?_
      refine r_iload (pc := 60) X dX11_night_60 rfl ?_
      obtain ⟨u10, eu10, hf⟩ := ob hf
      obtain ⟨x11, ex11, hf⟩ := ob hf
      refine r_callVI (pc := 62) X [.int s.2.2.1] dX11_night_62 ml_X11_138 vo_X8_at ⟨Nat.le_refl _, Nat.le_refl _⟩ eu10 (ev_X8_at (d := d - 1) (by omega) _ _ _ _ ex11) hd1 rfl (Nat.le_of_ble_eq_true rfl) rfl ?_
      refine r_aload_n (pc := 65) X dX11_night_65 rfl ?_
      obtain ⟨a12, ea12, hf⟩ := ob hf
      refine r_getR (pc := 66) X dX11_night_66 fl_X11_12 rfl ea12 ?_
      refine r_iload (pc := 69) X dX11_night_69 rfl ?_
      refine r_iconst (pc := 71) X 1 dX11_night_71 (by decide) ?_
      refine r_iadd (pc := 72) X dX11_night_72 ?_
      obtain ⟨u13, eu13, hf⟩ := ob hf
      obtain ⟨x14, ex14, hf⟩ := ob hf
      refine r_callVI (pc := 73) X [.int (s.2.2.1 + 1)] dX11_night_73 ml_X11_135 vo_X8_digit ⟨Nat.le_refl _, Nat.le_refl _⟩ eu13 (ev_X8_digit (d := d - 1) (by omega) _ _ _ _ ex14) hd1 rfl (Nat.le_of_ble_eq_true rfl) rfl ?_
      refine r_aload_n (pc := 76) X dX11_night_76 rfl ?_
      obtain ⟨a15, ea15, hf⟩ := ob hf
      refine r_getR (pc := 77) X dX11_night_77 fl_X11_12 rfl ea15 ?_
      refine r_iload (pc := 80) X dX11_night_80 rfl ?_
      refine r_iconst (pc := 82) X 2 dX11_night_82 (by decide) ?_
      refine r_iadd (pc := 83) X dX11_night_83 ?_
      obtain ⟨u16, eu16, hf⟩ := ob hf
      obtain ⟨x17, ex17, hf⟩ := ob hf
      refine r_callVI (pc := 84) X [.int (s.2.2.1 + 2)] dX11_night_84 ml_X11_135 vo_X8_digit ⟨Nat.le_refl _, Nat.le_refl _⟩ eu16 (ev_X8_digit (d := d - 1) (by omega) _ _ _ _ ex17) hd1 rfl (Nat.le_of_ble_eq_true rfl) rfl ?_
      obtain ⟨u18, eu18, hf⟩ := ob hf
      obtain ⟨o19, eo19, hf⟩ := ob hf
      refine r_callVI (pc := 87) X [.int x11, .int x14, .int x17] dX11_night_87 ml_X11_258 vo_X11_act ⟨Nat.le_refl _, Nat.le_refl _⟩ eu18 (ev_X11_act (d := d - 1) (by omega) _ _ _ _ _ _ eo19) hd1 rfl (Nat.le_of_ble_eq_true rfl) rfl ?_
      obtain ⟨t20, et20, hf⟩ := ob hf
      have Jt20 : Jd Γ (0, 0) 98 [some (.ref v0), j1, some (.int s.1), some (.int s.2.1), some (.int s.2.2.1)] [.int t20] o19.2 := by
        refine r_istore_n (pc := 98) X [some (.ref v0), j1, some (.int s.1), some (.int t20), some (.int s.2.2.1)] dX11_night_98 (by decide) rfl ?_
        refine r_iload_n (pc := 99) X dX11_night_99 rfl ?_
        refine r_iload_n (pc := 100) X dX11_night_100 rfl ?_
        obtain ⟨t21, et21, hf⟩ := ob hf
        have Jt21 : Jd Γ (0, 0) 109 [some (.ref v0), j1, some (.int s.1), some (.int t20), some (.int s.2.2.1)] [.int t21, .int s.1] o19.2 := by
          refine r_iadd (pc := 109) X dX11_night_109 ?_
          obtain ⟨x22, ex22, hf⟩ := ob hf
          refine r_nmI ex22 ?_
          refine r_fg 1 [some (.ref v0), none, some (.int s.1), some (.int t20), some (.int s.2.2.1)] rfl ?_
          refine r_istore_n (pc := 110) X [some (.ref v0), none, some (.int x22), some (.int t20), some (.int s.2.2.1)] dX11_night_110 (by decide) rfl ?_
          refine r_iload (pc := 111) X dX11_night_111 rfl ?_
          refine r_iconst (pc := 113) X 1 dX11_night_113 (by decide) ?_
          refine r_aload_n (pc := 114) X dX11_night_114 rfl ?_
          obtain ⟨a23, ea23, hf⟩ := ob hf
          refine r_getR (pc := 115) X dX11_night_115 fl_X11_12 rfl ea23 ?_
          refine r_iload (pc := 118) X dX11_night_118 rfl ?_
          obtain ⟨u24, eu24, hf⟩ := ob hf
          obtain ⟨x25, ex25, hf⟩ := ob hf
          refine r_callVI (pc := 120) X [.int s.2.2.1] dX11_night_120 ml_X11_138 vo_X8_at ⟨Nat.le_refl _, Nat.le_refl _⟩ eu24 (ev_X8_at (d := d - 1) (by omega) _ _ _ _ ex25) hd1 rfl (Nat.le_of_ble_eq_true rfl) rfl ?_
          obtain ⟨x26, ex26, hf⟩ := ob hf
          refine r_callSI (pc := 123) X [.int x25] dX11_night_123 ml_X11_299 so_X11_signsOfAct ⟨Nat.le_refl _, Nat.le_refl _⟩ (ev_X11_signsOfAct (d := d - 1) (by omega) _ _ _ ex26) hd1 rfl (Nat.le_of_ble_eq_true rfl) rfl ?_
          refine r_max (pc := 126) X dX11_night_126 ml_X11_235 ⟨Nat.le_refl _, Nat.le_refl _⟩ hd1 (Nat.le_of_ble_eq_true rfl) ?_
          refine r_iadd (pc := 129) X dX11_night_129 ?_
          obtain ⟨x27, ex27, hf⟩ := ob hf
          refine r_nmI ex27 ?_
          refine r_istore (pc := 130) X [some (.ref v0), none, some (.int x22), some (.int t20), some (.int x27)] dX11_night_130 (by decide) rfl ?_
          refine r_goto (pc := 132) X 39 dX11_night_132 (by decide) ?_
          obtain rfl := Option.some.inj hf
          exact hk _
        refine r_if_eq (pc := 101) X 108 dX11_night_101 (by decide) (fun c28 => ?_) (fun c28 => ?_)
        · rw [if_pos c28] at et21
          refine r_iconst (pc := 108) X 1 dX11_night_108 (by decide) ?_
          obtain rfl := Option.some.inj et21
          exact Jt21
        · rw [if_neg c28] at et21
          refine r_iconst (pc := 104) X 0 dX11_night_104 (by decide) ?_
          refine r_goto (pc := 105) X 109 dX11_night_105 (by decide) ?_
          obtain rfl := Option.some.inj et21
          exact Jt21
      refine r_if_ge (pc := 90) X 97 dX11_night_90 (by decide) (fun c29 => ?_) (fun c29 => ?_)
      · rw [if_neg c29] at et20
        refine r_iconst (pc := 97) X 0 dX11_night_97 (by decide) ?_
        obtain rfl := Option.some.inj et20
        exact Jt20
      · rw [if_pos c29] at et20
        refine r_iconst (pc := 93) X 1 dX11_night_93 (by decide) ?_
        refine r_goto (pc := 94) X 98 dX11_night_94 (by decide) ?_
        obtain rfl := Option.some.inj et20
        exact Jt20
def fn_X11_night (h : aH) (p0 : Nat) : Option (Int32 × aH) :=
  (ck h p0 10).bind fun u1 =>
  (fn_X11_wrongSignOfNight h p0).bind fun x2 =>
  if x2 = (-1) then
    (gR h p0 10 8).bind fun a3 =>
    (gR h p0 10 7).bind fun a4 =>
    (ck h a3 6).bind fun u5 =>
    (fn_X7_takes h a3 a4).bind fun h6 =>
    (lp (lb_X11_night_39 p0) lpN (0, 0, 0, h6)).bind fun o32 =>
    (gR o32.2.2 p0 10 0).bind fun a35 =>
    (ck o32.2.2 a35 7).bind fun u36 =>
    (fn_X8_clear o32.2.2 a35).bind fun h37 =>
    ((
      if o32.1 ≤ 0 then
        some h37
      else
        (gR h37 p0 10 10).bind fun a53 =>
        (gR h37 p0 10 8).bind fun a54 =>
        (ck h37 a53 1).bind fun u55 =>
        (fn_X2_push h37 a53 a54).bind fun h56 =>
        some h56
    ) : Option (aH)).bind fun t38 =>
    (gR t38 p0 10 11).bind fun a39 =>
    (ck t38 a39 2).bind fun u40 =>
    (fn_X3_begin t38 a39).bind fun h41 =>
    (gR h41 p0 10 11).bind fun a42 =>
    ((
      if o32.2.1 = 0 then
        some 0
      else
        some 1
    ) : Option (Int64)).bind fun t43 =>
    (ck h41 a42 2).bind fun u44 =>
    (fn_X3_add h41 a42 t43).bind fun h45 =>
    (gR h45 p0 10 11).bind fun a46 =>
    (gR h45 p0 10 7).bind fun a47 =>
    (ck h45 p0 10).bind fun u48 =>
    (fn_X11_together h45 p0 a47).bind fun x49 =>
    (ck h45 a46 2).bind fun u50 =>
    (fn_X3_add h45 a46 (Int32.toInt64 x49)).bind fun h51 =>
    some (o32.1, h51)
  else
    (gR h p0 10 0).bind fun a58 =>
    (ck h a58 7).bind fun u59 =>
    (fn_X8_clear h a58).bind fun h60 =>
    some (((-1) - x2), h60)
set_option maxRecDepth 20000 in
set_option maxHeartbeats 4000000 in
theorem ev_X11_night {l : Launch} {g : aG} {d : Nat} (hd : 6 ≤ d) (h : aH) (p0 : Nat) (o : Int32 × aH) (hf : fn_X11_night h p0 = some o) : EvM l g d yX11_night cX11_night 5 (some .int) [.ref p0] h (some (.int o.1), o.2) := by
  refine EvM.of mk_X11_night (Nat.le_of_ble_eq_true rfl) ?_
  intro Γ hl hg hq X
  have hd1 : 1 ≤ d := by omega
  have hk : RqI Γ o := hq
  unfold fn_X11_night at hf
  show Jd Γ (0, 0) 0 [some (.ref p0), none, none, none, none] [] h
  refine r_aload_n (pc := 0) X dX11_night_0 rfl ?_
  obtain ⟨u1, eu1, hf⟩ := ob hf
  obtain ⟨x2, ex2, hf⟩ := ob hf
  refine r_callVI (pc := 1) X [] dX11_night_1 ml_X11_295 vo_X11_wrongSignOfNight ⟨Nat.le_refl _, Nat.le_refl _⟩ eu1 (ev_X11_wrongSignOfNight (d := d - 1) (by omega) _ _ _ ex2) hd1 rfl (Nat.le_of_ble_eq_true rfl) rfl ?_
  refine r_istore_n (pc := 4) X [some (.ref p0), some (.int x2), none, none, none] dX11_night_4 (by decide) rfl ?_
  refine r_iload_n (pc := 5) X dX11_night_5 rfl ?_
  refine r_iconst (pc := 6) X (-1) dX11_night_6 (by decide) ?_
  refine r_icmp_eq (pc := 7) X 21 dX11_night_7 (by decide) (fun c61 => ?_) (fun c61 => ?_)
  · rw [if_pos c61] at hf
    refine r_aload_n (pc := 21) X dX11_night_21 rfl ?_
    obtain ⟨a3, ea3, hf⟩ := ob hf
    refine r_getR (pc := 22) X dX11_night_22 fl_X11_65 rfl ea3 ?_
    refine r_aload_n (pc := 25) X dX11_night_25 rfl ?_
    obtain ⟨a4, ea4, hf⟩ := ob hf
    refine r_getR (pc := 26) X dX11_night_26 fl_X11_61 rfl ea4 ?_
    obtain ⟨u5, eu5, hf⟩ := ob hf
    obtain ⟨h6, eh6, hf⟩ := ob hf
    refine r_callVV (pc := 29) X [.ref a4] dX11_night_29 ml_X11_255 vo_X7_takes ⟨Nat.le_refl _, Nat.le_refl _⟩ eu5 (ev_X7_takes (d := d - 1) (by omega) _ _ _ _ eh6) hd1 rfl (Nat.le_of_ble_eq_true rfl) rfl ?_
    refine r_iconst (pc := 32) X 0 dX11_night_32 (by decide) ?_
    refine r_istore_n (pc := 33) X [some (.ref p0), some (.int x2), some (.int 0), none, none] dX11_night_33 (by decide) rfl ?_
    refine r_iconst (pc := 34) X 0 dX11_night_34 (by decide) ?_
    refine r_istore_n (pc := 35) X [some (.ref p0), some (.int x2), some (.int 0), some (.int 0), none] dX11_night_35 (by decide) rfl ?_
    refine r_iconst (pc := 36) X 0 dX11_night_36 (by decide) ?_
    refine r_istore (pc := 37) X [some (.ref p0), some (.int x2), some (.int 0), some (.int 0), some (.int 0)] dX11_night_37 (by decide) rfl ?_
    obtain ⟨o32, eo32, hf⟩ := ob hf
    refine (lw_X11_night_39 X hd _ lpN _ o32 eo32 ?_) _
    intro j33 j34
    refine r_aload_n (pc := 135) X dX11_night_135 rfl ?_
    obtain ⟨a35, ea35, hf⟩ := ob hf
    refine r_getR (pc := 136) X dX11_night_136 fl_X11_12 rfl ea35 ?_
    obtain ⟨u36, eu36, hf⟩ := ob hf
    obtain ⟨h37, eh37, hf⟩ := ob hf
    refine r_callVV (pc := 139) X [] dX11_night_139 ml_X11_148 vo_X8_clear ⟨Nat.le_refl _, Nat.le_refl _⟩ eu36 (ev_X8_clear (d := d - 1) (by omega) _ _ _ eh37) hd1 rfl (Nat.le_of_ble_eq_true rfl) rfl ?_
    refine r_iload_n (pc := 142) X dX11_night_142 rfl ?_
    obtain ⟨t38, et38, hf⟩ := ob hf
    have Jt38 : Jd Γ (0, 0) 157 [some (.ref p0), j33, some (.int o32.1), some (.int o32.2.1), j34] [] t38 := by
      refine r_aload_n (pc := 157) X dX11_night_157 rfl ?_
      obtain ⟨a39, ea39, hf⟩ := ob hf
      refine r_getR (pc := 158) X dX11_night_158 fl_X11_81 rfl ea39 ?_
      obtain ⟨u40, eu40, hf⟩ := ob hf
      obtain ⟨h41, eh41, hf⟩ := ob hf
      refine r_callVV (pc := 161) X [] dX11_night_161 ml_X11_242 vo_X3_begin ⟨Nat.le_refl _, Nat.le_refl _⟩ eu40 (ev_X3_begin (d := d - 1) (by omega) _ _ _ eh41) hd1 rfl (Nat.le_of_ble_eq_true rfl) rfl ?_
      refine r_aload_n (pc := 164) X dX11_night_164 rfl ?_
      obtain ⟨a42, ea42, hf⟩ := ob hf
      refine r_getR (pc := 165) X dX11_night_165 fl_X11_81 rfl ea42 ?_
      refine r_iload_n (pc := 168) X dX11_night_168 rfl ?_
      obtain ⟨t43, et43, hf⟩ := ob hf
      have Jt43 : Jd Γ (0, 0) 177 [some (.ref p0), j33, some (.int o32.1), some (.int o32.2.1), j34] [.long t43, .ref a42] h41 := by
        obtain ⟨u44, eu44, hf⟩ := ob hf
        obtain ⟨h45, eh45, hf⟩ := ob hf
        refine r_callVV (pc := 177) X [.long t43] dX11_night_177 ml_X11_248 vo_X3_add ⟨Nat.le_refl _, Nat.le_refl _⟩ eu44 (ev_X3_add (d := d - 1) (by omega) _ _ _ _ eh45) hd1 rfl (Nat.le_of_ble_eq_true rfl) rfl ?_
        refine r_aload_n (pc := 180) X dX11_night_180 rfl ?_
        obtain ⟨a46, ea46, hf⟩ := ob hf
        refine r_getR (pc := 181) X dX11_night_181 fl_X11_81 rfl ea46 ?_
        refine r_aload_n (pc := 184) X dX11_night_184 rfl ?_
        refine r_aload_n (pc := 185) X dX11_night_185 rfl ?_
        obtain ⟨a47, ea47, hf⟩ := ob hf
        refine r_getR (pc := 186) X dX11_night_186 fl_X11_61 rfl ea47 ?_
        obtain ⟨u48, eu48, hf⟩ := ob hf
        obtain ⟨x49, ex49, hf⟩ := ob hf
        refine r_callVI (pc := 189) X [.ref a47] dX11_night_189 ml_X11_226 vo_X11_together ⟨Nat.le_refl _, Nat.le_refl _⟩ eu48 (ev_X11_together (d := d - 1) (by omega) _ _ _ _ ex49) hd1 rfl (Nat.le_of_ble_eq_true rfl) rfl ?_
        refine r_i2l (pc := 192) X dX11_night_192 ?_
        obtain ⟨u50, eu50, hf⟩ := ob hf
        obtain ⟨h51, eh51, hf⟩ := ob hf
        refine r_callVV (pc := 193) X [.long (Int32.toInt64 x49)] dX11_night_193 ml_X11_248 vo_X3_add ⟨Nat.le_refl _, Nat.le_refl _⟩ eu50 (ev_X3_add (d := d - 1) (by omega) _ _ _ _ eh51) hd1 rfl (Nat.le_of_ble_eq_true rfl) rfl ?_
        refine r_iload_n (pc := 196) X dX11_night_196 rfl ?_
        obtain rfl := Option.some.inj hf
        exact r_iret (pc := 197) X dX11_night_197 hk
      refine r_if_eq (pc := 169) X 176 dX11_night_169 (by decide) (fun c52 => ?_) (fun c52 => ?_)
      · rw [if_pos c52] at et43
        refine r_lconst (pc := 176) X 0 dX11_night_176 (by decide) ?_
        obtain rfl := Option.some.inj et43
        exact Jt43
      · rw [if_neg c52] at et43
        refine r_lconst (pc := 172) X 1 dX11_night_172 (by decide) ?_
        refine r_goto (pc := 173) X 177 dX11_night_173 (by decide) ?_
        obtain rfl := Option.some.inj et43
        exact Jt43
    refine r_if_le (pc := 143) X 157 dX11_night_143 (by decide) (fun c57 => ?_) (fun c57 => ?_)
    · rw [if_pos c57] at et38
      obtain rfl := Option.some.inj et38
      exact Jt38
    · rw [if_neg c57] at et38
      refine r_aload_n (pc := 146) X dX11_night_146 rfl ?_
      obtain ⟨a53, ea53, et38⟩ := ob et38
      refine r_getR (pc := 147) X dX11_night_147 fl_X11_74 rfl ea53 ?_
      refine r_aload_n (pc := 150) X dX11_night_150 rfl ?_
      obtain ⟨a54, ea54, et38⟩ := ob et38
      refine r_getR (pc := 151) X dX11_night_151 fl_X11_65 rfl ea54 ?_
      obtain ⟨u55, eu55, et38⟩ := ob et38
      obtain ⟨h56, eh56, et38⟩ := ob et38
      refine r_callVV (pc := 154) X [.ref a54] dX11_night_154 ml_X11_261 vo_X2_push ⟨Nat.le_refl _, Nat.le_refl _⟩ eu55 (ev_X2_push (d := d - 1) (by omega) _ _ _ _ eh56) hd1 rfl (Nat.le_of_ble_eq_true rfl) rfl ?_
      obtain rfl := Option.some.inj et38
      exact Jt38
  · rw [if_neg c61] at hf
    refine r_aload_n (pc := 10) X dX11_night_10 rfl ?_
    obtain ⟨a58, ea58, hf⟩ := ob hf
    refine r_getR (pc := 11) X dX11_night_11 fl_X11_12 rfl ea58 ?_
    obtain ⟨u59, eu59, hf⟩ := ob hf
    obtain ⟨h60, eh60, hf⟩ := ob hf
    refine r_callVV (pc := 14) X [] dX11_night_14 ml_X11_148 vo_X8_clear ⟨Nat.le_refl _, Nat.le_refl _⟩ eu59 (ev_X8_clear (d := d - 1) (by omega) _ _ _ eh60) hd1 rfl (Nat.le_of_ble_eq_true rfl) rfl ?_
    refine r_iconst (pc := 17) X (-1) dX11_night_17 (by decide) ?_
    refine r_iload_n (pc := 18) X dX11_night_18 rfl ?_
    refine r_isub (pc := 19) X dX11_night_19 ?_
    obtain rfl := Option.some.inj hf
    exact r_iret (pc := 20) X dX11_night_20 hk

theorem dX11_undo_0 : decode cX11_undo 0 = .ok (.aload_n 0, 1) := by decide +kernel
theorem dX11_undo_1 : decode cX11_undo 1 = .ok (.getfield 74, 3) := by decide +kernel
theorem dX11_undo_4 : decode cX11_undo 4 = .ok (.aload_n 0, 1) := by decide +kernel
theorem dX11_undo_5 : decode cX11_undo 5 = .ok (.getfield 61, 3) := by decide +kernel
theorem dX11_undo_8 : decode cX11_undo 8 = .ok (.invokevirtual 306, 3) := by decide +kernel
theorem dX11_undo_11 : decode cX11_undo 11 = .ok (.ireturn, 1) := by decide +kernel
def fn_X11_undo (h : aH) (p0 : Nat) : Option (Int32 × aH) :=
  (gR h p0 10 10).bind fun a1 =>
  (gR h p0 10 7).bind fun a2 =>
  (ck h a1 1).bind fun u3 =>
  (fn_X2_pop h a1 a2).bind fun o4 =>
  some (o4.1, o4.2)
set_option maxRecDepth 20000 in
set_option maxHeartbeats 4000000 in
theorem ev_X11_undo {l : Launch} {g : aG} {d : Nat} (hd : 3 ≤ d) (h : aH) (p0 : Nat) (o : Int32 × aH) (hf : fn_X11_undo h p0 = some o) : EvM l g d yX11_undo cX11_undo 1 (some .int) [.ref p0] h (some (.int o.1), o.2) := by
  refine EvM.of mk_X11_undo (Nat.le_of_ble_eq_true rfl) ?_
  intro Γ hl hg hq X
  have hd1 : 1 ≤ d := by omega
  have hk : RqI Γ o := hq
  unfold fn_X11_undo at hf
  show Jd Γ (0, 0) 0 [some (.ref p0)] [] h
  refine r_aload_n (pc := 0) X dX11_undo_0 rfl ?_
  obtain ⟨a1, ea1, hf⟩ := ob hf
  refine r_getR (pc := 1) X dX11_undo_1 fl_X11_74 rfl ea1 ?_
  refine r_aload_n (pc := 4) X dX11_undo_4 rfl ?_
  obtain ⟨a2, ea2, hf⟩ := ob hf
  refine r_getR (pc := 5) X dX11_undo_5 fl_X11_61 rfl ea2 ?_
  obtain ⟨u3, eu3, hf⟩ := ob hf
  obtain ⟨o4, eo4, hf⟩ := ob hf
  refine r_callVI (pc := 8) X [.ref a2] dX11_undo_8 ml_X11_306 vo_X2_pop ⟨Nat.le_refl _, Nat.le_refl _⟩ eu3 (ev_X2_pop (d := d - 1) (by omega) _ _ _ _ eo4) hd1 rfl (Nat.le_of_ble_eq_true rfl) rfl ?_
  obtain rfl := Option.some.inj hf
  exact r_iret (pc := 11) X dX11_undo_11 hk

theorem dX11_startTrial_0 : decode cX11_startTrial 0 = .ok (.aload_n 0, 1) := by decide +kernel
theorem dX11_startTrial_1 : decode cX11_startTrial 1 = .ok (.getfield 68, 3) := by decide +kernel
theorem dX11_startTrial_4 : decode cX11_startTrial 4 = .ok (.aload_n 0, 1) := by decide +kernel
theorem dX11_startTrial_5 : decode cX11_startTrial 5 = .ok (.getfield 61, 3) := by decide +kernel
theorem dX11_startTrial_8 : decode cX11_startTrial 8 = .ok (.invokevirtual 255, 3) := by decide +kernel
theorem dX11_startTrial_11 : decode cX11_startTrial 11 = .ok (.aload_n 0, 1) := by decide +kernel
theorem dX11_startTrial_12 : decode cX11_startTrial 12 = .ok (.getfield 19, 3) := by decide +kernel
theorem dX11_startTrial_15 : decode cX11_startTrial 15 = .ok (.invokevirtual 282, 3) := by decide +kernel
theorem dX11_startTrial_18 : decode cX11_startTrial 18 = .ok (.return_, 1) := by decide +kernel
def fn_X11_startTrial (h : aH) (p0 : Nat) : Option (aH) :=
  (gR h p0 10 9).bind fun a1 =>
  (gR h p0 10 7).bind fun a2 =>
  (ck h a1 6).bind fun u3 =>
  (fn_X7_takes h a1 a2).bind fun h4 =>
  (gR h4 p0 10 1).bind fun a5 =>
  (ck h4 a5 0).bind fun u6 =>
  (fn_X0_begin h4 a5).bind fun h7 =>
  some h7
set_option maxRecDepth 20000 in
set_option maxHeartbeats 4000000 in
theorem ev_X11_startTrial {l : Launch} {g : aG} {d : Nat} (hd : 2 ≤ d) (h : aH) (p0 : Nat) (o : aH) (hf : fn_X11_startTrial h p0 = some o) : EvM l g d yX11_startTrial cX11_startTrial 1 none [.ref p0] h (none, o) := by
  refine EvM.of mk_X11_startTrial (Nat.le_of_ble_eq_true rfl) ?_
  intro Γ hl hg hq X
  have hd1 : 1 ≤ d := by omega
  have hk : RqV Γ o := hq
  unfold fn_X11_startTrial at hf
  show Jd Γ (0, 0) 0 [some (.ref p0)] [] h
  refine r_aload_n (pc := 0) X dX11_startTrial_0 rfl ?_
  obtain ⟨a1, ea1, hf⟩ := ob hf
  refine r_getR (pc := 1) X dX11_startTrial_1 fl_X11_68 rfl ea1 ?_
  refine r_aload_n (pc := 4) X dX11_startTrial_4 rfl ?_
  obtain ⟨a2, ea2, hf⟩ := ob hf
  refine r_getR (pc := 5) X dX11_startTrial_5 fl_X11_61 rfl ea2 ?_
  obtain ⟨u3, eu3, hf⟩ := ob hf
  obtain ⟨h4, eh4, hf⟩ := ob hf
  refine r_callVV (pc := 8) X [.ref a2] dX11_startTrial_8 ml_X11_255 vo_X7_takes ⟨Nat.le_refl _, Nat.le_refl _⟩ eu3 (ev_X7_takes (d := d - 1) (by omega) _ _ _ _ eh4) hd1 rfl (Nat.le_of_ble_eq_true rfl) rfl ?_
  refine r_aload_n (pc := 11) X dX11_startTrial_11 rfl ?_
  obtain ⟨a5, ea5, hf⟩ := ob hf
  refine r_getR (pc := 12) X dX11_startTrial_12 fl_X11_19 rfl ea5 ?_
  obtain ⟨u6, eu6, hf⟩ := ob hf
  obtain ⟨h7, eh7, hf⟩ := ob hf
  refine r_callVV (pc := 15) X [] dX11_startTrial_15 ml_X11_282 vo_X0_begin ⟨Nat.le_refl _, Nat.le_refl _⟩ eu6 (ev_X0_begin (d := d - 1) (by omega) _ _ _ eh7) hd1 rfl (Nat.le_of_ble_eq_true rfl) rfl ?_
  obtain rfl := Option.some.inj hf
  exact r_vret (pc := 18) X dX11_startTrial_18 hk

theorem dX11_later_0 : decode cX11_later 0 = .ok (.aload_n 0, 1) := by decide +kernel
theorem dX11_later_1 : decode cX11_later 1 = .ok (.getfield 19, 3) := by decide +kernel
theorem dX11_later_4 : decode cX11_later 4 = .ok (.iload_n 1, 1) := by decide +kernel
theorem dX11_later_5 : decode cX11_later 5 = .ok (.invokevirtual 172, 3) := by decide +kernel
theorem dX11_later_8 : decode cX11_later 8 = .ok (.ifCond .eq 13, 3) := by decide +kernel
theorem dX11_later_11 : decode cX11_later 11 = .ok (.iload_n 2, 1) := by decide +kernel
theorem dX11_later_12 : decode cX11_later 12 = .ok (.ifCond .lt 9, 3) := by decide +kernel
theorem dX11_later_15 : decode cX11_later 15 = .ok (.iload_n 2, 1) := by decide +kernel
theorem dX11_later_16 : decode cX11_later 16 = .ok (.bipush 99, 2) := by decide +kernel
theorem dX11_later_18 : decode cX11_later 18 = .ok (.if_icmp .le 5, 3) := by decide +kernel
theorem dX11_later_21 : decode cX11_later 21 = .ok (.iconst (-1), 1) := by decide +kernel
theorem dX11_later_22 : decode cX11_later 22 = .ok (.ireturn, 1) := by decide +kernel
theorem dX11_later_23 : decode cX11_later 23 = .ok (.aload_n 0, 1) := by decide +kernel
theorem dX11_later_24 : decode cX11_later 24 = .ok (.invokevirtual 309, 3) := by decide +kernel
theorem dX11_later_27 : decode cX11_later 27 = .ok (.aload_n 0, 1) := by decide +kernel
theorem dX11_later_28 : decode cX11_later 28 = .ok (.getfield 19, 3) := by decide +kernel
theorem dX11_later_31 : decode cX11_later 31 = .ok (.aload_n 0, 1) := by decide +kernel
theorem dX11_later_32 : decode cX11_later 32 = .ok (.getfield 68, 3) := by decide +kernel
theorem dX11_later_35 : decode cX11_later 35 = .ok (.aload_n 0, 1) := by decide +kernel
theorem dX11_later_36 : decode cX11_later 36 = .ok (.getfield 42, 3) := by decide +kernel
theorem dX11_later_39 : decode cX11_later 39 = .ok (.iload_n 2, 1) := by decide +kernel
theorem dX11_later_40 : decode cX11_later 40 = .ok (.invokevirtual 312, 3) := by decide +kernel
theorem dX11_later_43 : decode cX11_later 43 = .ok (.aload_n 0, 1) := by decide +kernel
theorem dX11_later_44 : decode cX11_later 44 = .ok (.getfield 81, 3) := by decide +kernel
theorem dX11_later_47 : decode cX11_later 47 = .ok (.invokevirtual 242, 3) := by decide +kernel
theorem dX11_later_50 : decode cX11_later 50 = .ok (.aload_n 0, 1) := by decide +kernel
theorem dX11_later_51 : decode cX11_later 51 = .ok (.getfield 81, 3) := by decide +kernel
theorem dX11_later_54 : decode cX11_later 54 = .ok (.aload_n 0, 1) := by decide +kernel
theorem dX11_later_55 : decode cX11_later 55 = .ok (.aload_n 0, 1) := by decide +kernel
theorem dX11_later_56 : decode cX11_later 56 = .ok (.getfield 68, 3) := by decide +kernel
theorem dX11_later_59 : decode cX11_later 59 = .ok (.invokevirtual 226, 3) := by decide +kernel
theorem dX11_later_62 : decode cX11_later 62 = .ok (.i2l, 1) := by decide +kernel
theorem dX11_later_63 : decode cX11_later 63 = .ok (.invokevirtual 248, 3) := by decide +kernel
theorem dX11_later_66 : decode cX11_later 66 = .ok (.aload_n 0, 1) := by decide +kernel
theorem dX11_later_67 : decode cX11_later 67 = .ok (.getfield 81, 3) := by decide +kernel
theorem dX11_later_70 : decode cX11_later 70 = .ok (.aload_n 0, 1) := by decide +kernel
theorem dX11_later_71 : decode cX11_later 71 = .ok (.getfield 68, 3) := by decide +kernel
theorem dX11_later_74 : decode cX11_later 74 = .ok (.getfield 213, 3) := by decide +kernel
theorem dX11_later_77 : decode cX11_later 77 = .ok (.i2l, 1) := by decide +kernel
theorem dX11_later_78 : decode cX11_later 78 = .ok (.invokevirtual 248, 3) := by decide +kernel
theorem dX11_later_81 : decode cX11_later 81 = .ok (.aload_n 0, 1) := by decide +kernel
theorem dX11_later_82 : decode cX11_later 82 = .ok (.getfield 68, 3) := by decide +kernel
theorem dX11_later_85 : decode cX11_later 85 = .ok (.getfield 154, 3) := by decide +kernel
theorem dX11_later_88 : decode cX11_later 88 = .ok (.iload_n 1, 1) := by decide +kernel
theorem dX11_later_89 : decode cX11_later 89 = .ok (.iaload, 1) := by decide +kernel
theorem dX11_later_90 : decode cX11_later 90 = .ok (.ireturn, 1) := by decide +kernel
def fn_X11_later (h : aH) (p0 : Nat) (p1 : Int32) (p2 : Int32) : Option (Int32 × aH) :=
  (gR h p0 10 1).bind fun a1 =>
  (ck h a1 0).bind fun u2 =>
  (fn_X0_hasBasin h a1 p1).bind fun x3 =>
  if x3 = 0 then
    some ((-1), h)
  else
    if p2 < 0 then
      some ((-1), h)
    else
      if p2 ≤ 99 then
        (ck h p0 10).bind fun u4 =>
        (fn_X11_startTrial h p0).bind fun h5 =>
        (gR h5 p0 10 1).bind fun a6 =>
        (gR h5 p0 10 9).bind fun a7 =>
        (gR h5 p0 10 4).bind fun a8 =>
        (ck h5 a6 0).bind fun u9 =>
        (fn_X0_run h5 a6 a7 a8 p2).bind fun h10 =>
        (gR h10 p0 10 11).bind fun a11 =>
        (ck h10 a11 2).bind fun u12 =>
        (fn_X3_begin h10 a11).bind fun h13 =>
        (gR h13 p0 10 11).bind fun a14 =>
        (gR h13 p0 10 9).bind fun a15 =>
        (ck h13 p0 10).bind fun u16 =>
        (fn_X11_together h13 p0 a15).bind fun x17 =>
        (ck h13 a14 2).bind fun u18 =>
        (fn_X3_add h13 a14 (Int32.toInt64 x17)).bind fun h19 =>
        (gR h19 p0 10 11).bind fun a20 =>
        (gR h19 p0 10 9).bind fun a21 =>
        (gI h19 a21 6 2).bind fun x22 =>
        (ck h19 a20 2).bind fun u23 =>
        (fn_X3_add h19 a20 (Int32.toInt64 x22)).bind fun h24 =>
        (gR h24 p0 10 9).bind fun a25 =>
        (gR h24 a25 6 0).bind fun a26 =>
        (aI h24 a26 14 p1).bind fun x27 =>
        some (x27, h24)
      else
        some ((-1), h)
set_option maxRecDepth 20000 in
set_option maxHeartbeats 4000000 in
theorem ev_X11_later {l : Launch} {g : aG} {d : Nat} (hd : 5 ≤ d) (h : aH) (p0 : Nat) (p1 : Int32) (p2 : Int32) (o : Int32 × aH) (hf : fn_X11_later h p0 p1 p2 = some o) : EvM l g d yX11_later cX11_later 3 (some .int) [.ref p0, .int p1, .int p2] h (some (.int o.1), o.2) := by
  refine EvM.of mk_X11_later (Nat.le_of_ble_eq_true rfl) ?_
  intro Γ hl hg hq X
  have hd1 : 1 ≤ d := by omega
  have hk : RqI Γ o := hq
  unfold fn_X11_later at hf
  show Jd Γ (0, 0) 0 [some (.ref p0), some (.int p1), some (.int p2)] [] h
  refine r_aload_n (pc := 0) X dX11_later_0 rfl ?_
  obtain ⟨a1, ea1, hf⟩ := ob hf
  refine r_getR (pc := 1) X dX11_later_1 fl_X11_19 rfl ea1 ?_
  refine r_iload_n (pc := 4) X dX11_later_4 rfl ?_
  obtain ⟨u2, eu2, hf⟩ := ob hf
  obtain ⟨x3, ex3, hf⟩ := ob hf
  refine r_callVI (pc := 5) X [.int p1] dX11_later_5 ml_X11_172 vo_X0_hasBasin ⟨Nat.le_refl _, Nat.le_refl _⟩ eu2 (ev_X0_hasBasin (d := d - 1) (by omega) _ _ _ _ ex3) hd1 rfl (Nat.le_of_ble_eq_true rfl) rfl ?_
  refine r_if_eq (pc := 8) X 21 dX11_later_8 (by decide) (fun c30 => ?_) (fun c30 => ?_)
  · rw [if_pos c30] at hf
    refine r_iconst (pc := 21) X (-1) dX11_later_21 (by decide) ?_
    obtain rfl := Option.some.inj hf
    exact r_iret (pc := 22) X dX11_later_22 hk
  · rw [if_neg c30] at hf
    refine r_iload_n (pc := 11) X dX11_later_11 rfl ?_
    refine r_if_lt (pc := 12) X 21 dX11_later_12 (by decide) (fun c29 => ?_) (fun c29 => ?_)
    · rw [if_pos c29] at hf
      refine r_iconst (pc := 21) X (-1) dX11_later_21 (by decide) ?_
      obtain rfl := Option.some.inj hf
      exact r_iret (pc := 22) X dX11_later_22 hk
    · rw [if_neg c29] at hf
      refine r_iload_n (pc := 15) X dX11_later_15 rfl ?_
      refine r_bipush (pc := 16) X 99 dX11_later_16 (by decide) ?_
      refine r_icmp_le (pc := 18) X 23 dX11_later_18 (by decide) (fun c28 => ?_) (fun c28 => ?_)
      · rw [if_pos c28] at hf
        refine r_aload_n (pc := 23) X dX11_later_23 rfl ?_
        obtain ⟨u4, eu4, hf⟩ := ob hf
        obtain ⟨h5, eh5, hf⟩ := ob hf
        refine r_callVV (pc := 24) X [] dX11_later_24 ml_X11_309 vo_X11_startTrial ⟨Nat.le_refl _, Nat.le_refl _⟩ eu4 (ev_X11_startTrial (d := d - 1) (by omega) _ _ _ eh5) hd1 rfl (Nat.le_of_ble_eq_true rfl) rfl ?_
        refine r_aload_n (pc := 27) X dX11_later_27 rfl ?_
        obtain ⟨a6, ea6, hf⟩ := ob hf
        refine r_getR (pc := 28) X dX11_later_28 fl_X11_19 rfl ea6 ?_
        refine r_aload_n (pc := 31) X dX11_later_31 rfl ?_
        obtain ⟨a7, ea7, hf⟩ := ob hf
        refine r_getR (pc := 32) X dX11_later_32 fl_X11_68 rfl ea7 ?_
        refine r_aload_n (pc := 35) X dX11_later_35 rfl ?_
        obtain ⟨a8, ea8, hf⟩ := ob hf
        refine r_getR (pc := 36) X dX11_later_36 fl_X11_42 rfl ea8 ?_
        refine r_iload_n (pc := 39) X dX11_later_39 rfl ?_
        obtain ⟨u9, eu9, hf⟩ := ob hf
        obtain ⟨h10, eh10, hf⟩ := ob hf
        refine r_callVV (pc := 40) X [.ref a7, .ref a8, .int p2] dX11_later_40 ml_X11_312 vo_X0_run ⟨Nat.le_refl _, Nat.le_refl _⟩ eu9 (ev_X0_run (d := d - 1) (by omega) _ _ _ _ _ _ eh10) hd1 rfl (Nat.le_of_ble_eq_true rfl) rfl ?_
        refine r_aload_n (pc := 43) X dX11_later_43 rfl ?_
        obtain ⟨a11, ea11, hf⟩ := ob hf
        refine r_getR (pc := 44) X dX11_later_44 fl_X11_81 rfl ea11 ?_
        obtain ⟨u12, eu12, hf⟩ := ob hf
        obtain ⟨h13, eh13, hf⟩ := ob hf
        refine r_callVV (pc := 47) X [] dX11_later_47 ml_X11_242 vo_X3_begin ⟨Nat.le_refl _, Nat.le_refl _⟩ eu12 (ev_X3_begin (d := d - 1) (by omega) _ _ _ eh13) hd1 rfl (Nat.le_of_ble_eq_true rfl) rfl ?_
        refine r_aload_n (pc := 50) X dX11_later_50 rfl ?_
        obtain ⟨a14, ea14, hf⟩ := ob hf
        refine r_getR (pc := 51) X dX11_later_51 fl_X11_81 rfl ea14 ?_
        refine r_aload_n (pc := 54) X dX11_later_54 rfl ?_
        refine r_aload_n (pc := 55) X dX11_later_55 rfl ?_
        obtain ⟨a15, ea15, hf⟩ := ob hf
        refine r_getR (pc := 56) X dX11_later_56 fl_X11_68 rfl ea15 ?_
        obtain ⟨u16, eu16, hf⟩ := ob hf
        obtain ⟨x17, ex17, hf⟩ := ob hf
        refine r_callVI (pc := 59) X [.ref a15] dX11_later_59 ml_X11_226 vo_X11_together ⟨Nat.le_refl _, Nat.le_refl _⟩ eu16 (ev_X11_together (d := d - 1) (by omega) _ _ _ _ ex17) hd1 rfl (Nat.le_of_ble_eq_true rfl) rfl ?_
        refine r_i2l (pc := 62) X dX11_later_62 ?_
        obtain ⟨u18, eu18, hf⟩ := ob hf
        obtain ⟨h19, eh19, hf⟩ := ob hf
        refine r_callVV (pc := 63) X [.long (Int32.toInt64 x17)] dX11_later_63 ml_X11_248 vo_X3_add ⟨Nat.le_refl _, Nat.le_refl _⟩ eu18 (ev_X3_add (d := d - 1) (by omega) _ _ _ _ eh19) hd1 rfl (Nat.le_of_ble_eq_true rfl) rfl ?_
        refine r_aload_n (pc := 66) X dX11_later_66 rfl ?_
        obtain ⟨a20, ea20, hf⟩ := ob hf
        refine r_getR (pc := 67) X dX11_later_67 fl_X11_81 rfl ea20 ?_
        refine r_aload_n (pc := 70) X dX11_later_70 rfl ?_
        obtain ⟨a21, ea21, hf⟩ := ob hf
        refine r_getR (pc := 71) X dX11_later_71 fl_X11_68 rfl ea21 ?_
        obtain ⟨x22, ex22, hf⟩ := ob hf
        refine r_getI (pc := 74) X dX11_later_74 fl_X11_213 rfl ex22 ?_
        refine r_i2l (pc := 77) X dX11_later_77 ?_
        obtain ⟨u23, eu23, hf⟩ := ob hf
        obtain ⟨h24, eh24, hf⟩ := ob hf
        refine r_callVV (pc := 78) X [.long (Int32.toInt64 x22)] dX11_later_78 ml_X11_248 vo_X3_add ⟨Nat.le_refl _, Nat.le_refl _⟩ eu23 (ev_X3_add (d := d - 1) (by omega) _ _ _ _ eh24) hd1 rfl (Nat.le_of_ble_eq_true rfl) rfl ?_
        refine r_aload_n (pc := 81) X dX11_later_81 rfl ?_
        obtain ⟨a25, ea25, hf⟩ := ob hf
        refine r_getR (pc := 82) X dX11_later_82 fl_X11_68 rfl ea25 ?_
        obtain ⟨a26, ea26, hf⟩ := ob hf
        refine r_getR (pc := 85) X dX11_later_85 fl_X11_154 rfl ea26 ?_
        refine r_iload_n (pc := 88) X dX11_later_88 rfl ?_
        obtain ⟨x27, ex27, hf⟩ := ob hf
        refine r_iald (pc := 89) X dX11_later_89 ex27 ?_
        obtain rfl := Option.some.inj hf
        exact r_iret (pc := 90) X dX11_later_90 hk
      · rw [if_neg c28] at hf
        refine r_iconst (pc := 21) X (-1) dX11_later_21 (by decide) ?_
        obtain rfl := Option.some.inj hf
        exact r_iret (pc := 22) X dX11_later_22 hk

theorem dX11_marked_0 : decode cX11_marked 0 = .ok (.aload_n 0, 1) := by decide +kernel
theorem dX11_marked_1 : decode cX11_marked 1 = .ok (.getfield 19, 3) := by decide +kernel
theorem dX11_marked_4 : decode cX11_marked 4 = .ok (.iload_n 1, 1) := by decide +kernel
theorem dX11_marked_5 : decode cX11_marked 5 = .ok (.invokevirtual 172, 3) := by decide +kernel
theorem dX11_marked_8 : decode cX11_marked 8 = .ok (.ifCond .ne 5, 3) := by decide +kernel
theorem dX11_marked_11 : decode cX11_marked 11 = .ok (.iconst (-1), 1) := by decide +kernel
theorem dX11_marked_12 : decode cX11_marked 12 = .ok (.ireturn, 1) := by decide +kernel
theorem dX11_marked_13 : decode cX11_marked 13 = .ok (.aload_n 0, 1) := by decide +kernel
theorem dX11_marked_14 : decode cX11_marked 14 = .ok (.invokevirtual 309, 3) := by decide +kernel
theorem dX11_marked_17 : decode cX11_marked 17 = .ok (.bipush (-2), 2) := by decide +kernel
theorem dX11_marked_19 : decode cX11_marked 19 = .ok (.istore_n 2, 1) := by decide +kernel
theorem dX11_marked_20 : decode cX11_marked 20 = .ok (.iconst 0, 1) := by decide +kernel
theorem dX11_marked_21 : decode cX11_marked 21 = .ok (.istore_n 3, 1) := by decide +kernel
theorem dX11_marked_22 : decode cX11_marked 22 = .ok (.iconst 0, 1) := by decide +kernel
theorem dX11_marked_23 : decode cX11_marked 23 = .ok (.istore 4, 2) := by decide +kernel
theorem dX11_marked_25 : decode cX11_marked 25 = .ok (.iload 4, 2) := by decide +kernel
theorem dX11_marked_27 : decode cX11_marked 27 = .ok (.bipush 99, 2) := by decide +kernel
theorem dX11_marked_29 : decode cX11_marked 29 = .ok (.if_icmp .gt 51, 3) := by decide +kernel
theorem dX11_marked_32 : decode cX11_marked 32 = .ok (.aload_n 0, 1) := by decide +kernel
theorem dX11_marked_33 : decode cX11_marked 33 = .ok (.getfield 68, 3) := by decide +kernel
theorem dX11_marked_36 : decode cX11_marked 36 = .ok (.iload_n 1, 1) := by decide +kernel
theorem dX11_marked_37 : decode cX11_marked 37 = .ok (.invokevirtual 316, 3) := by decide +kernel
theorem dX11_marked_40 : decode cX11_marked 40 = .ok (.ifCond .eq 19, 3) := by decide +kernel
theorem dX11_marked_43 : decode cX11_marked 43 = .ok (.iload_n 2, 1) := by decide +kernel
theorem dX11_marked_44 : decode cX11_marked 44 = .ok (.bipush (-2), 2) := by decide +kernel
theorem dX11_marked_46 : decode cX11_marked 46 = .ok (.if_icmp .ne 8, 3) := by decide +kernel
theorem dX11_marked_49 : decode cX11_marked 49 = .ok (.iload 4, 2) := by decide +kernel
theorem dX11_marked_51 : decode cX11_marked 51 = .ok (.goto 4, 3) := by decide +kernel
theorem dX11_marked_54 : decode cX11_marked 54 = .ok (.iload_n 2, 1) := by decide +kernel
theorem dX11_marked_55 : decode cX11_marked 55 = .ok (.istore_n 2, 1) := by decide +kernel
theorem dX11_marked_56 : decode cX11_marked 56 = .ok (.iinc 3 1, 3) := by decide +kernel
theorem dX11_marked_59 : decode cX11_marked 59 = .ok (.aload_n 0, 1) := by decide +kernel
theorem dX11_marked_60 : decode cX11_marked 60 = .ok (.getfield 19, 3) := by decide +kernel
theorem dX11_marked_63 : decode cX11_marked 63 = .ok (.aload_n 0, 1) := by decide +kernel
theorem dX11_marked_64 : decode cX11_marked 64 = .ok (.getfield 68, 3) := by decide +kernel
theorem dX11_marked_67 : decode cX11_marked 67 = .ok (.aload_n 0, 1) := by decide +kernel
theorem dX11_marked_68 : decode cX11_marked 68 = .ok (.getfield 42, 3) := by decide +kernel
theorem dX11_marked_71 : decode cX11_marked 71 = .ok (.invokevirtual 283, 3) := by decide +kernel
theorem dX11_marked_74 : decode cX11_marked 74 = .ok (.iinc 4 1, 3) := by decide +kernel
theorem dX11_marked_77 : decode cX11_marked 77 = .ok (.goto (-52), 3) := by decide +kernel
theorem dX11_marked_80 : decode cX11_marked 80 = .ok (.iload_n 2, 1) := by decide +kernel
theorem dX11_marked_81 : decode cX11_marked 81 = .ok (.bipush (-2), 2) := by decide +kernel
theorem dX11_marked_83 : decode cX11_marked 83 = .ok (.if_icmp .eq 19, 3) := by decide +kernel
theorem dX11_marked_86 : decode cX11_marked 86 = .ok (.aload_n 0, 1) := by decide +kernel
theorem dX11_marked_87 : decode cX11_marked 87 = .ok (.getfield 81, 3) := by decide +kernel
theorem dX11_marked_90 : decode cX11_marked 90 = .ok (.invokevirtual 242, 3) := by decide +kernel
theorem dX11_marked_93 : decode cX11_marked 93 = .ok (.aload_n 0, 1) := by decide +kernel
theorem dX11_marked_94 : decode cX11_marked 94 = .ok (.getfield 81, 3) := by decide +kernel
theorem dX11_marked_97 : decode cX11_marked 97 = .ok (.iload_n 3, 1) := by decide +kernel
theorem dX11_marked_98 : decode cX11_marked 98 = .ok (.i2l, 1) := by decide +kernel
theorem dX11_marked_99 : decode cX11_marked 99 = .ok (.invokevirtual 248, 3) := by decide +kernel
theorem dX11_marked_102 : decode cX11_marked 102 = .ok (.iload_n 2, 1) := by decide +kernel
theorem dX11_marked_103 : decode cX11_marked 103 = .ok (.ireturn, 1) := by decide +kernel
def lb_X11_marked_25 (v0 : Nat) (v1 : Int32) (s : Int32 × Int32 × Int32 × aH) : Option ((Int32 × Int32 × Int32 × aH) ⊕ ((Int32 × Int32 × aH))) :=
  if s.2.2.1 ≤ 99 then
    (gR s.2.2.2 v0 10 9).bind fun a6 =>
    (ck s.2.2.2 a6 6).bind fun u7 =>
    (fn_X7_isAtMark s.2.2.2 a6 v1).bind fun x8 =>
    ((
      if x8 = 0 then
        some (s.1, s.2.1)
      else
        if s.1 = (-2) then
          (some (s.2.1 + 1)).bind fun x17 =>
          some (s.2.2.1, x17)
        else
          (some (s.2.1 + 1)).bind fun x16 =>
          some (s.1, x16)
    ) : Option (Int32 × Int32)).bind fun t9 =>
    (gR s.2.2.2 v0 10 1).bind fun a10 =>
    (gR s.2.2.2 v0 10 9).bind fun a11 =>
    (gR s.2.2.2 v0 10 4).bind fun a12 =>
    (ck s.2.2.2 a10 0).bind fun u13 =>
    (fn_X0_pass s.2.2.2 a10 a11 a12).bind fun h14 =>
    (some (s.2.2.1 + 1)).bind fun x15 =>
    some (.inl (t9.1, t9.2, x15, h14))
  else
    some (.inr (s.1, s.2.1, s.2.2.2))
def hd_X11_marked_25 (Γ : aC) (v0 : Nat) (v1 : Int32) (s : Int32 × Int32 × Int32 × aH) : Prop := Jd Γ (0, 0) 25 [some (.ref v0), some (.int v1), some (.int s.1), some (.int s.2.1), some (.int s.2.2.1)] [] s.2.2.2
def ex_X11_marked_25 (Γ : aC) (v0 : Nat) (v1 : Int32) (r : (Int32 × Int32 × aH)) : Prop := (fun r => ∀ (j4 : Option Value), Jd Γ (0, 0) 80 [some (.ref v0), some (.int v1), some (.int r.1), some (.int r.2.1), j4] [] r.2.2) r
set_option maxRecDepth 20000 in
set_option maxHeartbeats 4000000 in
theorem lw_X11_marked_25 {Γ : aC} {d : Nat} (X : Cx Γ RX11 cX11_marked 5 (some .int) (d, 0, 0)) (hd : 4 ≤ d) (v0 : Nat) (v1 : Int32) : ∀ n s o, lp (lb_X11_marked_25 v0 v1) n s = some o → ex_X11_marked_25 Γ v0 v1 o → hd_X11_marked_25 Γ v0 v1 s := by
  have hd1 : 1 ≤ d := by omega
  refine J_lp _ _ _ ?_
  intro s o hf hk
  unfold lb_X11_marked_25 at hf
  refine r_iload (pc := 25) X dX11_marked_25 rfl ?_
  refine r_bipush (pc := 27) X 99 dX11_marked_27 (by decide) ?_
  refine r_icmp_gt (pc := 29) X 80 dX11_marked_29 (by decide) (fun c20 => ?_) (fun c20 => ?_)
  · rw [if_neg c20] at hf
    obtain rfl := Option.some.inj hf
    exact hk _
  · rw [if_pos c20] at hf
    refine r_aload_n (pc := 32) X dX11_marked_32 rfl ?_
    obtain ⟨a6, ea6, hf⟩ := ob hf
    refine r_getR (pc := 33) X dX11_marked_33 fl_X11_68 rfl ea6 ?_
    refine r_iload_n (pc := 36) X dX11_marked_36 rfl ?_
    obtain ⟨u7, eu7, hf⟩ := ob hf
    obtain ⟨x8, ex8, hf⟩ := ob hf
    refine r_callVI (pc := 37) X [.int v1] dX11_marked_37 ml_X11_316 vo_X7_isAtMark ⟨Nat.le_refl _, Nat.le_refl _⟩ eu7 (ev_X7_isAtMark (d := d - 1) (by omega) _ _ _ _ ex8) hd1 rfl (Nat.le_of_ble_eq_true rfl) rfl ?_
    obtain ⟨t9, et9, hf⟩ := ob hf
    have Jt9 : Jd Γ (0, 0) 59 [some (.ref v0), some (.int v1), some (.int t9.1), some (.int t9.2), some (.int s.2.2.1)] [] s.2.2.2 := by
      refine r_aload_n (pc := 59) X dX11_marked_59 rfl ?_
      obtain ⟨a10, ea10, hf⟩ := ob hf
      refine r_getR (pc := 60) X dX11_marked_60 fl_X11_19 rfl ea10 ?_
      refine r_aload_n (pc := 63) X dX11_marked_63 rfl ?_
      obtain ⟨a11, ea11, hf⟩ := ob hf
      refine r_getR (pc := 64) X dX11_marked_64 fl_X11_68 rfl ea11 ?_
      refine r_aload_n (pc := 67) X dX11_marked_67 rfl ?_
      obtain ⟨a12, ea12, hf⟩ := ob hf
      refine r_getR (pc := 68) X dX11_marked_68 fl_X11_42 rfl ea12 ?_
      obtain ⟨u13, eu13, hf⟩ := ob hf
      obtain ⟨h14, eh14, hf⟩ := ob hf
      refine r_callVV (pc := 71) X [.ref a11, .ref a12] dX11_marked_71 ml_X11_283 vo_X0_pass ⟨Nat.le_refl _, Nat.le_refl _⟩ eu13 (ev_X0_pass (d := d - 1) (by omega) _ _ _ _ _ eh14) hd1 rfl (Nat.le_of_ble_eq_true rfl) rfl ?_
      obtain ⟨x15, ex15, hf⟩ := ob hf
      refine r_iinc2 (pc := 74) X 1 [some (.ref v0), some (.int v1), some (.int t9.1), some (.int t9.2), some (.int x15)] dX11_marked_74 (by decide) rfl (by decide) ex15 rfl ?_
      refine r_goto (pc := 77) X 25 dX11_marked_77 (by decide) ?_
      obtain rfl := Option.some.inj hf
      exact hk
    refine r_if_eq (pc := 40) X 59 dX11_marked_40 (by decide) (fun c19 => ?_) (fun c19 => ?_)
    · rw [if_pos c19] at et9
      obtain rfl := Option.some.inj et9
      exact Jt9
    · rw [if_neg c19] at et9
      refine r_iload_n (pc := 43) X dX11_marked_43 rfl ?_
      refine r_bipush (pc := 44) X (-2) dX11_marked_44 (by decide) ?_
      refine r_icmp_ne (pc := 46) X 54 dX11_marked_46 (by decide) (fun c18 => ?_) (fun c18 => ?_)
      · rw [if_neg c18] at et9
        refine r_iload_n (pc := 54) X dX11_marked_54 rfl ?_
        refine r_istore_n (pc := 55) X [some (.ref v0), some (.int v1), some (.int s.1), some (.int s.2.1), some (.int s.2.2.1)] dX11_marked_55 (by decide) rfl ?_
        obtain ⟨x16, ex16, et9⟩ := ob et9
        refine r_iinc2 (pc := 56) X 1 [some (.ref v0), some (.int v1), some (.int s.1), some (.int x16), some (.int s.2.2.1)] dX11_marked_56 (by decide) rfl (by decide) ex16 rfl ?_
        obtain rfl := Option.some.inj et9
        exact Jt9
      · rw [if_pos c18] at et9
        refine r_iload (pc := 49) X dX11_marked_49 rfl ?_
        refine r_goto (pc := 51) X 55 dX11_marked_51 (by decide) ?_
        refine r_istore_n (pc := 55) X [some (.ref v0), some (.int v1), some (.int s.2.2.1), some (.int s.2.1), some (.int s.2.2.1)] dX11_marked_55 (by decide) rfl ?_
        obtain ⟨x17, ex17, et9⟩ := ob et9
        refine r_iinc2 (pc := 56) X 1 [some (.ref v0), some (.int v1), some (.int s.2.2.1), some (.int x17), some (.int s.2.2.1)] dX11_marked_56 (by decide) rfl (by decide) ex17 rfl ?_
        obtain rfl := Option.some.inj et9
        exact Jt9
def fn_X11_marked (h : aH) (p0 : Nat) (p1 : Int32) : Option (Int32 × aH) :=
  (gR h p0 10 1).bind fun a1 =>
  (ck h a1 0).bind fun u2 =>
  (fn_X0_hasBasin h a1 p1).bind fun x3 =>
  if x3 = 0 then
    some ((-1), h)
  else
    (ck h p0 10).bind fun u4 =>
    (fn_X11_startTrial h p0).bind fun h5 =>
    (lp (lb_X11_marked_25 p0 p1) lpN ((-2), 0, 0, h5)).bind fun o21 =>
    if o21.1 = (-2) then
      some (o21.1, o21.2.2)
    else
      (gR o21.2.2 p0 10 11).bind fun a23 =>
      (ck o21.2.2 a23 2).bind fun u24 =>
      (fn_X3_begin o21.2.2 a23).bind fun h25 =>
      (gR h25 p0 10 11).bind fun a26 =>
      (ck h25 a26 2).bind fun u27 =>
      (fn_X3_add h25 a26 (Int32.toInt64 o21.2.1)).bind fun h28 =>
      some (o21.1, h28)
set_option maxRecDepth 20000 in
set_option maxHeartbeats 4000000 in
theorem ev_X11_marked {l : Launch} {g : aG} {d : Nat} (hd : 4 ≤ d) (h : aH) (p0 : Nat) (p1 : Int32) (o : Int32 × aH) (hf : fn_X11_marked h p0 p1 = some o) : EvM l g d yX11_marked cX11_marked 5 (some .int) [.ref p0, .int p1] h (some (.int o.1), o.2) := by
  refine EvM.of mk_X11_marked (Nat.le_of_ble_eq_true rfl) ?_
  intro Γ hl hg hq X
  have hd1 : 1 ≤ d := by omega
  have hk : RqI Γ o := hq
  unfold fn_X11_marked at hf
  show Jd Γ (0, 0) 0 [some (.ref p0), some (.int p1), none, none, none] [] h
  refine r_aload_n (pc := 0) X dX11_marked_0 rfl ?_
  obtain ⟨a1, ea1, hf⟩ := ob hf
  refine r_getR (pc := 1) X dX11_marked_1 fl_X11_19 rfl ea1 ?_
  refine r_iload_n (pc := 4) X dX11_marked_4 rfl ?_
  obtain ⟨u2, eu2, hf⟩ := ob hf
  obtain ⟨x3, ex3, hf⟩ := ob hf
  refine r_callVI (pc := 5) X [.int p1] dX11_marked_5 ml_X11_172 vo_X0_hasBasin ⟨Nat.le_refl _, Nat.le_refl _⟩ eu2 (ev_X0_hasBasin (d := d - 1) (by omega) _ _ _ _ ex3) hd1 rfl (Nat.le_of_ble_eq_true rfl) rfl ?_
  refine r_if_ne (pc := 8) X 13 dX11_marked_8 (by decide) (fun c30 => ?_) (fun c30 => ?_)
  · rw [if_neg c30] at hf
    refine r_aload_n (pc := 13) X dX11_marked_13 rfl ?_
    obtain ⟨u4, eu4, hf⟩ := ob hf
    obtain ⟨h5, eh5, hf⟩ := ob hf
    refine r_callVV (pc := 14) X [] dX11_marked_14 ml_X11_309 vo_X11_startTrial ⟨Nat.le_refl _, Nat.le_refl _⟩ eu4 (ev_X11_startTrial (d := d - 1) (by omega) _ _ _ eh5) hd1 rfl (Nat.le_of_ble_eq_true rfl) rfl ?_
    refine r_bipush (pc := 17) X (-2) dX11_marked_17 (by decide) ?_
    refine r_istore_n (pc := 19) X [some (.ref p0), some (.int p1), some (.int (-2)), none, none] dX11_marked_19 (by decide) rfl ?_
    refine r_iconst (pc := 20) X 0 dX11_marked_20 (by decide) ?_
    refine r_istore_n (pc := 21) X [some (.ref p0), some (.int p1), some (.int (-2)), some (.int 0), none] dX11_marked_21 (by decide) rfl ?_
    refine r_iconst (pc := 22) X 0 dX11_marked_22 (by decide) ?_
    refine r_istore (pc := 23) X [some (.ref p0), some (.int p1), some (.int (-2)), some (.int 0), some (.int 0)] dX11_marked_23 (by decide) rfl ?_
    obtain ⟨o21, eo21, hf⟩ := ob hf
    refine (lw_X11_marked_25 X hd _ _ lpN _ o21 eo21 ?_)
    intro j22
    refine r_iload_n (pc := 80) X dX11_marked_80 rfl ?_
    refine r_bipush (pc := 81) X (-2) dX11_marked_81 (by decide) ?_
    refine r_icmp_eq (pc := 83) X 102 dX11_marked_83 (by decide) (fun c29 => ?_) (fun c29 => ?_)
    · rw [if_pos c29] at hf
      refine r_iload_n (pc := 102) X dX11_marked_102 rfl ?_
      obtain rfl := Option.some.inj hf
      exact r_iret (pc := 103) X dX11_marked_103 hk
    · rw [if_neg c29] at hf
      refine r_aload_n (pc := 86) X dX11_marked_86 rfl ?_
      obtain ⟨a23, ea23, hf⟩ := ob hf
      refine r_getR (pc := 87) X dX11_marked_87 fl_X11_81 rfl ea23 ?_
      obtain ⟨u24, eu24, hf⟩ := ob hf
      obtain ⟨h25, eh25, hf⟩ := ob hf
      refine r_callVV (pc := 90) X [] dX11_marked_90 ml_X11_242 vo_X3_begin ⟨Nat.le_refl _, Nat.le_refl _⟩ eu24 (ev_X3_begin (d := d - 1) (by omega) _ _ _ eh25) hd1 rfl (Nat.le_of_ble_eq_true rfl) rfl ?_
      refine r_aload_n (pc := 93) X dX11_marked_93 rfl ?_
      obtain ⟨a26, ea26, hf⟩ := ob hf
      refine r_getR (pc := 94) X dX11_marked_94 fl_X11_81 rfl ea26 ?_
      refine r_iload_n (pc := 97) X dX11_marked_97 rfl ?_
      refine r_i2l (pc := 98) X dX11_marked_98 ?_
      obtain ⟨u27, eu27, hf⟩ := ob hf
      obtain ⟨h28, eh28, hf⟩ := ob hf
      refine r_callVV (pc := 99) X [.long (Int32.toInt64 o21.2.1)] dX11_marked_99 ml_X11_248 vo_X3_add ⟨Nat.le_refl _, Nat.le_refl _⟩ eu27 (ev_X3_add (d := d - 1) (by omega) _ _ _ _ eh28) hd1 rfl (Nat.le_of_ble_eq_true rfl) rfl ?_
      refine r_iload_n (pc := 102) X dX11_marked_102 rfl ?_
      obtain rfl := Option.some.inj hf
      exact r_iret (pc := 103) X dX11_marked_103 hk
  · rw [if_pos c30] at hf
    refine r_iconst (pc := 11) X (-1) dX11_marked_11 (by decide) ?_
    obtain rfl := Option.some.inj hf
    exact r_iret (pc := 12) X dX11_marked_12 hk

theorem dX11_traceTrial_0 : decode cX11_traceTrial 0 = .ok (.aload_n 0, 1) := by decide +kernel
theorem dX11_traceTrial_1 : decode cX11_traceTrial 1 = .ok (.invokevirtual 309, 3) := by decide +kernel
theorem dX11_traceTrial_4 : decode cX11_traceTrial 4 = .ok (.iconst 0, 1) := by decide +kernel
theorem dX11_traceTrial_5 : decode cX11_traceTrial 5 = .ok (.istore_n 2, 1) := by decide +kernel
theorem dX11_traceTrial_6 : decode cX11_traceTrial 6 = .ok (.iload_n 2, 1) := by decide +kernel
theorem dX11_traceTrial_7 : decode cX11_traceTrial 7 = .ok (.iload_n 1, 1) := by decide +kernel
theorem dX11_traceTrial_8 : decode cX11_traceTrial 8 = .ok (.if_icmp .gt 46, 3) := by decide +kernel
theorem dX11_traceTrial_11 : decode cX11_traceTrial 11 = .ok (.iload_n 2, 1) := by decide +kernel
theorem dX11_traceTrial_12 : decode cX11_traceTrial 12 = .ok (.aload_n 0, 1) := by decide +kernel
theorem dX11_traceTrial_13 : decode cX11_traceTrial 13 = .ok (.getfield 92, 3) := by decide +kernel
theorem dX11_traceTrial_16 : decode cX11_traceTrial 16 = .ok (.arraylength, 1) := by decide +kernel
theorem dX11_traceTrial_17 : decode cX11_traceTrial 17 = .ok (.if_icmp .ge 37, 3) := by decide +kernel
theorem dX11_traceTrial_20 : decode cX11_traceTrial 20 = .ok (.aload_n 0, 1) := by decide +kernel
theorem dX11_traceTrial_21 : decode cX11_traceTrial 21 = .ok (.getfield 92, 3) := by decide +kernel
theorem dX11_traceTrial_24 : decode cX11_traceTrial 24 = .ok (.iload_n 2, 1) := by decide +kernel
theorem dX11_traceTrial_25 : decode cX11_traceTrial 25 = .ok (.aload_n 0, 1) := by decide +kernel
theorem dX11_traceTrial_26 : decode cX11_traceTrial 26 = .ok (.getfield 68, 3) := by decide +kernel
theorem dX11_traceTrial_29 : decode cX11_traceTrial 29 = .ok (.invokevirtual 337, 3) := by decide +kernel
theorem dX11_traceTrial_32 : decode cX11_traceTrial 32 = .ok (.lastore, 1) := by decide +kernel
theorem dX11_traceTrial_33 : decode cX11_traceTrial 33 = .ok (.aload_n 0, 1) := by decide +kernel
theorem dX11_traceTrial_34 : decode cX11_traceTrial 34 = .ok (.getfield 19, 3) := by decide +kernel
theorem dX11_traceTrial_37 : decode cX11_traceTrial 37 = .ok (.aload_n 0, 1) := by decide +kernel
theorem dX11_traceTrial_38 : decode cX11_traceTrial 38 = .ok (.getfield 68, 3) := by decide +kernel
theorem dX11_traceTrial_41 : decode cX11_traceTrial 41 = .ok (.aload_n 0, 1) := by decide +kernel
theorem dX11_traceTrial_42 : decode cX11_traceTrial 42 = .ok (.getfield 42, 3) := by decide +kernel
theorem dX11_traceTrial_45 : decode cX11_traceTrial 45 = .ok (.invokevirtual 283, 3) := by decide +kernel
theorem dX11_traceTrial_48 : decode cX11_traceTrial 48 = .ok (.iinc 2 1, 3) := by decide +kernel
theorem dX11_traceTrial_51 : decode cX11_traceTrial 51 = .ok (.goto (-45), 3) := by decide +kernel
theorem dX11_traceTrial_54 : decode cX11_traceTrial 54 = .ok (.return_, 1) := by decide +kernel
def lb_X11_traceTrial_6 (v0 : Nat) (v1 : Int32) (s : Int32 × aH) : Option ((Int32 × aH) ⊕ ((aH))) :=
  if s.1 ≤ v1 then
    (gR s.2 v0 10 13).bind fun a3 =>
    (al s.2 a3).bind fun x4 =>
    if s.1 < x4 then
      (gR s.2 v0 10 13).bind fun a5 =>
      (gR s.2 v0 10 9).bind fun a6 =>
      (ck s.2 a6 6).bind fun u7 =>
      (fn_X7_code s.2 a6).bind fun y8 =>
      (wJ s.2 a5 s.1 y8).bind fun h9 =>
      (gR h9 v0 10 1).bind fun a10 =>
      (gR h9 v0 10 9).bind fun a11 =>
      (gR h9 v0 10 4).bind fun a12 =>
      (ck h9 a10 0).bind fun u13 =>
      (fn_X0_pass h9 a10 a11 a12).bind fun h14 =>
      (some (s.1 + 1)).bind fun x15 =>
      some (.inl (x15, h14))
    else
      some (.inr s.2)
  else
    some (.inr s.2)
def hd_X11_traceTrial_6 (Γ : aC) (v0 : Nat) (v1 : Int32) (s : Int32 × aH) : Prop := Jd Γ (0, 0) 6 [some (.ref v0), some (.int v1), some (.int s.1)] [] s.2
def ex_X11_traceTrial_6 (Γ : aC) (v0 : Nat) (v1 : Int32) (r : (aH)) : Prop := (fun r => RqV Γ r) r
set_option maxRecDepth 20000 in
set_option maxHeartbeats 4000000 in
theorem lw_X11_traceTrial_6 {Γ : aC} {d : Nat} (X : Cx Γ RX11 cX11_traceTrial 3 none (d, 0, 0)) (hd : 4 ≤ d) (v0 : Nat) (v1 : Int32) : ∀ n s o, lp (lb_X11_traceTrial_6 v0 v1) n s = some o → ex_X11_traceTrial_6 Γ v0 v1 o → hd_X11_traceTrial_6 Γ v0 v1 s := by
  have hd1 : 1 ≤ d := by omega
  refine J_lp _ _ _ ?_
  intro s o hf hk
  unfold lb_X11_traceTrial_6 at hf
  refine r_iload_n (pc := 6) X dX11_traceTrial_6 rfl ?_
  refine r_iload_n (pc := 7) X dX11_traceTrial_7 rfl ?_
  refine r_icmp_gt (pc := 8) X 54 dX11_traceTrial_8 (by decide) (fun c17 => ?_) (fun c17 => ?_)
  · rw [if_neg c17] at hf
    obtain rfl := Option.some.inj hf
    exact r_vret (pc := 54) X dX11_traceTrial_54 hk
  · rw [if_pos c17] at hf
    refine r_iload_n (pc := 11) X dX11_traceTrial_11 rfl ?_
    refine r_aload_n (pc := 12) X dX11_traceTrial_12 rfl ?_
    obtain ⟨a3, ea3, hf⟩ := ob hf
    refine r_getR (pc := 13) X dX11_traceTrial_13 fl_X11_92 rfl ea3 ?_
    obtain ⟨x4, ex4, hf⟩ := ob hf
    refine r_alen (pc := 16) X dX11_traceTrial_16 ex4 ?_
    refine r_icmp_ge (pc := 17) X 54 dX11_traceTrial_17 (by decide) (fun c16 => ?_) (fun c16 => ?_)
    · rw [if_neg c16] at hf
      obtain rfl := Option.some.inj hf
      exact r_vret (pc := 54) X dX11_traceTrial_54 hk
    · rw [if_pos c16] at hf
      refine r_aload_n (pc := 20) X dX11_traceTrial_20 rfl ?_
      obtain ⟨a5, ea5, hf⟩ := ob hf
      refine r_getR (pc := 21) X dX11_traceTrial_21 fl_X11_92 rfl ea5 ?_
      refine r_iload_n (pc := 24) X dX11_traceTrial_24 rfl ?_
      refine r_aload_n (pc := 25) X dX11_traceTrial_25 rfl ?_
      obtain ⟨a6, ea6, hf⟩ := ob hf
      refine r_getR (pc := 26) X dX11_traceTrial_26 fl_X11_68 rfl ea6 ?_
      obtain ⟨u7, eu7, hf⟩ := ob hf
      obtain ⟨y8, ey8, hf⟩ := ob hf
      refine r_callVJ (pc := 29) X [] dX11_traceTrial_29 ml_X11_337 vo_X7_code ⟨Nat.le_refl _, Nat.le_refl _⟩ eu7 (ev_X7_code (d := d - 1) (by omega) _ _ _ ey8) hd1 rfl (Nat.le_of_ble_eq_true rfl) rfl ?_
      obtain ⟨h9, eh9, hf⟩ := ob hf
      refine r_last (pc := 32) X dX11_traceTrial_32 eh9 ?_
      refine r_aload_n (pc := 33) X dX11_traceTrial_33 rfl ?_
      obtain ⟨a10, ea10, hf⟩ := ob hf
      refine r_getR (pc := 34) X dX11_traceTrial_34 fl_X11_19 rfl ea10 ?_
      refine r_aload_n (pc := 37) X dX11_traceTrial_37 rfl ?_
      obtain ⟨a11, ea11, hf⟩ := ob hf
      refine r_getR (pc := 38) X dX11_traceTrial_38 fl_X11_68 rfl ea11 ?_
      refine r_aload_n (pc := 41) X dX11_traceTrial_41 rfl ?_
      obtain ⟨a12, ea12, hf⟩ := ob hf
      refine r_getR (pc := 42) X dX11_traceTrial_42 fl_X11_42 rfl ea12 ?_
      obtain ⟨u13, eu13, hf⟩ := ob hf
      obtain ⟨h14, eh14, hf⟩ := ob hf
      refine r_callVV (pc := 45) X [.ref a11, .ref a12] dX11_traceTrial_45 ml_X11_283 vo_X0_pass ⟨Nat.le_refl _, Nat.le_refl _⟩ eu13 (ev_X0_pass (d := d - 1) (by omega) _ _ _ _ _ eh14) hd1 rfl (Nat.le_of_ble_eq_true rfl) rfl ?_
      obtain ⟨x15, ex15, hf⟩ := ob hf
      refine r_iinc2 (pc := 48) X 1 [some (.ref v0), some (.int v1), some (.int x15)] dX11_traceTrial_48 (by decide) rfl (by decide) ex15 rfl ?_
      refine r_goto (pc := 51) X 6 dX11_traceTrial_51 (by decide) ?_
      obtain rfl := Option.some.inj hf
      exact hk
def fn_X11_traceTrial (h : aH) (p0 : Nat) (p1 : Int32) : Option (aH) :=
  (ck h p0 10).bind fun u1 =>
  (fn_X11_startTrial h p0).bind fun h2 =>
  (lp (lb_X11_traceTrial_6 p0 p1) lpN (0, h2)).bind fun o18 =>
  some o18
set_option maxRecDepth 20000 in
set_option maxHeartbeats 4000000 in
theorem ev_X11_traceTrial {l : Launch} {g : aG} {d : Nat} (hd : 4 ≤ d) (h : aH) (p0 : Nat) (p1 : Int32) (o : aH) (hf : fn_X11_traceTrial h p0 p1 = some o) : EvM l g d yX11_traceTrial cX11_traceTrial 3 none [.ref p0, .int p1] h (none, o) := by
  refine EvM.of mk_X11_traceTrial (Nat.le_of_ble_eq_true rfl) ?_
  intro Γ hl hg hq X
  have hd1 : 1 ≤ d := by omega
  have hk : RqV Γ o := hq
  unfold fn_X11_traceTrial at hf
  show Jd Γ (0, 0) 0 [some (.ref p0), some (.int p1), none] [] h
  refine r_aload_n (pc := 0) X dX11_traceTrial_0 rfl ?_
  obtain ⟨u1, eu1, hf⟩ := ob hf
  obtain ⟨h2, eh2, hf⟩ := ob hf
  refine r_callVV (pc := 1) X [] dX11_traceTrial_1 ml_X11_309 vo_X11_startTrial ⟨Nat.le_refl _, Nat.le_refl _⟩ eu1 (ev_X11_startTrial (d := d - 1) (by omega) _ _ _ eh2) hd1 rfl (Nat.le_of_ble_eq_true rfl) rfl ?_
  refine r_iconst (pc := 4) X 0 dX11_traceTrial_4 (by decide) ?_
  refine r_istore_n (pc := 5) X [some (.ref p0), some (.int p1), some (.int 0)] dX11_traceTrial_5 (by decide) rfl ?_
  obtain ⟨o18, eo18, hf⟩ := ob hf
  refine (lw_X11_traceTrial_6 X hd _ _ lpN _ o18 eo18 ?_)
  obtain rfl := Option.some.inj hf
  exact hk

theorem dX11_differentSums_0 : decode cX11_differentSums 0 = .ok (.lconst 0, 1) := by decide +kernel
theorem dX11_differentSums_1 : decode cX11_differentSums 1 = .ok (.lstore_n 3, 1) := by decide +kernel
theorem dX11_differentSums_2 : decode cX11_differentSums 2 = .ok (.iload_n 1, 1) := by decide +kernel
theorem dX11_differentSums_3 : decode cX11_differentSums 3 = .ok (.istore 5, 2) := by decide +kernel
theorem dX11_differentSums_5 : decode cX11_differentSums 5 = .ok (.iload 5, 2) := by decide +kernel
theorem dX11_differentSums_7 : decode cX11_differentSums 7 = .ok (.iload_n 2, 1) := by decide +kernel
theorem dX11_differentSums_8 : decode cX11_differentSums 8 = .ok (.if_icmp .ge 24, 3) := by decide +kernel
theorem dX11_differentSums_11 : decode cX11_differentSums 11 = .ok (.lload_n 3, 1) := by decide +kernel
theorem dX11_differentSums_12 : decode cX11_differentSums 12 = .ok (.lconst 1, 1) := by decide +kernel
theorem dX11_differentSums_13 : decode cX11_differentSums 13 = .ok (.aload_n 0, 1) := by decide +kernel
theorem dX11_differentSums_14 : decode cX11_differentSums 14 = .ok (.getfield 92, 3) := by decide +kernel
theorem dX11_differentSums_17 : decode cX11_differentSums 17 = .ok (.iload 5, 2) := by decide +kernel
theorem dX11_differentSums_19 : decode cX11_differentSums 19 = .ok (.laload, 1) := by decide +kernel
theorem dX11_differentSums_20 : decode cX11_differentSums 20 = .ok (.invokestatic 325, 3) := by decide +kernel
theorem dX11_differentSums_23 : decode cX11_differentSums 23 = .ok (.lshl, 1) := by decide +kernel
theorem dX11_differentSums_24 : decode cX11_differentSums 24 = .ok (.lor, 1) := by decide +kernel
theorem dX11_differentSums_25 : decode cX11_differentSums 25 = .ok (.lstore_n 3, 1) := by decide +kernel
theorem dX11_differentSums_26 : decode cX11_differentSums 26 = .ok (.iinc 5 1, 3) := by decide +kernel
theorem dX11_differentSums_29 : decode cX11_differentSums 29 = .ok (.goto (-24), 3) := by decide +kernel
theorem dX11_differentSums_32 : decode cX11_differentSums 32 = .ok (.lload_n 3, 1) := by decide +kernel
theorem dX11_differentSums_33 : decode cX11_differentSums 33 = .ok (.invokestatic 329, 3) := by decide +kernel
theorem dX11_differentSums_36 : decode cX11_differentSums 36 = .ok (.ireturn, 1) := by decide +kernel
def lb_X11_differentSums_5 (hh : aH) (v0 : Nat) (v2 : Int32) (s : Int64 × Int32) : Option ((Int64 × Int32) ⊕ ((Int64))) :=
  if s.2 < v2 then
    (gR hh v0 10 13).bind fun a1 =>
    (aJ hh a1 s.2).bind fun y2 =>
    (fn_X7_sumOf hh y2).bind fun x3 =>
    (some (s.1 ||| (lsl 1 x3))).bind fun y4 =>
    (some (s.2 + 1)).bind fun x5 =>
    some (.inl (y4, x5))
  else
    some (.inr s.1)
def hd_X11_differentSums_5 (Γ : aC) (hh : aH) (v0 : Nat) (v2 : Int32) (s : Int64 × Int32) : Prop := ∀ (j1 : Option Value) (j4 : Option Value), Jd Γ (0, 0) 5 [some (.ref v0), j1, some (.int v2), some (.long s.1), j4, some (.int s.2)] [] hh
def ex_X11_differentSums_5 (Γ : aC) (hh : aH) (v0 : Nat) (v2 : Int32) (r : (Int64)) : Prop := (fun r => ∀ (j1 : Option Value) (j4 : Option Value) (j5 : Option Value), Jd Γ (0, 0) 32 [some (.ref v0), j1, some (.int v2), some (.long r), j4, j5] [] hh) r
set_option maxRecDepth 20000 in
set_option maxHeartbeats 4000000 in
theorem lw_X11_differentSums_5 {Γ : aC} {d : Nat} (X : Cx Γ RX11 cX11_differentSums 6 (some .int) (d, 0, 0)) (hd : 2 ≤ d) (hh : aH) (v0 : Nat) (v2 : Int32) : ∀ n s o, lp (lb_X11_differentSums_5 hh v0 v2) n s = some o → ex_X11_differentSums_5 Γ hh v0 v2 o → hd_X11_differentSums_5 Γ hh v0 v2 s := by
  have hd1 : 1 ≤ d := by omega
  refine J_lp _ _ _ ?_
  intro s o hf hk j1 j4
  unfold lb_X11_differentSums_5 at hf
  refine r_iload (pc := 5) X dX11_differentSums_5 rfl ?_
  refine r_iload_n (pc := 7) X dX11_differentSums_7 rfl ?_
  refine r_icmp_ge (pc := 8) X 32 dX11_differentSums_8 (by decide) (fun c6 => ?_) (fun c6 => ?_)
  · rw [if_neg c6] at hf
    obtain rfl := Option.some.inj hf
    exact hk _ _ _
  · rw [if_pos c6] at hf
    refine r_lload_n (pc := 11) X dX11_differentSums_11 rfl ?_
    refine r_lconst (pc := 12) X 1 dX11_differentSums_12 (by decide) ?_
    refine r_aload_n (pc := 13) X dX11_differentSums_13 rfl ?_
    obtain ⟨a1, ea1, hf⟩ := ob hf
    refine r_getR (pc := 14) X dX11_differentSums_14 fl_X11_92 rfl ea1 ?_
    refine r_iload (pc := 17) X dX11_differentSums_17 rfl ?_
    obtain ⟨y2, ey2, hf⟩ := ob hf
    refine r_lald (pc := 19) X dX11_differentSums_19 ey2 ?_
    obtain ⟨x3, ex3, hf⟩ := ob hf
    refine r_callSI (pc := 20) X [.long y2] dX11_differentSums_20 ml_X11_325 so_X7_sumOf ⟨Nat.le_refl _, Nat.le_refl _⟩ (ev_X7_sumOf (d := d - 1) (by omega) _ _ _ ex3) hd1 rfl (Nat.le_of_ble_eq_true rfl) rfl ?_
    refine r_lshl (pc := 23) X dX11_differentSums_23 ?_
    refine r_lor (pc := 24) X dX11_differentSums_24 ?_
    obtain ⟨y4, ey4, hf⟩ := ob hf
    refine r_nmJ ey4 ?_
    refine r_lstore_n (pc := 25) X [some (.ref v0), j1, some (.int v2), some (.long y4), none, some (.int s.2)] dX11_differentSums_25 (by decide) rfl ?_
    obtain ⟨x5, ex5, hf⟩ := ob hf
    refine r_iinc2 (pc := 26) X 1 [some (.ref v0), j1, some (.int v2), some (.long y4), none, some (.int x5)] dX11_differentSums_26 (by decide) rfl (by decide) ex5 rfl ?_
    refine r_goto (pc := 29) X 5 dX11_differentSums_29 (by decide) ?_
    obtain rfl := Option.some.inj hf
    exact hk _ _
def fn_X11_differentSums (h : aH) (p0 : Nat) (p1 : Int32) (p2 : Int32) : Option (Int32) :=
  (lp (lb_X11_differentSums_5 h p0 p2) lpN (0, p1)).bind fun o7 =>
  (fn_J13_bitCount_95d88 h o7).bind fun x11 =>
  some x11
set_option maxRecDepth 20000 in
set_option maxHeartbeats 4000000 in
theorem ev_X11_differentSums {l : Launch} {g : aG} {d : Nat} (hd : 2 ≤ d) (h : aH) (p0 : Nat) (p1 : Int32) (p2 : Int32) (o : Int32) (hf : fn_X11_differentSums h p0 p1 p2 = some o) : EvM l g d yX11_differentSums cX11_differentSums 6 (some .int) [.ref p0, .int p1, .int p2] h (some (.int o), h) := by
  refine EvM.of mk_X11_differentSums (Nat.le_of_ble_eq_true rfl) ?_
  intro Γ hl hg hq X
  have hd1 : 1 ≤ d := by omega
  have hk : RpI h Γ o := hq
  unfold fn_X11_differentSums at hf
  show Jd Γ (0, 0) 0 [some (.ref p0), some (.int p1), some (.int p2), none, none, none] [] h
  refine r_lconst (pc := 0) X 0 dX11_differentSums_0 (by decide) ?_
  refine r_lstore_n (pc := 1) X [some (.ref p0), some (.int p1), some (.int p2), some (.long 0), none, none] dX11_differentSums_1 (by decide) rfl ?_
  refine r_iload_n (pc := 2) X dX11_differentSums_2 rfl ?_
  refine r_istore (pc := 3) X [some (.ref p0), some (.int p1), some (.int p2), some (.long 0), none, some (.int p1)] dX11_differentSums_3 (by decide) rfl ?_
  obtain ⟨o7, eo7, hf⟩ := ob hf
  refine (lw_X11_differentSums_5 X hd _ _ _ lpN _ o7 eo7 ?_) _ _
  intro j8 j9 j10
  refine r_lload_n (pc := 32) X dX11_differentSums_32 rfl ?_
  obtain ⟨x11, ex11, hf⟩ := ob hf
  refine r_callSI (pc := 33) X [.long o7] dX11_differentSums_33 ml_X11_329 so_J13_bitCount_95d88 ⟨Nat.le_refl _, Nat.le_refl _⟩ (ev_J13_bitCount_95d88 (d := d - 1) (by omega) _ _ _ ex11) hd1 rfl (Nat.le_of_ble_eq_true rfl) rfl ?_
  obtain rfl := Option.some.inj hf
  exact r_iret (pc := 36) X dX11_differentSums_36 hk

theorem dX11_round_0 : decode cX11_round 0 = .ok (.aload_n 0, 1) := by decide +kernel
theorem dX11_round_1 : decode cX11_round 1 = .ok (.bipush 99, 2) := by decide +kernel
theorem dX11_round_3 : decode cX11_round 3 = .ok (.invokevirtual 319, 3) := by decide +kernel
theorem dX11_round_6 : decode cX11_round 6 = .ok (.iconst 1, 1) := by decide +kernel
theorem dX11_round_7 : decode cX11_round 7 = .ok (.istore_n 1, 1) := by decide +kernel
theorem dX11_round_8 : decode cX11_round 8 = .ok (.iload_n 1, 1) := by decide +kernel
theorem dX11_round_9 : decode cX11_round 9 = .ok (.bipush 99, 2) := by decide +kernel
theorem dX11_round_11 : decode cX11_round 11 = .ok (.if_icmp .gt 70, 3) := by decide +kernel
theorem dX11_round_14 : decode cX11_round 14 = .ok (.iconst 0, 1) := by decide +kernel
theorem dX11_round_15 : decode cX11_round 15 = .ok (.istore_n 2, 1) := by decide +kernel
theorem dX11_round_16 : decode cX11_round 16 = .ok (.iload_n 2, 1) := by decide +kernel
theorem dX11_round_17 : decode cX11_round 17 = .ok (.iload_n 1, 1) := by decide +kernel
theorem dX11_round_18 : decode cX11_round 18 = .ok (.if_icmp .ge 57, 3) := by decide +kernel
theorem dX11_round_21 : decode cX11_round 21 = .ok (.aload_n 0, 1) := by decide +kernel
theorem dX11_round_22 : decode cX11_round 22 = .ok (.getfield 92, 3) := by decide +kernel
theorem dX11_round_25 : decode cX11_round 25 = .ok (.iload_n 1, 1) := by decide +kernel
theorem dX11_round_26 : decode cX11_round 26 = .ok (.laload, 1) := by decide +kernel
theorem dX11_round_27 : decode cX11_round 27 = .ok (.aload_n 0, 1) := by decide +kernel
theorem dX11_round_28 : decode cX11_round 28 = .ok (.getfield 92, 3) := by decide +kernel
theorem dX11_round_31 : decode cX11_round 31 = .ok (.iload_n 2, 1) := by decide +kernel
theorem dX11_round_32 : decode cX11_round 32 = .ok (.laload, 1) := by decide +kernel
theorem dX11_round_33 : decode cX11_round 33 = .ok (.lcmp, 1) := by decide +kernel
theorem dX11_round_34 : decode cX11_round 34 = .ok (.ifCond .ne 35, 3) := by decide +kernel
theorem dX11_round_37 : decode cX11_round 37 = .ok (.aload_n 0, 1) := by decide +kernel
theorem dX11_round_38 : decode cX11_round 38 = .ok (.getfield 81, 3) := by decide +kernel
theorem dX11_round_41 : decode cX11_round 41 = .ok (.invokevirtual 242, 3) := by decide +kernel
theorem dX11_round_44 : decode cX11_round 44 = .ok (.aload_n 0, 1) := by decide +kernel
theorem dX11_round_45 : decode cX11_round 45 = .ok (.getfield 81, 3) := by decide +kernel
theorem dX11_round_48 : decode cX11_round 48 = .ok (.iload_n 2, 1) := by decide +kernel
theorem dX11_round_49 : decode cX11_round 49 = .ok (.i2l, 1) := by decide +kernel
theorem dX11_round_50 : decode cX11_round 50 = .ok (.invokevirtual 248, 3) := by decide +kernel
theorem dX11_round_53 : decode cX11_round 53 = .ok (.aload_n 0, 1) := by decide +kernel
theorem dX11_round_54 : decode cX11_round 54 = .ok (.getfield 81, 3) := by decide +kernel
theorem dX11_round_57 : decode cX11_round 57 = .ok (.aload_n 0, 1) := by decide +kernel
theorem dX11_round_58 : decode cX11_round 58 = .ok (.iload_n 2, 1) := by decide +kernel
theorem dX11_round_59 : decode cX11_round 59 = .ok (.iload_n 1, 1) := by decide +kernel
theorem dX11_round_60 : decode cX11_round 60 = .ok (.invokevirtual 322, 3) := by decide +kernel
theorem dX11_round_63 : decode cX11_round 63 = .ok (.i2l, 1) := by decide +kernel
theorem dX11_round_64 : decode cX11_round 64 = .ok (.invokevirtual 248, 3) := by decide +kernel
theorem dX11_round_67 : decode cX11_round 67 = .ok (.iload_n 1, 1) := by decide +kernel
theorem dX11_round_68 : decode cX11_round 68 = .ok (.ireturn, 1) := by decide +kernel
theorem dX11_round_69 : decode cX11_round 69 = .ok (.iinc 2 1, 3) := by decide +kernel
theorem dX11_round_72 : decode cX11_round 72 = .ok (.goto (-56), 3) := by decide +kernel
theorem dX11_round_75 : decode cX11_round 75 = .ok (.iinc 1 1, 3) := by decide +kernel
theorem dX11_round_78 : decode cX11_round 78 = .ok (.goto (-70), 3) := by decide +kernel
theorem dX11_round_81 : decode cX11_round 81 = .ok (.bipush (-2), 2) := by decide +kernel
theorem dX11_round_83 : decode cX11_round 83 = .ok (.ireturn, 1) := by decide +kernel
def lb_X11_round_16 (hh : aH) (v0 : Nat) (v1 : Int32) (s : Int32) : Option ((Int32) ⊕ ((Int32) ⊕ (Unit))) :=
  if s < v1 then
    (gR hh v0 10 13).bind fun a3 =>
    (aJ hh a3 v1).bind fun y4 =>
    (gR hh v0 10 13).bind fun a5 =>
    (aJ hh a5 s).bind fun y6 =>
    if (lg_cmp y4 y6) = 0 then
      some (.inr (.inl s))
    else
      (some (s + 1)).bind fun x7 =>
      some (.inl x7)
  else
    some (.inr (.inr ()))
def hd_X11_round_16 (Γ : aC) (hh : aH) (v0 : Nat) (v1 : Int32) (s : Int32) : Prop := Jd Γ (0, 0) 16 [some (.ref v0), some (.int v1), some (.int s)] [] hh
def ex_X11_round_16 (Γ : aC) (hh : aH) (v0 : Nat) (v1 : Int32) (r : (Int32) ⊕ (Unit)) : Prop := (Sum.elim (fun r => Jd Γ (0, 0) 37 [some (.ref v0), some (.int v1), some (.int r)] [] hh) (fun r => ∀ (j2 : Option Value), Jd Γ (0, 0) 75 [some (.ref v0), some (.int v1), j2] [] hh)) r
set_option maxRecDepth 20000 in
set_option maxHeartbeats 4000000 in
theorem lw_X11_round_16 {Γ : aC} {d : Nat} (X : Cx Γ RX11 cX11_round 3 (some .int) (d, 0, 0)) (hd : 5 ≤ d) (hh : aH) (v0 : Nat) (v1 : Int32) : ∀ n s o, lp (lb_X11_round_16 hh v0 v1) n s = some o → ex_X11_round_16 Γ hh v0 v1 o → hd_X11_round_16 Γ hh v0 v1 s := by
  have hd1 : 1 ≤ d := by omega
  refine J_lp _ _ _ ?_
  intro s o hf hk
  unfold lb_X11_round_16 at hf
  refine r_iload_n (pc := 16) X dX11_round_16 rfl ?_
  refine r_iload_n (pc := 17) X dX11_round_17 rfl ?_
  refine r_icmp_ge (pc := 18) X 75 dX11_round_18 (by decide) (fun c9 => ?_) (fun c9 => ?_)
  · rw [if_neg c9] at hf
    obtain rfl := Option.some.inj hf
    exact hk _
  · rw [if_pos c9] at hf
    refine r_aload_n (pc := 21) X dX11_round_21 rfl ?_
    obtain ⟨a3, ea3, hf⟩ := ob hf
    refine r_getR (pc := 22) X dX11_round_22 fl_X11_92 rfl ea3 ?_
    refine r_iload_n (pc := 25) X dX11_round_25 rfl ?_
    obtain ⟨y4, ey4, hf⟩ := ob hf
    refine r_lald (pc := 26) X dX11_round_26 ey4 ?_
    refine r_aload_n (pc := 27) X dX11_round_27 rfl ?_
    obtain ⟨a5, ea5, hf⟩ := ob hf
    refine r_getR (pc := 28) X dX11_round_28 fl_X11_92 rfl ea5 ?_
    refine r_iload_n (pc := 31) X dX11_round_31 rfl ?_
    obtain ⟨y6, ey6, hf⟩ := ob hf
    refine r_lald (pc := 32) X dX11_round_32 ey6 ?_
    refine r_lcmp (pc := 33) X dX11_round_33 ?_
    refine r_if_ne (pc := 34) X 69 dX11_round_34 (by decide) (fun c8 => ?_) (fun c8 => ?_)
    · rw [if_neg c8] at hf
      obtain ⟨x7, ex7, hf⟩ := ob hf
      refine r_iinc2 (pc := 69) X 1 [some (.ref v0), some (.int v1), some (.int x7)] dX11_round_69 (by decide) rfl (by decide) ex7 rfl ?_
      refine r_goto (pc := 72) X 16 dX11_round_72 (by decide) ?_
      obtain rfl := Option.some.inj hf
      exact hk
    · rw [if_pos c8] at hf
      obtain rfl := Option.some.inj hf
      exact hk
def lb_X11_round_8 (hh : aH) (v0 : Nat) (s : Int32) : Option ((Int32) ⊕ ((Int32 × Int32) ⊕ (Int32 × aH))) :=
  if s ≤ 99 then
    (lp (lb_X11_round_16 hh v0 s) lpN 0).bind fun o10 =>
    Sum.elim (fun o11 =>
      some (.inr (.inl (s, o11)))
    ) (fun o12 =>
      (some (s + 1)).bind fun x14 =>
      some (.inl x14)
    ) o10
  else
    some (.inr (.inr ((-2), hh)))
def hd_X11_round_8 (Γ : aC) (hh : aH) (v0 : Nat) (s : Int32) : Prop := ∀ (j2 : Option Value), Jd Γ (0, 0) 8 [some (.ref v0), some (.int s), j2] [] hh
def ex_X11_round_8 (Γ : aC) (hh : aH) (v0 : Nat) (r : (Int32 × Int32) ⊕ (Int32 × aH)) : Prop := (Sum.elim (fun r => Jd Γ (0, 0) 37 [some (.ref v0), some (.int r.1), some (.int r.2)] [] hh) (fun r => RqI Γ r)) r
set_option maxRecDepth 20000 in
set_option maxHeartbeats 4000000 in
theorem lw_X11_round_8 {Γ : aC} {d : Nat} (X : Cx Γ RX11 cX11_round 3 (some .int) (d, 0, 0)) (hd : 5 ≤ d) (hh : aH) (v0 : Nat) : ∀ n s o, lp (lb_X11_round_8 hh v0) n s = some o → ex_X11_round_8 Γ hh v0 o → hd_X11_round_8 Γ hh v0 s := by
  have hd1 : 1 ≤ d := by omega
  refine J_lp _ _ _ ?_
  intro s o hf hk j2
  unfold lb_X11_round_8 at hf
  refine r_iload_n (pc := 8) X dX11_round_8 rfl ?_
  refine r_bipush (pc := 9) X 99 dX11_round_9 (by decide) ?_
  refine r_icmp_gt (pc := 11) X 81 dX11_round_11 (by decide) (fun c15 => ?_) (fun c15 => ?_)
  · rw [if_neg c15] at hf
    refine r_bipush (pc := 81) X (-2) dX11_round_81 (by decide) ?_
    obtain rfl := Option.some.inj hf
    exact r_iret (pc := 83) X dX11_round_83 hk
  · rw [if_pos c15] at hf
    refine r_iconst (pc := 14) X 0 dX11_round_14 (by decide) ?_
    refine r_istore_n (pc := 15) X [some (.ref v0), some (.int s), some (.int 0)] dX11_round_15 (by decide) rfl ?_
    obtain ⟨o10, eo10, hf⟩ := ob hf
    refine (lw_X11_round_16 X hd _ _ _ lpN _ o10 eo10 ?_)
    rcases o10 with o11 | o12
    · simp only [Sum.elim_inl] at hf
      obtain rfl := Option.some.inj hf
      exact hk
    · simp only [Sum.elim_inr] at hf
      intro j13
      obtain ⟨x14, ex14, hf⟩ := ob hf
      refine r_iinc2 (pc := 75) X 1 [some (.ref v0), some (.int x14), j13] dX11_round_75 (by decide) rfl (by decide) ex14 rfl ?_
      refine r_goto (pc := 78) X 8 dX11_round_78 (by decide) ?_
      obtain rfl := Option.some.inj hf
      exact hk _
def fn_X11_round (h : aH) (p0 : Nat) : Option (Int32 × aH) :=
  (ck h p0 10).bind fun u1 =>
  (fn_X11_traceTrial h p0 99).bind fun h2 =>
  (lp (lb_X11_round_8 h2 p0) lpN 1).bind fun o16 =>
  Sum.elim (fun o17 =>
    (gR h2 p0 10 11).bind fun a19 =>
    (ck h2 a19 2).bind fun u20 =>
    (fn_X3_begin h2 a19).bind fun h21 =>
    (gR h21 p0 10 11).bind fun a22 =>
    (ck h21 a22 2).bind fun u23 =>
    (fn_X3_add h21 a22 (Int32.toInt64 o17.2)).bind fun h24 =>
    (gR h24 p0 10 11).bind fun a25 =>
    (ck h24 p0 10).bind fun u26 =>
    (fn_X11_differentSums h24 p0 o17.2 o17.1).bind fun x27 =>
    (ck h24 a25 2).bind fun u28 =>
    (fn_X3_add h24 a25 (Int32.toInt64 x27)).bind fun h29 =>
    some (o17.1, h29)
  ) (fun o18 =>
    some o18
  ) o16
set_option maxRecDepth 20000 in
set_option maxHeartbeats 4000000 in
theorem ev_X11_round {l : Launch} {g : aG} {d : Nat} (hd : 5 ≤ d) (h : aH) (p0 : Nat) (o : Int32 × aH) (hf : fn_X11_round h p0 = some o) : EvM l g d yX11_round cX11_round 3 (some .int) [.ref p0] h (some (.int o.1), o.2) := by
  refine EvM.of mk_X11_round (Nat.le_of_ble_eq_true rfl) ?_
  intro Γ hl hg hq X
  have hd1 : 1 ≤ d := by omega
  have hk : RqI Γ o := hq
  unfold fn_X11_round at hf
  show Jd Γ (0, 0) 0 [some (.ref p0), none, none] [] h
  refine r_aload_n (pc := 0) X dX11_round_0 rfl ?_
  refine r_bipush (pc := 1) X 99 dX11_round_1 (by decide) ?_
  obtain ⟨u1, eu1, hf⟩ := ob hf
  obtain ⟨h2, eh2, hf⟩ := ob hf
  refine r_callVV (pc := 3) X [.int 99] dX11_round_3 ml_X11_319 vo_X11_traceTrial ⟨Nat.le_refl _, Nat.le_refl _⟩ eu1 (ev_X11_traceTrial (d := d - 1) (by omega) _ _ _ _ eh2) hd1 rfl (Nat.le_of_ble_eq_true rfl) rfl ?_
  refine r_iconst (pc := 6) X 1 dX11_round_6 (by decide) ?_
  refine r_istore_n (pc := 7) X [some (.ref p0), some (.int 1), none] dX11_round_7 (by decide) rfl ?_
  obtain ⟨o16, eo16, hf⟩ := ob hf
  refine (lw_X11_round_8 X hd _ _ lpN _ o16 eo16 ?_) _
  rcases o16 with o17 | o18
  · simp only [Sum.elim_inl] at hf
    refine r_aload_n (pc := 37) X dX11_round_37 rfl ?_
    obtain ⟨a19, ea19, hf⟩ := ob hf
    refine r_getR (pc := 38) X dX11_round_38 fl_X11_81 rfl ea19 ?_
    obtain ⟨u20, eu20, hf⟩ := ob hf
    obtain ⟨h21, eh21, hf⟩ := ob hf
    refine r_callVV (pc := 41) X [] dX11_round_41 ml_X11_242 vo_X3_begin ⟨Nat.le_refl _, Nat.le_refl _⟩ eu20 (ev_X3_begin (d := d - 1) (by omega) _ _ _ eh21) hd1 rfl (Nat.le_of_ble_eq_true rfl) rfl ?_
    refine r_aload_n (pc := 44) X dX11_round_44 rfl ?_
    obtain ⟨a22, ea22, hf⟩ := ob hf
    refine r_getR (pc := 45) X dX11_round_45 fl_X11_81 rfl ea22 ?_
    refine r_iload_n (pc := 48) X dX11_round_48 rfl ?_
    refine r_i2l (pc := 49) X dX11_round_49 ?_
    obtain ⟨u23, eu23, hf⟩ := ob hf
    obtain ⟨h24, eh24, hf⟩ := ob hf
    refine r_callVV (pc := 50) X [.long (Int32.toInt64 o17.2)] dX11_round_50 ml_X11_248 vo_X3_add ⟨Nat.le_refl _, Nat.le_refl _⟩ eu23 (ev_X3_add (d := d - 1) (by omega) _ _ _ _ eh24) hd1 rfl (Nat.le_of_ble_eq_true rfl) rfl ?_
    refine r_aload_n (pc := 53) X dX11_round_53 rfl ?_
    obtain ⟨a25, ea25, hf⟩ := ob hf
    refine r_getR (pc := 54) X dX11_round_54 fl_X11_81 rfl ea25 ?_
    refine r_aload_n (pc := 57) X dX11_round_57 rfl ?_
    refine r_iload_n (pc := 58) X dX11_round_58 rfl ?_
    refine r_iload_n (pc := 59) X dX11_round_59 rfl ?_
    obtain ⟨u26, eu26, hf⟩ := ob hf
    obtain ⟨x27, ex27, hf⟩ := ob hf
    refine r_callVI (pc := 60) X [.int o17.2, .int o17.1] dX11_round_60 ml_X11_322 vo_X11_differentSums ⟨Nat.le_refl _, Nat.le_refl _⟩ eu26 (ev_X11_differentSums (d := d - 1) (by omega) _ _ _ _ _ ex27) hd1 rfl (Nat.le_of_ble_eq_true rfl) rfl ?_
    refine r_i2l (pc := 63) X dX11_round_63 ?_
    obtain ⟨u28, eu28, hf⟩ := ob hf
    obtain ⟨h29, eh29, hf⟩ := ob hf
    refine r_callVV (pc := 64) X [.long (Int32.toInt64 x27)] dX11_round_64 ml_X11_248 vo_X3_add ⟨Nat.le_refl _, Nat.le_refl _⟩ eu28 (ev_X3_add (d := d - 1) (by omega) _ _ _ _ eh29) hd1 rfl (Nat.le_of_ble_eq_true rfl) rfl ?_
    refine r_iload_n (pc := 67) X dX11_round_67 rfl ?_
    obtain rfl := Option.some.inj hf
    exact r_iret (pc := 68) X dX11_round_68 hk
  · simp only [Sum.elim_inr] at hf
    obtain rfl := Option.some.inj hf
    exact hk

theorem dX11_still_0 : decode cX11_still 0 = .ok (.aload_n 0, 1) := by decide +kernel
theorem dX11_still_1 : decode cX11_still 1 = .ok (.bipush 100, 2) := by decide +kernel
theorem dX11_still_3 : decode cX11_still 3 = .ok (.invokevirtual 319, 3) := by decide +kernel
theorem dX11_still_6 : decode cX11_still 6 = .ok (.iconst 0, 1) := by decide +kernel
theorem dX11_still_7 : decode cX11_still 7 = .ok (.istore_n 1, 1) := by decide +kernel
theorem dX11_still_8 : decode cX11_still 8 = .ok (.iconst 1, 1) := by decide +kernel
theorem dX11_still_9 : decode cX11_still 9 = .ok (.istore_n 2, 1) := by decide +kernel
theorem dX11_still_10 : decode cX11_still 10 = .ok (.iload_n 2, 1) := by decide +kernel
theorem dX11_still_11 : decode cX11_still 11 = .ok (.bipush 100, 2) := by decide +kernel
theorem dX11_still_13 : decode cX11_still 13 = .ok (.if_icmp .gt 83, 3) := by decide +kernel
theorem dX11_still_16 : decode cX11_still 16 = .ok (.aload_n 0, 1) := by decide +kernel
theorem dX11_still_17 : decode cX11_still 17 = .ok (.getfield 92, 3) := by decide +kernel
theorem dX11_still_20 : decode cX11_still 20 = .ok (.iload_n 2, 1) := by decide +kernel
theorem dX11_still_21 : decode cX11_still 21 = .ok (.laload, 1) := by decide +kernel
theorem dX11_still_22 : decode cX11_still 22 = .ok (.invokestatic 334, 3) := by decide +kernel
theorem dX11_still_25 : decode cX11_still 25 = .ok (.aload_n 0, 1) := by decide +kernel
theorem dX11_still_26 : decode cX11_still 26 = .ok (.getfield 92, 3) := by decide +kernel
theorem dX11_still_29 : decode cX11_still 29 = .ok (.iload_n 2, 1) := by decide +kernel
theorem dX11_still_30 : decode cX11_still 30 = .ok (.iconst 1, 1) := by decide +kernel
theorem dX11_still_31 : decode cX11_still 31 = .ok (.isub, 1) := by decide +kernel
theorem dX11_still_32 : decode cX11_still 32 = .ok (.laload, 1) := by decide +kernel
theorem dX11_still_33 : decode cX11_still 33 = .ok (.invokestatic 334, 3) := by decide +kernel
theorem dX11_still_36 : decode cX11_still 36 = .ok (.if_icmp .ne 7, 3) := by decide +kernel
theorem dX11_still_39 : decode cX11_still 39 = .ok (.iconst 1, 1) := by decide +kernel
theorem dX11_still_40 : decode cX11_still 40 = .ok (.goto 4, 3) := by decide +kernel
theorem dX11_still_43 : decode cX11_still 43 = .ok (.iconst 0, 1) := by decide +kernel
theorem dX11_still_44 : decode cX11_still 44 = .ok (.istore_n 3, 1) := by decide +kernel
theorem dX11_still_45 : decode cX11_still 45 = .ok (.iload_n 3, 1) := by decide +kernel
theorem dX11_still_46 : decode cX11_still 46 = .ok (.ifCond .eq 9, 3) := by decide +kernel
theorem dX11_still_49 : decode cX11_still 49 = .ok (.iload_n 1, 1) := by decide +kernel
theorem dX11_still_50 : decode cX11_still 50 = .ok (.iconst 1, 1) := by decide +kernel
theorem dX11_still_51 : decode cX11_still 51 = .ok (.iadd, 1) := by decide +kernel
theorem dX11_still_52 : decode cX11_still 52 = .ok (.goto 4, 3) := by decide +kernel
theorem dX11_still_55 : decode cX11_still 55 = .ok (.iconst 0, 1) := by decide +kernel
theorem dX11_still_56 : decode cX11_still 56 = .ok (.istore_n 1, 1) := by decide +kernel
theorem dX11_still_57 : decode cX11_still 57 = .ok (.iload_n 1, 1) := by decide +kernel
theorem dX11_still_58 : decode cX11_still 58 = .ok (.iconst 4, 1) := by decide +kernel
theorem dX11_still_59 : decode cX11_still 59 = .ok (.if_icmp .ne 31, 3) := by decide +kernel
theorem dX11_still_62 : decode cX11_still 62 = .ok (.aload_n 0, 1) := by decide +kernel
theorem dX11_still_63 : decode cX11_still 63 = .ok (.getfield 81, 3) := by decide +kernel
theorem dX11_still_66 : decode cX11_still 66 = .ok (.invokevirtual 242, 3) := by decide +kernel
theorem dX11_still_69 : decode cX11_still 69 = .ok (.aload_n 0, 1) := by decide +kernel
theorem dX11_still_70 : decode cX11_still 70 = .ok (.getfield 81, 3) := by decide +kernel
theorem dX11_still_73 : decode cX11_still 73 = .ok (.aload_n 0, 1) := by decide +kernel
theorem dX11_still_74 : decode cX11_still 74 = .ok (.getfield 92, 3) := by decide +kernel
theorem dX11_still_77 : decode cX11_still 77 = .ok (.iload_n 2, 1) := by decide +kernel
theorem dX11_still_78 : decode cX11_still 78 = .ok (.laload, 1) := by decide +kernel
theorem dX11_still_79 : decode cX11_still 79 = .ok (.invokestatic 325, 3) := by decide +kernel
theorem dX11_still_82 : decode cX11_still 82 = .ok (.i2l, 1) := by decide +kernel
theorem dX11_still_83 : decode cX11_still 83 = .ok (.invokevirtual 248, 3) := by decide +kernel
theorem dX11_still_86 : decode cX11_still 86 = .ok (.iload_n 2, 1) := by decide +kernel
theorem dX11_still_87 : decode cX11_still 87 = .ok (.iconst 4, 1) := by decide +kernel
theorem dX11_still_88 : decode cX11_still 88 = .ok (.isub, 1) := by decide +kernel
theorem dX11_still_89 : decode cX11_still 89 = .ok (.ireturn, 1) := by decide +kernel
theorem dX11_still_90 : decode cX11_still 90 = .ok (.iinc 2 1, 3) := by decide +kernel
theorem dX11_still_93 : decode cX11_still 93 = .ok (.goto (-83), 3) := by decide +kernel
theorem dX11_still_96 : decode cX11_still 96 = .ok (.bipush (-2), 2) := by decide +kernel
theorem dX11_still_98 : decode cX11_still 98 = .ok (.ireturn, 1) := by decide +kernel
def lb_X11_still_10 (hh : aH) (v0 : Nat) (s : Int32 × Int32) : Option ((Int32 × Int32) ⊕ ((Int32) ⊕ (Int32 × aH))) :=
  if s.2 ≤ 100 then
    (gR hh v0 10 13).bind fun a3 =>
    (aJ hh a3 s.2).bind fun y4 =>
    (fn_X7_levelsOf hh y4).bind fun x5 =>
    (gR hh v0 10 13).bind fun a6 =>
    (aJ hh a6 (s.2 - 1)).bind fun y7 =>
    (fn_X7_levelsOf hh y7).bind fun x8 =>
    ((
      if x5 = x8 then
        some 1
      else
        some 0
    ) : Option (Int32)).bind fun t9 =>
    ((
      if t9 = 0 then
        some 0
      else
        some (s.1 + 1)
    ) : Option (Int32)).bind fun t10 =>
    if t10 = 4 then
      some (.inr (.inl s.2))
    else
      (some (s.2 + 1)).bind fun x11 =>
      some (.inl (t10, x11))
  else
    some (.inr (.inr ((-2), hh)))
def hd_X11_still_10 (Γ : aC) (hh : aH) (v0 : Nat) (s : Int32 × Int32) : Prop := ∀ (j3 : Option Value), Jd Γ (0, 0) 10 [some (.ref v0), some (.int s.1), some (.int s.2), j3] [] hh
def ex_X11_still_10 (Γ : aC) (hh : aH) (v0 : Nat) (r : (Int32) ⊕ (Int32 × aH)) : Prop := (Sum.elim (fun r => ∀ (j1 : Option Value) (j3 : Option Value), Jd Γ (0, 0) 62 [some (.ref v0), j1, some (.int r), j3] [] hh) (fun r => RqI Γ r)) r
set_option maxRecDepth 20000 in
set_option maxHeartbeats 4000000 in
theorem lw_X11_still_10 {Γ : aC} {d : Nat} (X : Cx Γ RX11 cX11_still 4 (some .int) (d, 0, 0)) (hd : 5 ≤ d) (hh : aH) (v0 : Nat) : ∀ n s o, lp (lb_X11_still_10 hh v0) n s = some o → ex_X11_still_10 Γ hh v0 o → hd_X11_still_10 Γ hh v0 s := by
  have hd1 : 1 ≤ d := by omega
  refine J_lp _ _ _ ?_
  intro s o hf hk j3
  unfold lb_X11_still_10 at hf
  refine r_iload_n (pc := 10) X dX11_still_10 rfl ?_
  refine r_bipush (pc := 11) X 100 dX11_still_11 (by decide) ?_
  refine r_icmp_gt (pc := 13) X 96 dX11_still_13 (by decide) (fun c15 => ?_) (fun c15 => ?_)
  · rw [if_neg c15] at hf
    refine r_bipush (pc := 96) X (-2) dX11_still_96 (by decide) ?_
    obtain rfl := Option.some.inj hf
    exact r_iret (pc := 98) X dX11_still_98 hk
  · rw [if_pos c15] at hf
    refine r_aload_n (pc := 16) X dX11_still_16 rfl ?_
    obtain ⟨a3, ea3, hf⟩ := ob hf
    refine r_getR (pc := 17) X dX11_still_17 fl_X11_92 rfl ea3 ?_
    refine r_iload_n (pc := 20) X dX11_still_20 rfl ?_
    obtain ⟨y4, ey4, hf⟩ := ob hf
    refine r_lald (pc := 21) X dX11_still_21 ey4 ?_
    obtain ⟨x5, ex5, hf⟩ := ob hf
    refine r_callSI (pc := 22) X [.long y4] dX11_still_22 ml_X11_334 so_X7_levelsOf ⟨Nat.le_refl _, Nat.le_refl _⟩ (ev_X7_levelsOf (d := d - 1) (by omega) _ _ _ ex5) hd1 rfl (Nat.le_of_ble_eq_true rfl) rfl ?_
    refine r_aload_n (pc := 25) X dX11_still_25 rfl ?_
    obtain ⟨a6, ea6, hf⟩ := ob hf
    refine r_getR (pc := 26) X dX11_still_26 fl_X11_92 rfl ea6 ?_
    refine r_iload_n (pc := 29) X dX11_still_29 rfl ?_
    refine r_iconst (pc := 30) X 1 dX11_still_30 (by decide) ?_
    refine r_isub (pc := 31) X dX11_still_31 ?_
    obtain ⟨y7, ey7, hf⟩ := ob hf
    refine r_lald (pc := 32) X dX11_still_32 ey7 ?_
    obtain ⟨x8, ex8, hf⟩ := ob hf
    refine r_callSI (pc := 33) X [.long y7] dX11_still_33 ml_X11_334 so_X7_levelsOf ⟨Nat.le_refl _, Nat.le_refl _⟩ (ev_X7_levelsOf (d := d - 1) (by omega) _ _ _ ex8) hd1 rfl (Nat.le_of_ble_eq_true rfl) rfl ?_
    obtain ⟨t9, et9, hf⟩ := ob hf
    have Jt9 : Jd Γ (0, 0) 44 [some (.ref v0), some (.int s.1), some (.int s.2), j3] [.int t9] hh := by
      refine r_istore_n (pc := 44) X [some (.ref v0), some (.int s.1), some (.int s.2), some (.int t9)] dX11_still_44 (by decide) rfl ?_
      refine r_iload_n (pc := 45) X dX11_still_45 rfl ?_
      obtain ⟨t10, et10, hf⟩ := ob hf
      have Jt10 : Jd Γ (0, 0) 56 [some (.ref v0), some (.int s.1), some (.int s.2), some (.int t9)] [.int t10] hh := by
        refine r_istore_n (pc := 56) X [some (.ref v0), some (.int t10), some (.int s.2), some (.int t9)] dX11_still_56 (by decide) rfl ?_
        refine r_iload_n (pc := 57) X dX11_still_57 rfl ?_
        refine r_iconst (pc := 58) X 4 dX11_still_58 (by decide) ?_
        refine r_icmp_ne (pc := 59) X 90 dX11_still_59 (by decide) (fun c12 => ?_) (fun c12 => ?_)
        · rw [if_neg c12] at hf
          obtain ⟨x11, ex11, hf⟩ := ob hf
          refine r_iinc2 (pc := 90) X 1 [some (.ref v0), some (.int t10), some (.int x11), some (.int t9)] dX11_still_90 (by decide) rfl (by decide) ex11 rfl ?_
          refine r_goto (pc := 93) X 10 dX11_still_93 (by decide) ?_
          obtain rfl := Option.some.inj hf
          exact hk _
        · rw [if_pos c12] at hf
          obtain rfl := Option.some.inj hf
          exact hk _ _
      refine r_if_eq (pc := 46) X 55 dX11_still_46 (by decide) (fun c13 => ?_) (fun c13 => ?_)
      · rw [if_pos c13] at et10
        refine r_iconst (pc := 55) X 0 dX11_still_55 (by decide) ?_
        obtain rfl := Option.some.inj et10
        exact Jt10
      · rw [if_neg c13] at et10
        refine r_iload_n (pc := 49) X dX11_still_49 rfl ?_
        refine r_iconst (pc := 50) X 1 dX11_still_50 (by decide) ?_
        refine r_iadd (pc := 51) X dX11_still_51 ?_
        refine r_goto (pc := 52) X 56 dX11_still_52 (by decide) ?_
        obtain rfl := Option.some.inj et10
        exact Jt10
    refine r_icmp_ne (pc := 36) X 43 dX11_still_36 (by decide) (fun c14 => ?_) (fun c14 => ?_)
    · rw [if_neg c14] at et9
      refine r_iconst (pc := 43) X 0 dX11_still_43 (by decide) ?_
      obtain rfl := Option.some.inj et9
      exact Jt9
    · rw [if_pos c14] at et9
      refine r_iconst (pc := 39) X 1 dX11_still_39 (by decide) ?_
      refine r_goto (pc := 40) X 44 dX11_still_40 (by decide) ?_
      obtain rfl := Option.some.inj et9
      exact Jt9
def fn_X11_still (h : aH) (p0 : Nat) : Option (Int32 × aH) :=
  (ck h p0 10).bind fun u1 =>
  (fn_X11_traceTrial h p0 100).bind fun h2 =>
  (lp (lb_X11_still_10 h2 p0) lpN (0, 1)).bind fun o16 =>
  Sum.elim (fun o17 =>
    (gR h2 p0 10 11).bind fun a21 =>
    (ck h2 a21 2).bind fun u22 =>
    (fn_X3_begin h2 a21).bind fun h23 =>
    (gR h23 p0 10 11).bind fun a24 =>
    (gR h23 p0 10 13).bind fun a25 =>
    (aJ h23 a25 o17).bind fun y26 =>
    (fn_X7_sumOf h23 y26).bind fun x27 =>
    (ck h23 a24 2).bind fun u28 =>
    (fn_X3_add h23 a24 (Int32.toInt64 x27)).bind fun h29 =>
    some ((o17 - 4), h29)
  ) (fun o18 =>
    some o18
  ) o16
set_option maxRecDepth 20000 in
set_option maxHeartbeats 4000000 in
theorem ev_X11_still {l : Launch} {g : aG} {d : Nat} (hd : 5 ≤ d) (h : aH) (p0 : Nat) (o : Int32 × aH) (hf : fn_X11_still h p0 = some o) : EvM l g d yX11_still cX11_still 4 (some .int) [.ref p0] h (some (.int o.1), o.2) := by
  refine EvM.of mk_X11_still (Nat.le_of_ble_eq_true rfl) ?_
  intro Γ hl hg hq X
  have hd1 : 1 ≤ d := by omega
  have hk : RqI Γ o := hq
  unfold fn_X11_still at hf
  show Jd Γ (0, 0) 0 [some (.ref p0), none, none, none] [] h
  refine r_aload_n (pc := 0) X dX11_still_0 rfl ?_
  refine r_bipush (pc := 1) X 100 dX11_still_1 (by decide) ?_
  obtain ⟨u1, eu1, hf⟩ := ob hf
  obtain ⟨h2, eh2, hf⟩ := ob hf
  refine r_callVV (pc := 3) X [.int 100] dX11_still_3 ml_X11_319 vo_X11_traceTrial ⟨Nat.le_refl _, Nat.le_refl _⟩ eu1 (ev_X11_traceTrial (d := d - 1) (by omega) _ _ _ _ eh2) hd1 rfl (Nat.le_of_ble_eq_true rfl) rfl ?_
  refine r_iconst (pc := 6) X 0 dX11_still_6 (by decide) ?_
  refine r_istore_n (pc := 7) X [some (.ref p0), some (.int 0), none, none] dX11_still_7 (by decide) rfl ?_
  refine r_iconst (pc := 8) X 1 dX11_still_8 (by decide) ?_
  refine r_istore_n (pc := 9) X [some (.ref p0), some (.int 0), some (.int 1), none] dX11_still_9 (by decide) rfl ?_
  obtain ⟨o16, eo16, hf⟩ := ob hf
  refine (lw_X11_still_10 X hd _ _ lpN _ o16 eo16 ?_) _
  rcases o16 with o17 | o18
  · simp only [Sum.elim_inl] at hf
    intro j19 j20
    refine r_aload_n (pc := 62) X dX11_still_62 rfl ?_
    obtain ⟨a21, ea21, hf⟩ := ob hf
    refine r_getR (pc := 63) X dX11_still_63 fl_X11_81 rfl ea21 ?_
    obtain ⟨u22, eu22, hf⟩ := ob hf
    obtain ⟨h23, eh23, hf⟩ := ob hf
    refine r_callVV (pc := 66) X [] dX11_still_66 ml_X11_242 vo_X3_begin ⟨Nat.le_refl _, Nat.le_refl _⟩ eu22 (ev_X3_begin (d := d - 1) (by omega) _ _ _ eh23) hd1 rfl (Nat.le_of_ble_eq_true rfl) rfl ?_
    refine r_aload_n (pc := 69) X dX11_still_69 rfl ?_
    obtain ⟨a24, ea24, hf⟩ := ob hf
    refine r_getR (pc := 70) X dX11_still_70 fl_X11_81 rfl ea24 ?_
    refine r_aload_n (pc := 73) X dX11_still_73 rfl ?_
    obtain ⟨a25, ea25, hf⟩ := ob hf
    refine r_getR (pc := 74) X dX11_still_74 fl_X11_92 rfl ea25 ?_
    refine r_iload_n (pc := 77) X dX11_still_77 rfl ?_
    obtain ⟨y26, ey26, hf⟩ := ob hf
    refine r_lald (pc := 78) X dX11_still_78 ey26 ?_
    obtain ⟨x27, ex27, hf⟩ := ob hf
    refine r_callSI (pc := 79) X [.long y26] dX11_still_79 ml_X11_325 so_X7_sumOf ⟨Nat.le_refl _, Nat.le_refl _⟩ (ev_X7_sumOf (d := d - 1) (by omega) _ _ _ ex27) hd1 rfl (Nat.le_of_ble_eq_true rfl) rfl ?_
    refine r_i2l (pc := 82) X dX11_still_82 ?_
    obtain ⟨u28, eu28, hf⟩ := ob hf
    obtain ⟨h29, eh29, hf⟩ := ob hf
    refine r_callVV (pc := 83) X [.long (Int32.toInt64 x27)] dX11_still_83 ml_X11_248 vo_X3_add ⟨Nat.le_refl _, Nat.le_refl _⟩ eu28 (ev_X3_add (d := d - 1) (by omega) _ _ _ _ eh29) hd1 rfl (Nat.le_of_ble_eq_true rfl) rfl ?_
    refine r_iload_n (pc := 86) X dX11_still_86 rfl ?_
    refine r_iconst (pc := 87) X 4 dX11_still_87 (by decide) ?_
    refine r_isub (pc := 88) X dX11_still_88 ?_
    obtain rfl := Option.some.inj hf
    exact r_iret (pc := 89) X dX11_still_89 hk
  · simp only [Sum.elim_inr] at hf
    obtain rfl := Option.some.inj hf
    exact hk

theorem dX11_busiest_0 : decode cX11_busiest 0 = .ok (.iload_n 1, 1) := by decide +kernel
theorem dX11_busiest_1 : decode cX11_busiest 1 = .ok (.iconst 1, 1) := by decide +kernel
theorem dX11_busiest_2 : decode cX11_busiest 2 = .ok (.if_icmp .lt 9, 3) := by decide +kernel
theorem dX11_busiest_5 : decode cX11_busiest 5 = .ok (.iload_n 1, 1) := by decide +kernel
theorem dX11_busiest_6 : decode cX11_busiest 6 = .ok (.bipush 99, 2) := by decide +kernel
theorem dX11_busiest_8 : decode cX11_busiest 8 = .ok (.if_icmp .le 5, 3) := by decide +kernel
theorem dX11_busiest_11 : decode cX11_busiest 11 = .ok (.iconst (-1), 1) := by decide +kernel
theorem dX11_busiest_12 : decode cX11_busiest 12 = .ok (.ireturn, 1) := by decide +kernel
theorem dX11_busiest_13 : decode cX11_busiest 13 = .ok (.aload_n 0, 1) := by decide +kernel
theorem dX11_busiest_14 : decode cX11_busiest 14 = .ok (.getfield 19, 3) := by decide +kernel
theorem dX11_busiest_17 : decode cX11_busiest 17 = .ok (.getfield 132, 3) := by decide +kernel
theorem dX11_busiest_20 : decode cX11_busiest 20 = .ok (.ifCond .ne 6, 3) := by decide +kernel
theorem dX11_busiest_23 : decode cX11_busiest 23 = .ok (.bipush (-2), 2) := by decide +kernel
theorem dX11_busiest_25 : decode cX11_busiest 25 = .ok (.ireturn, 1) := by decide +kernel
theorem dX11_busiest_26 : decode cX11_busiest 26 = .ok (.aload_n 0, 1) := by decide +kernel
theorem dX11_busiest_27 : decode cX11_busiest 27 = .ok (.invokevirtual 309, 3) := by decide +kernel
theorem dX11_busiest_30 : decode cX11_busiest 30 = .ok (.aload_n 0, 1) := by decide +kernel
theorem dX11_busiest_31 : decode cX11_busiest 31 = .ok (.getfield 19, 3) := by decide +kernel
theorem dX11_busiest_34 : decode cX11_busiest 34 = .ok (.aload_n 0, 1) := by decide +kernel
theorem dX11_busiest_35 : decode cX11_busiest 35 = .ok (.getfield 68, 3) := by decide +kernel
theorem dX11_busiest_38 : decode cX11_busiest 38 = .ok (.aload_n 0, 1) := by decide +kernel
theorem dX11_busiest_39 : decode cX11_busiest 39 = .ok (.getfield 42, 3) := by decide +kernel
theorem dX11_busiest_42 : decode cX11_busiest 42 = .ok (.iload_n 1, 1) := by decide +kernel
theorem dX11_busiest_43 : decode cX11_busiest 43 = .ok (.invokevirtual 312, 3) := by decide +kernel
theorem dX11_busiest_46 : decode cX11_busiest 46 = .ok (.iconst 0, 1) := by decide +kernel
theorem dX11_busiest_47 : decode cX11_busiest 47 = .ok (.istore_n 2, 1) := by decide +kernel
theorem dX11_busiest_48 : decode cX11_busiest 48 = .ok (.iconst 1, 1) := by decide +kernel
theorem dX11_busiest_49 : decode cX11_busiest 49 = .ok (.istore_n 3, 1) := by decide +kernel
theorem dX11_busiest_50 : decode cX11_busiest 50 = .ok (.iload_n 3, 1) := by decide +kernel
theorem dX11_busiest_51 : decode cX11_busiest 51 = .ok (.aload_n 0, 1) := by decide +kernel
theorem dX11_busiest_52 : decode cX11_busiest 52 = .ok (.getfield 19, 3) := by decide +kernel
theorem dX11_busiest_55 : decode cX11_busiest 55 = .ok (.getfield 132, 3) := by decide +kernel
theorem dX11_busiest_58 : decode cX11_busiest 58 = .ok (.if_icmp .ge 36, 3) := by decide +kernel
theorem dX11_busiest_61 : decode cX11_busiest 61 = .ok (.aload_n 0, 1) := by decide +kernel
theorem dX11_busiest_62 : decode cX11_busiest 62 = .ok (.getfield 19, 3) := by decide +kernel
theorem dX11_busiest_65 : decode cX11_busiest 65 = .ok (.getfield 341, 3) := by decide +kernel
theorem dX11_busiest_68 : decode cX11_busiest 68 = .ok (.iload_n 3, 1) := by decide +kernel
theorem dX11_busiest_69 : decode cX11_busiest 69 = .ok (.iaload, 1) := by decide +kernel
theorem dX11_busiest_70 : decode cX11_busiest 70 = .ok (.aload_n 0, 1) := by decide +kernel
theorem dX11_busiest_71 : decode cX11_busiest 71 = .ok (.getfield 19, 3) := by decide +kernel
theorem dX11_busiest_74 : decode cX11_busiest 74 = .ok (.getfield 341, 3) := by decide +kernel
theorem dX11_busiest_77 : decode cX11_busiest 77 = .ok (.iload_n 2, 1) := by decide +kernel
theorem dX11_busiest_78 : decode cX11_busiest 78 = .ok (.iaload, 1) := by decide +kernel
theorem dX11_busiest_79 : decode cX11_busiest 79 = .ok (.if_icmp .le 7, 3) := by decide +kernel
theorem dX11_busiest_82 : decode cX11_busiest 82 = .ok (.iload_n 3, 1) := by decide +kernel
theorem dX11_busiest_83 : decode cX11_busiest 83 = .ok (.goto 4, 3) := by decide +kernel
theorem dX11_busiest_86 : decode cX11_busiest 86 = .ok (.iload_n 2, 1) := by decide +kernel
theorem dX11_busiest_87 : decode cX11_busiest 87 = .ok (.istore_n 2, 1) := by decide +kernel
theorem dX11_busiest_88 : decode cX11_busiest 88 = .ok (.iinc 3 1, 3) := by decide +kernel
theorem dX11_busiest_91 : decode cX11_busiest 91 = .ok (.goto (-41), 3) := by decide +kernel
theorem dX11_busiest_94 : decode cX11_busiest 94 = .ok (.aload_n 0, 1) := by decide +kernel
theorem dX11_busiest_95 : decode cX11_busiest 95 = .ok (.getfield 81, 3) := by decide +kernel
theorem dX11_busiest_98 : decode cX11_busiest 98 = .ok (.invokevirtual 242, 3) := by decide +kernel
theorem dX11_busiest_101 : decode cX11_busiest 101 = .ok (.aload_n 0, 1) := by decide +kernel
theorem dX11_busiest_102 : decode cX11_busiest 102 = .ok (.getfield 81, 3) := by decide +kernel
theorem dX11_busiest_105 : decode cX11_busiest 105 = .ok (.aload_n 0, 1) := by decide +kernel
theorem dX11_busiest_106 : decode cX11_busiest 106 = .ok (.getfield 19, 3) := by decide +kernel
theorem dX11_busiest_109 : decode cX11_busiest 109 = .ok (.getfield 341, 3) := by decide +kernel
theorem dX11_busiest_112 : decode cX11_busiest 112 = .ok (.iload_n 2, 1) := by decide +kernel
theorem dX11_busiest_113 : decode cX11_busiest 113 = .ok (.iaload, 1) := by decide +kernel
theorem dX11_busiest_114 : decode cX11_busiest 114 = .ok (.i2l, 1) := by decide +kernel
theorem dX11_busiest_115 : decode cX11_busiest 115 = .ok (.invokevirtual 248, 3) := by decide +kernel
theorem dX11_busiest_118 : decode cX11_busiest 118 = .ok (.aload_n 0, 1) := by decide +kernel
theorem dX11_busiest_119 : decode cX11_busiest 119 = .ok (.getfield 81, 3) := by decide +kernel
theorem dX11_busiest_122 : decode cX11_busiest 122 = .ok (.aload_n 0, 1) := by decide +kernel
theorem dX11_busiest_123 : decode cX11_busiest 123 = .ok (.getfield 19, 3) := by decide +kernel
theorem dX11_busiest_126 : decode cX11_busiest 126 = .ok (.getfield 245, 3) := by decide +kernel
theorem dX11_busiest_129 : decode cX11_busiest 129 = .ok (.i2l, 1) := by decide +kernel
theorem dX11_busiest_130 : decode cX11_busiest 130 = .ok (.invokevirtual 248, 3) := by decide +kernel
theorem dX11_busiest_133 : decode cX11_busiest 133 = .ok (.iload_n 2, 1) := by decide +kernel
theorem dX11_busiest_134 : decode cX11_busiest 134 = .ok (.ireturn, 1) := by decide +kernel
def lb_X11_busiest_50 (hh : aH) (v0 : Nat) (s : Int32 × Int32) : Option ((Int32 × Int32) ⊕ ((Int32))) :=
  (gR hh v0 10 1).bind fun a10 =>
  (gI hh a10 0 1).bind fun x11 =>
  if s.2 < x11 then
    (gR hh v0 10 1).bind fun a12 =>
    (gR hh a12 0 7).bind fun a13 =>
    (aI hh a13 14 s.2).bind fun x14 =>
    (gR hh v0 10 1).bind fun a15 =>
    (gR hh a15 0 7).bind fun a16 =>
    (aI hh a16 14 s.1).bind fun x17 =>
    if x14 ≤ x17 then
      (some (s.2 + 1)).bind fun x18 =>
      some (.inl (s.1, x18))
    else
      (some (s.2 + 1)).bind fun x19 =>
      some (.inl (s.2, x19))
  else
    some (.inr s.1)
def hd_X11_busiest_50 (Γ : aC) (hh : aH) (v0 : Nat) (s : Int32 × Int32) : Prop := ∀ (j1 : Option Value), Jd Γ (0, 0) 50 [some (.ref v0), j1, some (.int s.1), some (.int s.2)] [] hh
def ex_X11_busiest_50 (Γ : aC) (hh : aH) (v0 : Nat) (r : (Int32)) : Prop := (fun r => ∀ (j1 : Option Value) (j3 : Option Value), Jd Γ (0, 0) 94 [some (.ref v0), j1, some (.int r), j3] [] hh) r
set_option maxRecDepth 20000 in
set_option maxHeartbeats 4000000 in
theorem lw_X11_busiest_50 {Γ : aC} {d : Nat} (X : Cx Γ RX11 cX11_busiest 4 (some .int) (d, 0, 0)) (hd : 5 ≤ d) (hh : aH) (v0 : Nat) : ∀ n s o, lp (lb_X11_busiest_50 hh v0) n s = some o → ex_X11_busiest_50 Γ hh v0 o → hd_X11_busiest_50 Γ hh v0 s := by
  have hd1 : 1 ≤ d := by omega
  refine J_lp _ _ _ ?_
  intro s o hf hk j1
  unfold lb_X11_busiest_50 at hf
  refine r_iload_n (pc := 50) X dX11_busiest_50 rfl ?_
  refine r_aload_n (pc := 51) X dX11_busiest_51 rfl ?_
  obtain ⟨a10, ea10, hf⟩ := ob hf
  refine r_getR (pc := 52) X dX11_busiest_52 fl_X11_19 rfl ea10 ?_
  obtain ⟨x11, ex11, hf⟩ := ob hf
  refine r_getI (pc := 55) X dX11_busiest_55 fl_X11_132 rfl ex11 ?_
  refine r_icmp_ge (pc := 58) X 94 dX11_busiest_58 (by decide) (fun c21 => ?_) (fun c21 => ?_)
  · rw [if_neg c21] at hf
    obtain rfl := Option.some.inj hf
    exact hk _ _
  · rw [if_pos c21] at hf
    refine r_aload_n (pc := 61) X dX11_busiest_61 rfl ?_
    obtain ⟨a12, ea12, hf⟩ := ob hf
    refine r_getR (pc := 62) X dX11_busiest_62 fl_X11_19 rfl ea12 ?_
    obtain ⟨a13, ea13, hf⟩ := ob hf
    refine r_getR (pc := 65) X dX11_busiest_65 fl_X11_341 rfl ea13 ?_
    refine r_iload_n (pc := 68) X dX11_busiest_68 rfl ?_
    obtain ⟨x14, ex14, hf⟩ := ob hf
    refine r_iald (pc := 69) X dX11_busiest_69 ex14 ?_
    refine r_aload_n (pc := 70) X dX11_busiest_70 rfl ?_
    obtain ⟨a15, ea15, hf⟩ := ob hf
    refine r_getR (pc := 71) X dX11_busiest_71 fl_X11_19 rfl ea15 ?_
    obtain ⟨a16, ea16, hf⟩ := ob hf
    refine r_getR (pc := 74) X dX11_busiest_74 fl_X11_341 rfl ea16 ?_
    refine r_iload_n (pc := 77) X dX11_busiest_77 rfl ?_
    obtain ⟨x17, ex17, hf⟩ := ob hf
    refine r_iald (pc := 78) X dX11_busiest_78 ex17 ?_
    refine r_icmp_le (pc := 79) X 86 dX11_busiest_79 (by decide) (fun c20 => ?_) (fun c20 => ?_)
    · rw [if_pos c20] at hf
      refine r_iload_n (pc := 86) X dX11_busiest_86 rfl ?_
      refine r_fg 1 [some (.ref v0), none, some (.int s.1), some (.int s.2)] rfl ?_
      refine r_istore_n (pc := 87) X [some (.ref v0), none, some (.int s.1), some (.int s.2)] dX11_busiest_87 (by decide) rfl ?_
      obtain ⟨x18, ex18, hf⟩ := ob hf
      refine r_iinc2 (pc := 88) X 1 [some (.ref v0), none, some (.int s.1), some (.int x18)] dX11_busiest_88 (by decide) rfl (by decide) ex18 rfl ?_
      refine r_goto (pc := 91) X 50 dX11_busiest_91 (by decide) ?_
      obtain rfl := Option.some.inj hf
      exact hk _
    · rw [if_neg c20] at hf
      refine r_iload_n (pc := 82) X dX11_busiest_82 rfl ?_
      refine r_goto (pc := 83) X 87 dX11_busiest_83 (by decide) ?_
      refine r_fg 1 [some (.ref v0), none, some (.int s.1), some (.int s.2)] rfl ?_
      refine r_istore_n (pc := 87) X [some (.ref v0), none, some (.int s.2), some (.int s.2)] dX11_busiest_87 (by decide) rfl ?_
      obtain ⟨x19, ex19, hf⟩ := ob hf
      refine r_iinc2 (pc := 88) X 1 [some (.ref v0), none, some (.int s.2), some (.int x19)] dX11_busiest_88 (by decide) rfl (by decide) ex19 rfl ?_
      refine r_goto (pc := 91) X 50 dX11_busiest_91 (by decide) ?_
      obtain rfl := Option.some.inj hf
      exact hk _
def fn_X11_busiest (h : aH) (p0 : Nat) (p1 : Int32) : Option (Int32 × aH) :=
  if p1 < 1 then
    some ((-1), h)
  else
    if p1 ≤ 99 then
      (gR h p0 10 1).bind fun a1 =>
      (gI h a1 0 1).bind fun x2 =>
      if x2 = 0 then
        some ((-2), h)
      else
        (ck h p0 10).bind fun u3 =>
        (fn_X11_startTrial h p0).bind fun h4 =>
        (gR h4 p0 10 1).bind fun a5 =>
        (gR h4 p0 10 9).bind fun a6 =>
        (gR h4 p0 10 4).bind fun a7 =>
        (ck h4 a5 0).bind fun u8 =>
        (fn_X0_run h4 a5 a6 a7 p1).bind fun h9 =>
        (lp (lb_X11_busiest_50 h9 p0) lpN (0, 1)).bind fun o22 =>
        (gR h9 p0 10 11).bind fun a25 =>
        (ck h9 a25 2).bind fun u26 =>
        (fn_X3_begin h9 a25).bind fun h27 =>
        (gR h27 p0 10 11).bind fun a28 =>
        (gR h27 p0 10 1).bind fun a29 =>
        (gR h27 a29 0 7).bind fun a30 =>
        (aI h27 a30 14 o22).bind fun x31 =>
        (ck h27 a28 2).bind fun u32 =>
        (fn_X3_add h27 a28 (Int32.toInt64 x31)).bind fun h33 =>
        (gR h33 p0 10 11).bind fun a34 =>
        (gR h33 p0 10 1).bind fun a35 =>
        (gI h33 a35 0 8).bind fun x36 =>
        (ck h33 a34 2).bind fun u37 =>
        (fn_X3_add h33 a34 (Int32.toInt64 x36)).bind fun h38 =>
        some (o22, h38)
    else
      some ((-1), h)
set_option maxRecDepth 20000 in
set_option maxHeartbeats 4000000 in
theorem ev_X11_busiest {l : Launch} {g : aG} {d : Nat} (hd : 5 ≤ d) (h : aH) (p0 : Nat) (p1 : Int32) (o : Int32 × aH) (hf : fn_X11_busiest h p0 p1 = some o) : EvM l g d yX11_busiest cX11_busiest 4 (some .int) [.ref p0, .int p1] h (some (.int o.1), o.2) := by
  refine EvM.of mk_X11_busiest (Nat.le_of_ble_eq_true rfl) ?_
  intro Γ hl hg hq X
  have hd1 : 1 ≤ d := by omega
  have hk : RqI Γ o := hq
  unfold fn_X11_busiest at hf
  show Jd Γ (0, 0) 0 [some (.ref p0), some (.int p1), none, none] [] h
  refine r_iload_n (pc := 0) X dX11_busiest_0 rfl ?_
  refine r_iconst (pc := 1) X 1 dX11_busiest_1 (by decide) ?_
  refine r_icmp_lt (pc := 2) X 11 dX11_busiest_2 (by decide) (fun c41 => ?_) (fun c41 => ?_)
  · rw [if_pos c41] at hf
    refine r_iconst (pc := 11) X (-1) dX11_busiest_11 (by decide) ?_
    obtain rfl := Option.some.inj hf
    exact r_iret (pc := 12) X dX11_busiest_12 hk
  · rw [if_neg c41] at hf
    refine r_iload_n (pc := 5) X dX11_busiest_5 rfl ?_
    refine r_bipush (pc := 6) X 99 dX11_busiest_6 (by decide) ?_
    refine r_icmp_le (pc := 8) X 13 dX11_busiest_8 (by decide) (fun c40 => ?_) (fun c40 => ?_)
    · rw [if_pos c40] at hf
      refine r_aload_n (pc := 13) X dX11_busiest_13 rfl ?_
      obtain ⟨a1, ea1, hf⟩ := ob hf
      refine r_getR (pc := 14) X dX11_busiest_14 fl_X11_19 rfl ea1 ?_
      obtain ⟨x2, ex2, hf⟩ := ob hf
      refine r_getI (pc := 17) X dX11_busiest_17 fl_X11_132 rfl ex2 ?_
      refine r_if_ne (pc := 20) X 26 dX11_busiest_20 (by decide) (fun c39 => ?_) (fun c39 => ?_)
      · rw [if_neg c39] at hf
        refine r_aload_n (pc := 26) X dX11_busiest_26 rfl ?_
        obtain ⟨u3, eu3, hf⟩ := ob hf
        obtain ⟨h4, eh4, hf⟩ := ob hf
        refine r_callVV (pc := 27) X [] dX11_busiest_27 ml_X11_309 vo_X11_startTrial ⟨Nat.le_refl _, Nat.le_refl _⟩ eu3 (ev_X11_startTrial (d := d - 1) (by omega) _ _ _ eh4) hd1 rfl (Nat.le_of_ble_eq_true rfl) rfl ?_
        refine r_aload_n (pc := 30) X dX11_busiest_30 rfl ?_
        obtain ⟨a5, ea5, hf⟩ := ob hf
        refine r_getR (pc := 31) X dX11_busiest_31 fl_X11_19 rfl ea5 ?_
        refine r_aload_n (pc := 34) X dX11_busiest_34 rfl ?_
        obtain ⟨a6, ea6, hf⟩ := ob hf
        refine r_getR (pc := 35) X dX11_busiest_35 fl_X11_68 rfl ea6 ?_
        refine r_aload_n (pc := 38) X dX11_busiest_38 rfl ?_
        obtain ⟨a7, ea7, hf⟩ := ob hf
        refine r_getR (pc := 39) X dX11_busiest_39 fl_X11_42 rfl ea7 ?_
        refine r_iload_n (pc := 42) X dX11_busiest_42 rfl ?_
        obtain ⟨u8, eu8, hf⟩ := ob hf
        obtain ⟨h9, eh9, hf⟩ := ob hf
        refine r_callVV (pc := 43) X [.ref a6, .ref a7, .int p1] dX11_busiest_43 ml_X11_312 vo_X0_run ⟨Nat.le_refl _, Nat.le_refl _⟩ eu8 (ev_X0_run (d := d - 1) (by omega) _ _ _ _ _ _ eh9) hd1 rfl (Nat.le_of_ble_eq_true rfl) rfl ?_
        refine r_iconst (pc := 46) X 0 dX11_busiest_46 (by decide) ?_
        refine r_istore_n (pc := 47) X [some (.ref p0), some (.int p1), some (.int 0), none] dX11_busiest_47 (by decide) rfl ?_
        refine r_iconst (pc := 48) X 1 dX11_busiest_48 (by decide) ?_
        refine r_istore_n (pc := 49) X [some (.ref p0), some (.int p1), some (.int 0), some (.int 1)] dX11_busiest_49 (by decide) rfl ?_
        obtain ⟨o22, eo22, hf⟩ := ob hf
        refine (lw_X11_busiest_50 X hd _ _ lpN _ o22 eo22 ?_) _
        intro j23 j24
        refine r_aload_n (pc := 94) X dX11_busiest_94 rfl ?_
        obtain ⟨a25, ea25, hf⟩ := ob hf
        refine r_getR (pc := 95) X dX11_busiest_95 fl_X11_81 rfl ea25 ?_
        obtain ⟨u26, eu26, hf⟩ := ob hf
        obtain ⟨h27, eh27, hf⟩ := ob hf
        refine r_callVV (pc := 98) X [] dX11_busiest_98 ml_X11_242 vo_X3_begin ⟨Nat.le_refl _, Nat.le_refl _⟩ eu26 (ev_X3_begin (d := d - 1) (by omega) _ _ _ eh27) hd1 rfl (Nat.le_of_ble_eq_true rfl) rfl ?_
        refine r_aload_n (pc := 101) X dX11_busiest_101 rfl ?_
        obtain ⟨a28, ea28, hf⟩ := ob hf
        refine r_getR (pc := 102) X dX11_busiest_102 fl_X11_81 rfl ea28 ?_
        refine r_aload_n (pc := 105) X dX11_busiest_105 rfl ?_
        obtain ⟨a29, ea29, hf⟩ := ob hf
        refine r_getR (pc := 106) X dX11_busiest_106 fl_X11_19 rfl ea29 ?_
        obtain ⟨a30, ea30, hf⟩ := ob hf
        refine r_getR (pc := 109) X dX11_busiest_109 fl_X11_341 rfl ea30 ?_
        refine r_iload_n (pc := 112) X dX11_busiest_112 rfl ?_
        obtain ⟨x31, ex31, hf⟩ := ob hf
        refine r_iald (pc := 113) X dX11_busiest_113 ex31 ?_
        refine r_i2l (pc := 114) X dX11_busiest_114 ?_
        obtain ⟨u32, eu32, hf⟩ := ob hf
        obtain ⟨h33, eh33, hf⟩ := ob hf
        refine r_callVV (pc := 115) X [.long (Int32.toInt64 x31)] dX11_busiest_115 ml_X11_248 vo_X3_add ⟨Nat.le_refl _, Nat.le_refl _⟩ eu32 (ev_X3_add (d := d - 1) (by omega) _ _ _ _ eh33) hd1 rfl (Nat.le_of_ble_eq_true rfl) rfl ?_
        refine r_aload_n (pc := 118) X dX11_busiest_118 rfl ?_
        obtain ⟨a34, ea34, hf⟩ := ob hf
        refine r_getR (pc := 119) X dX11_busiest_119 fl_X11_81 rfl ea34 ?_
        refine r_aload_n (pc := 122) X dX11_busiest_122 rfl ?_
        obtain ⟨a35, ea35, hf⟩ := ob hf
        refine r_getR (pc := 123) X dX11_busiest_123 fl_X11_19 rfl ea35 ?_
        obtain ⟨x36, ex36, hf⟩ := ob hf
        refine r_getI (pc := 126) X dX11_busiest_126 fl_X11_245 rfl ex36 ?_
        refine r_i2l (pc := 129) X dX11_busiest_129 ?_
        obtain ⟨u37, eu37, hf⟩ := ob hf
        obtain ⟨h38, eh38, hf⟩ := ob hf
        refine r_callVV (pc := 130) X [.long (Int32.toInt64 x36)] dX11_busiest_130 ml_X11_248 vo_X3_add ⟨Nat.le_refl _, Nat.le_refl _⟩ eu37 (ev_X3_add (d := d - 1) (by omega) _ _ _ _ eh38) hd1 rfl (Nat.le_of_ble_eq_true rfl) rfl ?_
        refine r_iload_n (pc := 133) X dX11_busiest_133 rfl ?_
        obtain rfl := Option.some.inj hf
        exact r_iret (pc := 134) X dX11_busiest_134 hk
      · rw [if_pos c39] at hf
        refine r_bipush (pc := 23) X (-2) dX11_busiest_23 (by decide) ?_
        obtain rfl := Option.some.inj hf
        exact r_iret (pc := 25) X dX11_busiest_25 hk
    · rw [if_neg c40] at hf
      refine r_iconst (pc := 11) X (-1) dX11_busiest_11 (by decide) ?_
      obtain rfl := Option.some.inj hf
      exact r_iret (pc := 12) X dX11_busiest_12 hk

theorem dX11_high_0 : decode cX11_high 0 = .ok (.iload_n 1, 1) := by decide +kernel
theorem dX11_high_1 : decode cX11_high 1 = .ok (.ifCond .lt 9, 3) := by decide +kernel
theorem dX11_high_4 : decode cX11_high 4 = .ok (.iload_n 1, 1) := by decide +kernel
theorem dX11_high_5 : decode cX11_high 5 = .ok (.bipush 99, 2) := by decide +kernel
theorem dX11_high_7 : decode cX11_high 7 = .ok (.if_icmp .le 5, 3) := by decide +kernel
theorem dX11_high_10 : decode cX11_high 10 = .ok (.iconst (-1), 1) := by decide +kernel
theorem dX11_high_11 : decode cX11_high 11 = .ok (.ireturn, 1) := by decide +kernel
theorem dX11_high_12 : decode cX11_high 12 = .ok (.aload_n 0, 1) := by decide +kernel
theorem dX11_high_13 : decode cX11_high 13 = .ok (.getfield 19, 3) := by decide +kernel
theorem dX11_high_16 : decode cX11_high 16 = .ok (.getfield 113, 3) := by decide +kernel
theorem dX11_high_19 : decode cX11_high 19 = .ok (.ifCond .ne 6, 3) := by decide +kernel
theorem dX11_high_22 : decode cX11_high 22 = .ok (.bipush (-2), 2) := by decide +kernel
theorem dX11_high_24 : decode cX11_high 24 = .ok (.ireturn, 1) := by decide +kernel
theorem dX11_high_25 : decode cX11_high 25 = .ok (.aload_n 0, 1) := by decide +kernel
theorem dX11_high_26 : decode cX11_high 26 = .ok (.invokevirtual 309, 3) := by decide +kernel
theorem dX11_high_29 : decode cX11_high 29 = .ok (.iconst (-1), 1) := by decide +kernel
theorem dX11_high_30 : decode cX11_high 30 = .ok (.istore_n 2, 1) := by decide +kernel
theorem dX11_high_31 : decode cX11_high 31 = .ok (.iconst 0, 1) := by decide +kernel
theorem dX11_high_32 : decode cX11_high 32 = .ok (.istore_n 3, 1) := by decide +kernel
theorem dX11_high_33 : decode cX11_high 33 = .ok (.iload_n 3, 1) := by decide +kernel
theorem dX11_high_34 : decode cX11_high 34 = .ok (.iload_n 1, 1) := by decide +kernel
theorem dX11_high_35 : decode cX11_high 35 = .ok (.if_icmp .gt 96, 3) := by decide +kernel
theorem dX11_high_38 : decode cX11_high 38 = .ok (.iconst 0, 1) := by decide +kernel
theorem dX11_high_39 : decode cX11_high 39 = .ok (.istore 4, 2) := by decide +kernel
theorem dX11_high_41 : decode cX11_high 41 = .ok (.iload 4, 2) := by decide +kernel
theorem dX11_high_43 : decode cX11_high 43 = .ok (.aload_n 0, 1) := by decide +kernel
theorem dX11_high_44 : decode cX11_high 44 = .ok (.getfield 19, 3) := by decide +kernel
theorem dX11_high_47 : decode cX11_high 47 = .ok (.getfield 113, 3) := by decide +kernel
theorem dX11_high_50 : decode cX11_high 50 = .ok (.if_icmp .ge 60, 3) := by decide +kernel
theorem dX11_high_53 : decode cX11_high 53 = .ok (.aload_n 0, 1) := by decide +kernel
theorem dX11_high_54 : decode cX11_high 54 = .ok (.getfield 68, 3) := by decide +kernel
theorem dX11_high_57 : decode cX11_high 57 = .ok (.getfield 154, 3) := by decide +kernel
theorem dX11_high_60 : decode cX11_high 60 = .ok (.iload 4, 2) := by decide +kernel
theorem dX11_high_62 : decode cX11_high 62 = .ok (.iaload, 1) := by decide +kernel
theorem dX11_high_63 : decode cX11_high 63 = .ok (.iload_n 2, 1) := by decide +kernel
theorem dX11_high_64 : decode cX11_high 64 = .ok (.if_icmp .le 40, 3) := by decide +kernel
theorem dX11_high_67 : decode cX11_high 67 = .ok (.aload_n 0, 1) := by decide +kernel
theorem dX11_high_68 : decode cX11_high 68 = .ok (.getfield 68, 3) := by decide +kernel
theorem dX11_high_71 : decode cX11_high 71 = .ok (.getfield 154, 3) := by decide +kernel
theorem dX11_high_74 : decode cX11_high 74 = .ok (.iload 4, 2) := by decide +kernel
theorem dX11_high_76 : decode cX11_high 76 = .ok (.iaload, 1) := by decide +kernel
theorem dX11_high_77 : decode cX11_high 77 = .ok (.istore_n 2, 1) := by decide +kernel
theorem dX11_high_78 : decode cX11_high 78 = .ok (.aload_n 0, 1) := by decide +kernel
theorem dX11_high_79 : decode cX11_high 79 = .ok (.getfield 81, 3) := by decide +kernel
theorem dX11_high_82 : decode cX11_high 82 = .ok (.invokevirtual 242, 3) := by decide +kernel
theorem dX11_high_85 : decode cX11_high 85 = .ok (.aload_n 0, 1) := by decide +kernel
theorem dX11_high_86 : decode cX11_high 86 = .ok (.getfield 81, 3) := by decide +kernel
theorem dX11_high_89 : decode cX11_high 89 = .ok (.iload 4, 2) := by decide +kernel
theorem dX11_high_91 : decode cX11_high 91 = .ok (.i2l, 1) := by decide +kernel
theorem dX11_high_92 : decode cX11_high 92 = .ok (.invokevirtual 248, 3) := by decide +kernel
theorem dX11_high_95 : decode cX11_high 95 = .ok (.aload_n 0, 1) := by decide +kernel
theorem dX11_high_96 : decode cX11_high 96 = .ok (.getfield 81, 3) := by decide +kernel
theorem dX11_high_99 : decode cX11_high 99 = .ok (.iload_n 3, 1) := by decide +kernel
theorem dX11_high_100 : decode cX11_high 100 = .ok (.i2l, 1) := by decide +kernel
theorem dX11_high_101 : decode cX11_high 101 = .ok (.invokevirtual 248, 3) := by decide +kernel
theorem dX11_high_104 : decode cX11_high 104 = .ok (.iinc 4 1, 3) := by decide +kernel
theorem dX11_high_107 : decode cX11_high 107 = .ok (.goto (-66), 3) := by decide +kernel
theorem dX11_high_110 : decode cX11_high 110 = .ok (.aload_n 0, 1) := by decide +kernel
theorem dX11_high_111 : decode cX11_high 111 = .ok (.getfield 19, 3) := by decide +kernel
theorem dX11_high_114 : decode cX11_high 114 = .ok (.aload_n 0, 1) := by decide +kernel
theorem dX11_high_115 : decode cX11_high 115 = .ok (.getfield 68, 3) := by decide +kernel
theorem dX11_high_118 : decode cX11_high 118 = .ok (.aload_n 0, 1) := by decide +kernel
theorem dX11_high_119 : decode cX11_high 119 = .ok (.getfield 42, 3) := by decide +kernel
theorem dX11_high_122 : decode cX11_high 122 = .ok (.invokevirtual 283, 3) := by decide +kernel
theorem dX11_high_125 : decode cX11_high 125 = .ok (.iinc 3 1, 3) := by decide +kernel
theorem dX11_high_128 : decode cX11_high 128 = .ok (.goto (-95), 3) := by decide +kernel
theorem dX11_high_131 : decode cX11_high 131 = .ok (.iload_n 2, 1) := by decide +kernel
theorem dX11_high_132 : decode cX11_high 132 = .ok (.ireturn, 1) := by decide +kernel
def lb_X11_high_41 (v0 : Nat) (v1 : Int32) (v3 : Int32) (s : Int32 × Int32 × aH) : Option ((Int32 × Int32 × aH) ⊕ ((Int32 × aH))) :=
  (gR s.2.2 v0 10 1).bind fun a5 =>
  (gI s.2.2 a5 0 0).bind fun x6 =>
  if s.2.1 < x6 then
    (gR s.2.2 v0 10 9).bind fun a7 =>
    (gR s.2.2 a7 6 0).bind fun a8 =>
    (aI s.2.2 a8 14 s.2.1).bind fun x9 =>
    if x9 ≤ s.1 then
      (some (s.2.1 + 1)).bind fun x10 =>
      some (.inl (s.1, x10, s.2.2))
    else
      (gR s.2.2 v0 10 9).bind fun a11 =>
      (gR s.2.2 a11 6 0).bind fun a12 =>
      (aI s.2.2 a12 14 s.2.1).bind fun x13 =>
      (gR s.2.2 v0 10 11).bind fun a14 =>
      (ck s.2.2 a14 2).bind fun u15 =>
      (fn_X3_begin s.2.2 a14).bind fun h16 =>
      (gR h16 v0 10 11).bind fun a17 =>
      (ck h16 a17 2).bind fun u18 =>
      (fn_X3_add h16 a17 (Int32.toInt64 s.2.1)).bind fun h19 =>
      (gR h19 v0 10 11).bind fun a20 =>
      (ck h19 a20 2).bind fun u21 =>
      (fn_X3_add h19 a20 (Int32.toInt64 v3)).bind fun h22 =>
      (some (s.2.1 + 1)).bind fun x23 =>
      some (.inl (x13, x23, h22))
  else
    some (.inr (s.1, s.2.2))
def hd_X11_high_41 (Γ : aC) (v0 : Nat) (v1 : Int32) (v3 : Int32) (s : Int32 × Int32 × aH) : Prop := Jd Γ (0, 0) 41 [some (.ref v0), some (.int v1), some (.int s.1), some (.int v3), some (.int s.2.1)] [] s.2.2
def ex_X11_high_41 (Γ : aC) (v0 : Nat) (v1 : Int32) (v3 : Int32) (r : (Int32 × aH)) : Prop := (fun r => ∀ (j4 : Option Value), Jd Γ (0, 0) 110 [some (.ref v0), some (.int v1), some (.int r.1), some (.int v3), j4] [] r.2) r
set_option maxRecDepth 20000 in
set_option maxHeartbeats 4000000 in
theorem lw_X11_high_41 {Γ : aC} {d : Nat} (X : Cx Γ RX11 cX11_high 5 (some .int) (d, 0, 0)) (hd : 4 ≤ d) (v0 : Nat) (v1 : Int32) (v3 : Int32) : ∀ n s o, lp (lb_X11_high_41 v0 v1 v3) n s = some o → ex_X11_high_41 Γ v0 v1 v3 o → hd_X11_high_41 Γ v0 v1 v3 s := by
  have hd1 : 1 ≤ d := by omega
  refine J_lp _ _ _ ?_
  intro s o hf hk
  unfold lb_X11_high_41 at hf
  refine r_iload (pc := 41) X dX11_high_41 rfl ?_
  refine r_aload_n (pc := 43) X dX11_high_43 rfl ?_
  obtain ⟨a5, ea5, hf⟩ := ob hf
  refine r_getR (pc := 44) X dX11_high_44 fl_X11_19 rfl ea5 ?_
  obtain ⟨x6, ex6, hf⟩ := ob hf
  refine r_getI (pc := 47) X dX11_high_47 fl_X11_113 rfl ex6 ?_
  refine r_icmp_ge (pc := 50) X 110 dX11_high_50 (by decide) (fun c25 => ?_) (fun c25 => ?_)
  · rw [if_neg c25] at hf
    obtain rfl := Option.some.inj hf
    exact hk _
  · rw [if_pos c25] at hf
    refine r_aload_n (pc := 53) X dX11_high_53 rfl ?_
    obtain ⟨a7, ea7, hf⟩ := ob hf
    refine r_getR (pc := 54) X dX11_high_54 fl_X11_68 rfl ea7 ?_
    obtain ⟨a8, ea8, hf⟩ := ob hf
    refine r_getR (pc := 57) X dX11_high_57 fl_X11_154 rfl ea8 ?_
    refine r_iload (pc := 60) X dX11_high_60 rfl ?_
    obtain ⟨x9, ex9, hf⟩ := ob hf
    refine r_iald (pc := 62) X dX11_high_62 ex9 ?_
    refine r_iload_n (pc := 63) X dX11_high_63 rfl ?_
    refine r_icmp_le (pc := 64) X 104 dX11_high_64 (by decide) (fun c24 => ?_) (fun c24 => ?_)
    · rw [if_pos c24] at hf
      obtain ⟨x10, ex10, hf⟩ := ob hf
      refine r_iinc2 (pc := 104) X 1 [some (.ref v0), some (.int v1), some (.int s.1), some (.int v3), some (.int x10)] dX11_high_104 (by decide) rfl (by decide) ex10 rfl ?_
      refine r_goto (pc := 107) X 41 dX11_high_107 (by decide) ?_
      obtain rfl := Option.some.inj hf
      exact hk
    · rw [if_neg c24] at hf
      refine r_aload_n (pc := 67) X dX11_high_67 rfl ?_
      obtain ⟨a11, ea11, hf⟩ := ob hf
      refine r_getR (pc := 68) X dX11_high_68 fl_X11_68 rfl ea11 ?_
      obtain ⟨a12, ea12, hf⟩ := ob hf
      refine r_getR (pc := 71) X dX11_high_71 fl_X11_154 rfl ea12 ?_
      refine r_iload (pc := 74) X dX11_high_74 rfl ?_
      obtain ⟨x13, ex13, hf⟩ := ob hf
      refine r_iald (pc := 76) X dX11_high_76 ex13 ?_
      refine r_istore_n (pc := 77) X [some (.ref v0), some (.int v1), some (.int x13), some (.int v3), some (.int s.2.1)] dX11_high_77 (by decide) rfl ?_
      refine r_aload_n (pc := 78) X dX11_high_78 rfl ?_
      obtain ⟨a14, ea14, hf⟩ := ob hf
      refine r_getR (pc := 79) X dX11_high_79 fl_X11_81 rfl ea14 ?_
      obtain ⟨u15, eu15, hf⟩ := ob hf
      obtain ⟨h16, eh16, hf⟩ := ob hf
      refine r_callVV (pc := 82) X [] dX11_high_82 ml_X11_242 vo_X3_begin ⟨Nat.le_refl _, Nat.le_refl _⟩ eu15 (ev_X3_begin (d := d - 1) (by omega) _ _ _ eh16) hd1 rfl (Nat.le_of_ble_eq_true rfl) rfl ?_
      refine r_aload_n (pc := 85) X dX11_high_85 rfl ?_
      obtain ⟨a17, ea17, hf⟩ := ob hf
      refine r_getR (pc := 86) X dX11_high_86 fl_X11_81 rfl ea17 ?_
      refine r_iload (pc := 89) X dX11_high_89 rfl ?_
      refine r_i2l (pc := 91) X dX11_high_91 ?_
      obtain ⟨u18, eu18, hf⟩ := ob hf
      obtain ⟨h19, eh19, hf⟩ := ob hf
      refine r_callVV (pc := 92) X [.long (Int32.toInt64 s.2.1)] dX11_high_92 ml_X11_248 vo_X3_add ⟨Nat.le_refl _, Nat.le_refl _⟩ eu18 (ev_X3_add (d := d - 1) (by omega) _ _ _ _ eh19) hd1 rfl (Nat.le_of_ble_eq_true rfl) rfl ?_
      refine r_aload_n (pc := 95) X dX11_high_95 rfl ?_
      obtain ⟨a20, ea20, hf⟩ := ob hf
      refine r_getR (pc := 96) X dX11_high_96 fl_X11_81 rfl ea20 ?_
      refine r_iload_n (pc := 99) X dX11_high_99 rfl ?_
      refine r_i2l (pc := 100) X dX11_high_100 ?_
      obtain ⟨u21, eu21, hf⟩ := ob hf
      obtain ⟨h22, eh22, hf⟩ := ob hf
      refine r_callVV (pc := 101) X [.long (Int32.toInt64 v3)] dX11_high_101 ml_X11_248 vo_X3_add ⟨Nat.le_refl _, Nat.le_refl _⟩ eu21 (ev_X3_add (d := d - 1) (by omega) _ _ _ _ eh22) hd1 rfl (Nat.le_of_ble_eq_true rfl) rfl ?_
      obtain ⟨x23, ex23, hf⟩ := ob hf
      refine r_iinc2 (pc := 104) X 1 [some (.ref v0), some (.int v1), some (.int x13), some (.int v3), some (.int x23)] dX11_high_104 (by decide) rfl (by decide) ex23 rfl ?_
      refine r_goto (pc := 107) X 41 dX11_high_107 (by decide) ?_
      obtain rfl := Option.some.inj hf
      exact hk
def lb_X11_high_33 (v0 : Nat) (v1 : Int32) (s : Int32 × Int32 × aH) : Option ((Int32 × Int32 × aH) ⊕ ((Int32 × aH))) :=
  if s.2.1 ≤ v1 then
    (lp (lb_X11_high_41 v0 v1 s.2.1) lpN (s.1, 0, s.2.2)).bind fun o26 =>
    (gR o26.2 v0 10 1).bind fun a28 =>
    (gR o26.2 v0 10 9).bind fun a29 =>
    (gR o26.2 v0 10 4).bind fun a30 =>
    (ck o26.2 a28 0).bind fun u31 =>
    (fn_X0_pass o26.2 a28 a29 a30).bind fun h32 =>
    (some (s.2.1 + 1)).bind fun x33 =>
    some (.inl (o26.1, x33, h32))
  else
    some (.inr (s.1, s.2.2))
def hd_X11_high_33 (Γ : aC) (v0 : Nat) (v1 : Int32) (s : Int32 × Int32 × aH) : Prop := ∀ (j4 : Option Value), Jd Γ (0, 0) 33 [some (.ref v0), some (.int v1), some (.int s.1), some (.int s.2.1), j4] [] s.2.2
def ex_X11_high_33 (Γ : aC) (v0 : Nat) (v1 : Int32) (r : (Int32 × aH)) : Prop := (fun r => RqI Γ r) r
set_option maxRecDepth 20000 in
set_option maxHeartbeats 4000000 in
theorem lw_X11_high_33 {Γ : aC} {d : Nat} (X : Cx Γ RX11 cX11_high 5 (some .int) (d, 0, 0)) (hd : 4 ≤ d) (v0 : Nat) (v1 : Int32) : ∀ n s o, lp (lb_X11_high_33 v0 v1) n s = some o → ex_X11_high_33 Γ v0 v1 o → hd_X11_high_33 Γ v0 v1 s := by
  have hd1 : 1 ≤ d := by omega
  refine J_lp _ _ _ ?_
  intro s o hf hk j4
  unfold lb_X11_high_33 at hf
  refine r_iload_n (pc := 33) X dX11_high_33 rfl ?_
  refine r_iload_n (pc := 34) X dX11_high_34 rfl ?_
  refine r_icmp_gt (pc := 35) X 131 dX11_high_35 (by decide) (fun c34 => ?_) (fun c34 => ?_)
  · rw [if_neg c34] at hf
    refine r_iload_n (pc := 131) X dX11_high_131 rfl ?_
    obtain rfl := Option.some.inj hf
    exact r_iret (pc := 132) X dX11_high_132 hk
  · rw [if_pos c34] at hf
    refine r_iconst (pc := 38) X 0 dX11_high_38 (by decide) ?_
    refine r_istore (pc := 39) X [some (.ref v0), some (.int v1), some (.int s.1), some (.int s.2.1), some (.int 0)] dX11_high_39 (by decide) rfl ?_
    obtain ⟨o26, eo26, hf⟩ := ob hf
    refine (lw_X11_high_41 X hd _ _ _ lpN _ o26 eo26 ?_)
    intro j27
    refine r_aload_n (pc := 110) X dX11_high_110 rfl ?_
    obtain ⟨a28, ea28, hf⟩ := ob hf
    refine r_getR (pc := 111) X dX11_high_111 fl_X11_19 rfl ea28 ?_
    refine r_aload_n (pc := 114) X dX11_high_114 rfl ?_
    obtain ⟨a29, ea29, hf⟩ := ob hf
    refine r_getR (pc := 115) X dX11_high_115 fl_X11_68 rfl ea29 ?_
    refine r_aload_n (pc := 118) X dX11_high_118 rfl ?_
    obtain ⟨a30, ea30, hf⟩ := ob hf
    refine r_getR (pc := 119) X dX11_high_119 fl_X11_42 rfl ea30 ?_
    obtain ⟨u31, eu31, hf⟩ := ob hf
    obtain ⟨h32, eh32, hf⟩ := ob hf
    refine r_callVV (pc := 122) X [.ref a29, .ref a30] dX11_high_122 ml_X11_283 vo_X0_pass ⟨Nat.le_refl _, Nat.le_refl _⟩ eu31 (ev_X0_pass (d := d - 1) (by omega) _ _ _ _ _ eh32) hd1 rfl (Nat.le_of_ble_eq_true rfl) rfl ?_
    obtain ⟨x33, ex33, hf⟩ := ob hf
    refine r_iinc2 (pc := 125) X 1 [some (.ref v0), some (.int v1), some (.int o26.1), some (.int x33), j27] dX11_high_125 (by decide) rfl (by decide) ex33 rfl ?_
    refine r_goto (pc := 128) X 33 dX11_high_128 (by decide) ?_
    obtain rfl := Option.some.inj hf
    exact hk _
def fn_X11_high (h : aH) (p0 : Nat) (p1 : Int32) : Option (Int32 × aH) :=
  if p1 < 0 then
    some ((-1), h)
  else
    if p1 ≤ 99 then
      (gR h p0 10 1).bind fun a1 =>
      (gI h a1 0 0).bind fun x2 =>
      if x2 = 0 then
        some ((-2), h)
      else
        (ck h p0 10).bind fun u3 =>
        (fn_X11_startTrial h p0).bind fun h4 =>
        (lp (lb_X11_high_33 p0 p1) lpN ((-1), 0, h4)).bind fun o35 =>
        some o35
    else
      some ((-1), h)
set_option maxRecDepth 20000 in
set_option maxHeartbeats 4000000 in
theorem ev_X11_high {l : Launch} {g : aG} {d : Nat} (hd : 4 ≤ d) (h : aH) (p0 : Nat) (p1 : Int32) (o : Int32 × aH) (hf : fn_X11_high h p0 p1 = some o) : EvM l g d yX11_high cX11_high 5 (some .int) [.ref p0, .int p1] h (some (.int o.1), o.2) := by
  refine EvM.of mk_X11_high (Nat.le_of_ble_eq_true rfl) ?_
  intro Γ hl hg hq X
  have hd1 : 1 ≤ d := by omega
  have hk : RqI Γ o := hq
  unfold fn_X11_high at hf
  show Jd Γ (0, 0) 0 [some (.ref p0), some (.int p1), none, none, none] [] h
  refine r_iload_n (pc := 0) X dX11_high_0 rfl ?_
  refine r_if_lt (pc := 1) X 10 dX11_high_1 (by decide) (fun c38 => ?_) (fun c38 => ?_)
  · rw [if_pos c38] at hf
    refine r_iconst (pc := 10) X (-1) dX11_high_10 (by decide) ?_
    obtain rfl := Option.some.inj hf
    exact r_iret (pc := 11) X dX11_high_11 hk
  · rw [if_neg c38] at hf
    refine r_iload_n (pc := 4) X dX11_high_4 rfl ?_
    refine r_bipush (pc := 5) X 99 dX11_high_5 (by decide) ?_
    refine r_icmp_le (pc := 7) X 12 dX11_high_7 (by decide) (fun c37 => ?_) (fun c37 => ?_)
    · rw [if_pos c37] at hf
      refine r_aload_n (pc := 12) X dX11_high_12 rfl ?_
      obtain ⟨a1, ea1, hf⟩ := ob hf
      refine r_getR (pc := 13) X dX11_high_13 fl_X11_19 rfl ea1 ?_
      obtain ⟨x2, ex2, hf⟩ := ob hf
      refine r_getI (pc := 16) X dX11_high_16 fl_X11_113 rfl ex2 ?_
      refine r_if_ne (pc := 19) X 25 dX11_high_19 (by decide) (fun c36 => ?_) (fun c36 => ?_)
      · rw [if_neg c36] at hf
        refine r_aload_n (pc := 25) X dX11_high_25 rfl ?_
        obtain ⟨u3, eu3, hf⟩ := ob hf
        obtain ⟨h4, eh4, hf⟩ := ob hf
        refine r_callVV (pc := 26) X [] dX11_high_26 ml_X11_309 vo_X11_startTrial ⟨Nat.le_refl _, Nat.le_refl _⟩ eu3 (ev_X11_startTrial (d := d - 1) (by omega) _ _ _ eh4) hd1 rfl (Nat.le_of_ble_eq_true rfl) rfl ?_
        refine r_iconst (pc := 29) X (-1) dX11_high_29 (by decide) ?_
        refine r_istore_n (pc := 30) X [some (.ref p0), some (.int p1), some (.int (-1)), none, none] dX11_high_30 (by decide) rfl ?_
        refine r_iconst (pc := 31) X 0 dX11_high_31 (by decide) ?_
        refine r_istore_n (pc := 32) X [some (.ref p0), some (.int p1), some (.int (-1)), some (.int 0), none] dX11_high_32 (by decide) rfl ?_
        obtain ⟨o35, eo35, hf⟩ := ob hf
        refine (lw_X11_high_33 X hd _ _ lpN _ o35 eo35 ?_) _
        obtain rfl := Option.some.inj hf
        exact hk
      · rw [if_pos c36] at hf
        refine r_bipush (pc := 22) X (-2) dX11_high_22 (by decide) ?_
        obtain rfl := Option.some.inj hf
        exact r_iret (pc := 24) X dX11_high_24 hk
    · rw [if_neg c37] at hf
      refine r_iconst (pc := 10) X (-1) dX11_high_10 (by decide) ?_
      obtain rfl := Option.some.inj hf
      exact r_iret (pc := 11) X dX11_high_11 hk

theorem dX11_areQuarter_0 : decode cX11_areQuarter 0 = .ok (.aload_n 0, 1) := by decide +kernel
theorem dX11_areQuarter_1 : decode cX11_areQuarter 1 = .ok (.getfield 19, 3) := by decide +kernel
theorem dX11_areQuarter_4 : decode cX11_areQuarter 4 = .ok (.iload_n 1, 1) := by decide +kernel
theorem dX11_areQuarter_5 : decode cX11_areQuarter 5 = .ok (.invokevirtual 172, 3) := by decide +kernel
theorem dX11_areQuarter_8 : decode cX11_areQuarter 8 = .ok (.ifCond .eq 34, 3) := by decide +kernel
theorem dX11_areQuarter_11 : decode cX11_areQuarter 11 = .ok (.aload_n 0, 1) := by decide +kernel
theorem dX11_areQuarter_12 : decode cX11_areQuarter 12 = .ok (.getfield 19, 3) := by decide +kernel
theorem dX11_areQuarter_15 : decode cX11_areQuarter 15 = .ok (.iload_n 2, 1) := by decide +kernel
theorem dX11_areQuarter_16 : decode cX11_areQuarter 16 = .ok (.invokevirtual 172, 3) := by decide +kernel
theorem dX11_areQuarter_19 : decode cX11_areQuarter 19 = .ok (.ifCond .eq 23, 3) := by decide +kernel
theorem dX11_areQuarter_22 : decode cX11_areQuarter 22 = .ok (.aload_n 0, 1) := by decide +kernel
theorem dX11_areQuarter_23 : decode cX11_areQuarter 23 = .ok (.getfield 19, 3) := by decide +kernel
theorem dX11_areQuarter_26 : decode cX11_areQuarter 26 = .ok (.iload_n 3, 1) := by decide +kernel
theorem dX11_areQuarter_27 : decode cX11_areQuarter 27 = .ok (.invokevirtual 172, 3) := by decide +kernel
theorem dX11_areQuarter_30 : decode cX11_areQuarter 30 = .ok (.ifCond .eq 12, 3) := by decide +kernel
theorem dX11_areQuarter_33 : decode cX11_areQuarter 33 = .ok (.iload_n 1, 1) := by decide +kernel
theorem dX11_areQuarter_34 : decode cX11_areQuarter 34 = .ok (.iload_n 2, 1) := by decide +kernel
theorem dX11_areQuarter_35 : decode cX11_areQuarter 35 = .ok (.if_icmp .eq 7, 3) := by decide +kernel
theorem dX11_areQuarter_38 : decode cX11_areQuarter 38 = .ok (.iconst 1, 1) := by decide +kernel
theorem dX11_areQuarter_39 : decode cX11_areQuarter 39 = .ok (.goto 4, 3) := by decide +kernel
theorem dX11_areQuarter_42 : decode cX11_areQuarter 42 = .ok (.iconst 0, 1) := by decide +kernel
theorem dX11_areQuarter_43 : decode cX11_areQuarter 43 = .ok (.ireturn, 1) := by decide +kernel
def fn_X11_areQuarter (h : aH) (p0 : Nat) (p1 : Int32) (p2 : Int32) (p3 : Int32) : Option (Int32) :=
  (gR h p0 10 1).bind fun a1 =>
  (ck h a1 0).bind fun u2 =>
  (fn_X0_hasBasin h a1 p1).bind fun x3 =>
  if x3 = 0 then
    some 0
  else
    (gR h p0 10 1).bind fun a4 =>
    (ck h a4 0).bind fun u5 =>
    (fn_X0_hasBasin h a4 p2).bind fun x6 =>
    if x6 = 0 then
      some 0
    else
      (gR h p0 10 1).bind fun a7 =>
      (ck h a7 0).bind fun u8 =>
      (fn_X0_hasBasin h a7 p3).bind fun x9 =>
      if x9 = 0 then
        some 0
      else
        if p1 = p2 then
          some 0
        else
          some 1
set_option maxRecDepth 20000 in
set_option maxHeartbeats 4000000 in
theorem ev_X11_areQuarter {l : Launch} {g : aG} {d : Nat} (hd : 1 ≤ d) (h : aH) (p0 : Nat) (p1 : Int32) (p2 : Int32) (p3 : Int32) (o : Int32) (hf : fn_X11_areQuarter h p0 p1 p2 p3 = some o) : EvM l g d yX11_areQuarter cX11_areQuarter 4 (some .boolean) [.ref p0, .int p1, .int p2, .int p3] h (some (.int o), h) := by
  refine EvM.of mk_X11_areQuarter (Nat.le_of_ble_eq_true rfl) ?_
  intro Γ hl hg hq X
  have hd1 : 1 ≤ d := by omega
  have hk : RpI h Γ o := hq
  unfold fn_X11_areQuarter at hf
  show Jd Γ (0, 0) 0 [some (.ref p0), some (.int p1), some (.int p2), some (.int p3)] [] h
  refine r_aload_n (pc := 0) X dX11_areQuarter_0 rfl ?_
  obtain ⟨a1, ea1, hf⟩ := ob hf
  refine r_getR (pc := 1) X dX11_areQuarter_1 fl_X11_19 rfl ea1 ?_
  refine r_iload_n (pc := 4) X dX11_areQuarter_4 rfl ?_
  obtain ⟨u2, eu2, hf⟩ := ob hf
  obtain ⟨x3, ex3, hf⟩ := ob hf
  refine r_callVI (pc := 5) X [.int p1] dX11_areQuarter_5 ml_X11_172 vo_X0_hasBasin ⟨Nat.le_refl _, Nat.le_refl _⟩ eu2 (ev_X0_hasBasin (d := d - 1) (by omega) _ _ _ _ ex3) hd1 rfl (Nat.le_of_ble_eq_true rfl) rfl ?_
  refine r_if_eq (pc := 8) X 42 dX11_areQuarter_8 (by decide) (fun c13 => ?_) (fun c13 => ?_)
  · rw [if_pos c13] at hf
    refine r_iconst (pc := 42) X 0 dX11_areQuarter_42 (by decide) ?_
    obtain rfl := Option.some.inj hf
    exact r_zret (pc := 43) X dX11_areQuarter_43 (Or.inl rfl) hk
  · rw [if_neg c13] at hf
    refine r_aload_n (pc := 11) X dX11_areQuarter_11 rfl ?_
    obtain ⟨a4, ea4, hf⟩ := ob hf
    refine r_getR (pc := 12) X dX11_areQuarter_12 fl_X11_19 rfl ea4 ?_
    refine r_iload_n (pc := 15) X dX11_areQuarter_15 rfl ?_
    obtain ⟨u5, eu5, hf⟩ := ob hf
    obtain ⟨x6, ex6, hf⟩ := ob hf
    refine r_callVI (pc := 16) X [.int p2] dX11_areQuarter_16 ml_X11_172 vo_X0_hasBasin ⟨Nat.le_refl _, Nat.le_refl _⟩ eu5 (ev_X0_hasBasin (d := d - 1) (by omega) _ _ _ _ ex6) hd1 rfl (Nat.le_of_ble_eq_true rfl) rfl ?_
    refine r_if_eq (pc := 19) X 42 dX11_areQuarter_19 (by decide) (fun c12 => ?_) (fun c12 => ?_)
    · rw [if_pos c12] at hf
      refine r_iconst (pc := 42) X 0 dX11_areQuarter_42 (by decide) ?_
      obtain rfl := Option.some.inj hf
      exact r_zret (pc := 43) X dX11_areQuarter_43 (Or.inl rfl) hk
    · rw [if_neg c12] at hf
      refine r_aload_n (pc := 22) X dX11_areQuarter_22 rfl ?_
      obtain ⟨a7, ea7, hf⟩ := ob hf
      refine r_getR (pc := 23) X dX11_areQuarter_23 fl_X11_19 rfl ea7 ?_
      refine r_iload_n (pc := 26) X dX11_areQuarter_26 rfl ?_
      obtain ⟨u8, eu8, hf⟩ := ob hf
      obtain ⟨x9, ex9, hf⟩ := ob hf
      refine r_callVI (pc := 27) X [.int p3] dX11_areQuarter_27 ml_X11_172 vo_X0_hasBasin ⟨Nat.le_refl _, Nat.le_refl _⟩ eu8 (ev_X0_hasBasin (d := d - 1) (by omega) _ _ _ _ ex9) hd1 rfl (Nat.le_of_ble_eq_true rfl) rfl ?_
      refine r_if_eq (pc := 30) X 42 dX11_areQuarter_30 (by decide) (fun c11 => ?_) (fun c11 => ?_)
      · rw [if_pos c11] at hf
        refine r_iconst (pc := 42) X 0 dX11_areQuarter_42 (by decide) ?_
        obtain rfl := Option.some.inj hf
        exact r_zret (pc := 43) X dX11_areQuarter_43 (Or.inl rfl) hk
      · rw [if_neg c11] at hf
        refine r_iload_n (pc := 33) X dX11_areQuarter_33 rfl ?_
        refine r_iload_n (pc := 34) X dX11_areQuarter_34 rfl ?_
        refine r_icmp_eq (pc := 35) X 42 dX11_areQuarter_35 (by decide) (fun c10 => ?_) (fun c10 => ?_)
        · rw [if_pos c10] at hf
          refine r_iconst (pc := 42) X 0 dX11_areQuarter_42 (by decide) ?_
          obtain rfl := Option.some.inj hf
          exact r_zret (pc := 43) X dX11_areQuarter_43 (Or.inl rfl) hk
        · rw [if_neg c10] at hf
          refine r_iconst (pc := 38) X 1 dX11_areQuarter_38 (by decide) ?_
          refine r_goto (pc := 39) X 43 dX11_areQuarter_39 (by decide) ?_
          obtain rfl := Option.some.inj hf
          exact r_zret (pc := 43) X dX11_areQuarter_43 (Or.inr rfl) hk

theorem dX11_startSent_0 : decode cX11_startSent 0 = .ok (.aload_n 0, 1) := by decide +kernel
theorem dX11_startSent_1 : decode cX11_startSent 1 = .ok (.invokevirtual 309, 3) := by decide +kernel
theorem dX11_startSent_4 : decode cX11_startSent 4 = .ok (.aload_n 0, 1) := by decide +kernel
theorem dX11_startSent_5 : decode cX11_startSent 5 = .ok (.getfield 68, 3) := by decide +kernel
theorem dX11_startSent_8 : decode cX11_startSent 8 = .ok (.getfield 154, 3) := by decide +kernel
theorem dX11_startSent_11 : decode cX11_startSent 11 = .ok (.iload_n 1, 1) := by decide +kernel
theorem dX11_startSent_12 : decode cX11_startSent 12 = .ok (.iload_n 3, 1) := by decide +kernel
theorem dX11_startSent_13 : decode cX11_startSent 13 = .ok (.iconst 1, 1) := by decide +kernel
theorem dX11_startSent_14 : decode cX11_startSent 14 = .ok (.iand, 1) := by decide +kernel
theorem dX11_startSent_15 : decode cX11_startSent 15 = .ok (.ifCond .eq 8, 3) := by decide +kernel
theorem dX11_startSent_18 : decode cX11_startSent 18 = .ok (.bipush 9, 2) := by decide +kernel
theorem dX11_startSent_20 : decode cX11_startSent 20 = .ok (.goto 4, 3) := by decide +kernel
theorem dX11_startSent_23 : decode cX11_startSent 23 = .ok (.iconst 0, 1) := by decide +kernel
theorem dX11_startSent_24 : decode cX11_startSent 24 = .ok (.iastore, 1) := by decide +kernel
theorem dX11_startSent_25 : decode cX11_startSent 25 = .ok (.aload_n 0, 1) := by decide +kernel
theorem dX11_startSent_26 : decode cX11_startSent 26 = .ok (.getfield 68, 3) := by decide +kernel
theorem dX11_startSent_29 : decode cX11_startSent 29 = .ok (.getfield 154, 3) := by decide +kernel
theorem dX11_startSent_32 : decode cX11_startSent 32 = .ok (.iload_n 2, 1) := by decide +kernel
theorem dX11_startSent_33 : decode cX11_startSent 33 = .ok (.iload_n 3, 1) := by decide +kernel
theorem dX11_startSent_34 : decode cX11_startSent 34 = .ok (.iconst 2, 1) := by decide +kernel
theorem dX11_startSent_35 : decode cX11_startSent 35 = .ok (.iand, 1) := by decide +kernel
theorem dX11_startSent_36 : decode cX11_startSent 36 = .ok (.ifCond .eq 8, 3) := by decide +kernel
theorem dX11_startSent_39 : decode cX11_startSent 39 = .ok (.bipush 9, 2) := by decide +kernel
theorem dX11_startSent_41 : decode cX11_startSent 41 = .ok (.goto 4, 3) := by decide +kernel
theorem dX11_startSent_44 : decode cX11_startSent 44 = .ok (.iconst 0, 1) := by decide +kernel
theorem dX11_startSent_45 : decode cX11_startSent 45 = .ok (.iastore, 1) := by decide +kernel
theorem dX11_startSent_46 : decode cX11_startSent 46 = .ok (.return_, 1) := by decide +kernel
def fn_X11_startSent (h : aH) (p0 : Nat) (p1 : Int32) (p2 : Int32) (p3 : Int32) : Option (aH) :=
  (ck h p0 10).bind fun u1 =>
  (fn_X11_startTrial h p0).bind fun h2 =>
  (gR h2 p0 10 9).bind fun a3 =>
  (gR h2 a3 6 0).bind fun a4 =>
  ((
    if (p3 &&& 1) = 0 then
      some 0
    else
      some 9
  ) : Option (Int32)).bind fun t5 =>
  (wI h2 a4 p1 t5).bind fun h6 =>
  (gR h6 p0 10 9).bind fun a7 =>
  (gR h6 a7 6 0).bind fun a8 =>
  ((
    if (p3 &&& 2) = 0 then
      some 0
    else
      some 9
  ) : Option (Int32)).bind fun t9 =>
  (wI h6 a8 p2 t9).bind fun h10 =>
  some h10
set_option maxRecDepth 20000 in
set_option maxHeartbeats 4000000 in
theorem ev_X11_startSent {l : Launch} {g : aG} {d : Nat} (hd : 3 ≤ d) (h : aH) (p0 : Nat) (p1 : Int32) (p2 : Int32) (p3 : Int32) (o : aH) (hf : fn_X11_startSent h p0 p1 p2 p3 = some o) : EvM l g d yX11_startSent cX11_startSent 4 none [.ref p0, .int p1, .int p2, .int p3] h (none, o) := by
  refine EvM.of mk_X11_startSent (Nat.le_of_ble_eq_true rfl) ?_
  intro Γ hl hg hq X
  have hd1 : 1 ≤ d := by omega
  have hk : RqV Γ o := hq
  unfold fn_X11_startSent at hf
  show Jd Γ (0, 0) 0 [some (.ref p0), some (.int p1), some (.int p2), some (.int p3)] [] h
  refine r_aload_n (pc := 0) X dX11_startSent_0 rfl ?_
  obtain ⟨u1, eu1, hf⟩ := ob hf
  obtain ⟨h2, eh2, hf⟩ := ob hf
  refine r_callVV (pc := 1) X [] dX11_startSent_1 ml_X11_309 vo_X11_startTrial ⟨Nat.le_refl _, Nat.le_refl _⟩ eu1 (ev_X11_startTrial (d := d - 1) (by omega) _ _ _ eh2) hd1 rfl (Nat.le_of_ble_eq_true rfl) rfl ?_
  refine r_aload_n (pc := 4) X dX11_startSent_4 rfl ?_
  obtain ⟨a3, ea3, hf⟩ := ob hf
  refine r_getR (pc := 5) X dX11_startSent_5 fl_X11_68 rfl ea3 ?_
  obtain ⟨a4, ea4, hf⟩ := ob hf
  refine r_getR (pc := 8) X dX11_startSent_8 fl_X11_154 rfl ea4 ?_
  refine r_iload_n (pc := 11) X dX11_startSent_11 rfl ?_
  refine r_iload_n (pc := 12) X dX11_startSent_12 rfl ?_
  refine r_iconst (pc := 13) X 1 dX11_startSent_13 (by decide) ?_
  refine r_iand (pc := 14) X dX11_startSent_14 ?_
  obtain ⟨t5, et5, hf⟩ := ob hf
  have Jt5 : Jd Γ (0, 0) 24 [some (.ref p0), some (.int p1), some (.int p2), some (.int p3)] [.int t5, .int p1, .ref a4] h2 := by
    obtain ⟨h6, eh6, hf⟩ := ob hf
    refine r_iast (pc := 24) X dX11_startSent_24 eh6 ?_
    refine r_aload_n (pc := 25) X dX11_startSent_25 rfl ?_
    obtain ⟨a7, ea7, hf⟩ := ob hf
    refine r_getR (pc := 26) X dX11_startSent_26 fl_X11_68 rfl ea7 ?_
    obtain ⟨a8, ea8, hf⟩ := ob hf
    refine r_getR (pc := 29) X dX11_startSent_29 fl_X11_154 rfl ea8 ?_
    refine r_iload_n (pc := 32) X dX11_startSent_32 rfl ?_
    refine r_iload_n (pc := 33) X dX11_startSent_33 rfl ?_
    refine r_iconst (pc := 34) X 2 dX11_startSent_34 (by decide) ?_
    refine r_iand (pc := 35) X dX11_startSent_35 ?_
    obtain ⟨t9, et9, hf⟩ := ob hf
    have Jt9 : Jd Γ (0, 0) 45 [some (.ref p0), some (.int p1), some (.int p2), some (.int p3)] [.int t9, .int p2, .ref a8] h6 := by
      obtain ⟨h10, eh10, hf⟩ := ob hf
      refine r_iast (pc := 45) X dX11_startSent_45 eh10 ?_
      obtain rfl := Option.some.inj hf
      exact r_vret (pc := 46) X dX11_startSent_46 hk
    refine r_if_eq (pc := 36) X 44 dX11_startSent_36 (by decide) (fun c11 => ?_) (fun c11 => ?_)
    · rw [if_pos c11] at et9
      refine r_iconst (pc := 44) X 0 dX11_startSent_44 (by decide) ?_
      obtain rfl := Option.some.inj et9
      exact Jt9
    · rw [if_neg c11] at et9
      refine r_bipush (pc := 39) X 9 dX11_startSent_39 (by decide) ?_
      refine r_goto (pc := 41) X 45 dX11_startSent_41 (by decide) ?_
      obtain rfl := Option.some.inj et9
      exact Jt9
  refine r_if_eq (pc := 15) X 23 dX11_startSent_15 (by decide) (fun c12 => ?_) (fun c12 => ?_)
  · rw [if_pos c12] at et5
    refine r_iconst (pc := 23) X 0 dX11_startSent_23 (by decide) ?_
    obtain rfl := Option.some.inj et5
    exact Jt5
  · rw [if_neg c12] at et5
    refine r_bipush (pc := 18) X 9 dX11_startSent_18 (by decide) ?_
    refine r_goto (pc := 20) X 24 dX11_startSent_20 (by decide) ?_
    obtain rfl := Option.some.inj et5
    exact Jt5

theorem dX11_table_0 : decode cX11_table 0 = .ok (.aload_n 0, 1) := by decide +kernel
theorem dX11_table_1 : decode cX11_table 1 = .ok (.iload_n 1, 1) := by decide +kernel
theorem dX11_table_2 : decode cX11_table 2 = .ok (.iload_n 2, 1) := by decide +kernel
theorem dX11_table_3 : decode cX11_table 3 = .ok (.iload_n 3, 1) := by decide +kernel
theorem dX11_table_4 : decode cX11_table 4 = .ok (.invokevirtual 344, 3) := by decide +kernel
theorem dX11_table_7 : decode cX11_table 7 = .ok (.ifCond .eq 15, 3) := by decide +kernel
theorem dX11_table_10 : decode cX11_table 10 = .ok (.iload 4, 2) := by decide +kernel
theorem dX11_table_12 : decode cX11_table 12 = .ok (.ifCond .lt 10, 3) := by decide +kernel
theorem dX11_table_15 : decode cX11_table 15 = .ok (.iload 4, 2) := by decide +kernel
theorem dX11_table_17 : decode cX11_table 17 = .ok (.bipush 40, 2) := by decide +kernel
theorem dX11_table_19 : decode cX11_table 19 = .ok (.if_icmp .le 5, 3) := by decide +kernel
theorem dX11_table_22 : decode cX11_table 22 = .ok (.iconst (-1), 1) := by decide +kernel
theorem dX11_table_23 : decode cX11_table 23 = .ok (.ireturn, 1) := by decide +kernel
theorem dX11_table_24 : decode cX11_table 24 = .ok (.aload_n 0, 1) := by decide +kernel
theorem dX11_table_25 : decode cX11_table 25 = .ok (.getfield 81, 3) := by decide +kernel
theorem dX11_table_28 : decode cX11_table 28 = .ok (.invokevirtual 242, 3) := by decide +kernel
theorem dX11_table_31 : decode cX11_table 31 = .ok (.iconst 0, 1) := by decide +kernel
theorem dX11_table_32 : decode cX11_table 32 = .ok (.istore 5, 2) := by decide +kernel
theorem dX11_table_34 : decode cX11_table 34 = .ok (.iconst 0, 1) := by decide +kernel
theorem dX11_table_35 : decode cX11_table 35 = .ok (.istore 6, 2) := by decide +kernel
theorem dX11_table_37 : decode cX11_table 37 = .ok (.iload 6, 2) := by decide +kernel
theorem dX11_table_39 : decode cX11_table 39 = .ok (.iconst 4, 1) := by decide +kernel
theorem dX11_table_40 : decode cX11_table 40 = .ok (.if_icmp .ge 75, 3) := by decide +kernel
theorem dX11_table_43 : decode cX11_table 43 = .ok (.aload_n 0, 1) := by decide +kernel
theorem dX11_table_44 : decode cX11_table 44 = .ok (.iload_n 1, 1) := by decide +kernel
theorem dX11_table_45 : decode cX11_table 45 = .ok (.iload_n 2, 1) := by decide +kernel
theorem dX11_table_46 : decode cX11_table 46 = .ok (.iload 6, 2) := by decide +kernel
theorem dX11_table_48 : decode cX11_table 48 = .ok (.invokevirtual 347, 3) := by decide +kernel
theorem dX11_table_51 : decode cX11_table 51 = .ok (.aload_n 0, 1) := by decide +kernel
theorem dX11_table_52 : decode cX11_table 52 = .ok (.getfield 19, 3) := by decide +kernel
theorem dX11_table_55 : decode cX11_table 55 = .ok (.aload_n 0, 1) := by decide +kernel
theorem dX11_table_56 : decode cX11_table 56 = .ok (.getfield 68, 3) := by decide +kernel
theorem dX11_table_59 : decode cX11_table 59 = .ok (.aload_n 0, 1) := by decide +kernel
theorem dX11_table_60 : decode cX11_table 60 = .ok (.getfield 42, 3) := by decide +kernel
theorem dX11_table_63 : decode cX11_table 63 = .ok (.iload 4, 2) := by decide +kernel
theorem dX11_table_65 : decode cX11_table 65 = .ok (.invokevirtual 312, 3) := by decide +kernel
theorem dX11_table_68 : decode cX11_table 68 = .ok (.iload 5, 2) := by decide +kernel
theorem dX11_table_70 : decode cX11_table 70 = .ok (.aload_n 0, 1) := by decide +kernel
theorem dX11_table_71 : decode cX11_table 71 = .ok (.getfield 68, 3) := by decide +kernel
theorem dX11_table_74 : decode cX11_table 74 = .ok (.iload_n 3, 1) := by decide +kernel
theorem dX11_table_75 : decode cX11_table 75 = .ok (.invokevirtual 316, 3) := by decide +kernel
theorem dX11_table_78 : decode cX11_table 78 = .ok (.ifCond .eq 10, 3) := by decide +kernel
theorem dX11_table_81 : decode cX11_table 81 = .ok (.iconst 1, 1) := by decide +kernel
theorem dX11_table_82 : decode cX11_table 82 = .ok (.iload 6, 2) := by decide +kernel
theorem dX11_table_84 : decode cX11_table 84 = .ok (.ishl, 1) := by decide +kernel
theorem dX11_table_85 : decode cX11_table 85 = .ok (.goto 4, 3) := by decide +kernel
theorem dX11_table_88 : decode cX11_table 88 = .ok (.iconst 0, 1) := by decide +kernel
theorem dX11_table_89 : decode cX11_table 89 = .ok (.ior, 1) := by decide +kernel
theorem dX11_table_90 : decode cX11_table 90 = .ok (.istore 5, 2) := by decide +kernel
theorem dX11_table_92 : decode cX11_table 92 = .ok (.aload_n 0, 1) := by decide +kernel
theorem dX11_table_93 : decode cX11_table 93 = .ok (.getfield 81, 3) := by decide +kernel
theorem dX11_table_96 : decode cX11_table 96 = .ok (.aload_n 0, 1) := by decide +kernel
theorem dX11_table_97 : decode cX11_table 97 = .ok (.getfield 68, 3) := by decide +kernel
theorem dX11_table_100 : decode cX11_table 100 = .ok (.getfield 154, 3) := by decide +kernel
theorem dX11_table_103 : decode cX11_table 103 = .ok (.iload_n 3, 1) := by decide +kernel
theorem dX11_table_104 : decode cX11_table 104 = .ok (.iaload, 1) := by decide +kernel
theorem dX11_table_105 : decode cX11_table 105 = .ok (.i2l, 1) := by decide +kernel
theorem dX11_table_106 : decode cX11_table 106 = .ok (.invokevirtual 248, 3) := by decide +kernel
theorem dX11_table_109 : decode cX11_table 109 = .ok (.iinc 6 1, 3) := by decide +kernel
theorem dX11_table_112 : decode cX11_table 112 = .ok (.goto (-75), 3) := by decide +kernel
theorem dX11_table_115 : decode cX11_table 115 = .ok (.iload 5, 2) := by decide +kernel
theorem dX11_table_117 : decode cX11_table 117 = .ok (.ireturn, 1) := by decide +kernel
def lb_X11_table_37 (v0 : Nat) (v1 : Int32) (v2 : Int32) (v3 : Int32) (v4 : Int32) (s : Int32 × Int32 × aH) : Option ((Int32 × Int32 × aH) ⊕ ((Int32 × aH))) :=
  if s.2.1 < 4 then
    (ck s.2.2 v0 10).bind fun u6 =>
    (fn_X11_startSent s.2.2 v0 v1 v2 s.2.1).bind fun h7 =>
    (gR h7 v0 10 1).bind fun a8 =>
    (gR h7 v0 10 9).bind fun a9 =>
    (gR h7 v0 10 4).bind fun a10 =>
    (ck h7 a8 0).bind fun u11 =>
    (fn_X0_run h7 a8 a9 a10 v4).bind fun h12 =>
    (gR h12 v0 10 9).bind fun a13 =>
    (ck h12 a13 6).bind fun u14 =>
    (fn_X7_isAtMark h12 a13 v3).bind fun x15 =>
    ((
      if x15 = 0 then
        some 0
      else
        some (1 <<< (s.2.1 &&& 31))
    ) : Option (Int32)).bind fun t16 =>
    (some (s.1 ||| t16)).bind fun x17 =>
    (gR h12 v0 10 11).bind fun a18 =>
    (gR h12 v0 10 9).bind fun a19 =>
    (gR h12 a19 6 0).bind fun a20 =>
    (aI h12 a20 14 v3).bind fun x21 =>
    (ck h12 a18 2).bind fun u22 =>
    (fn_X3_add h12 a18 (Int32.toInt64 x21)).bind fun h23 =>
    (some (s.2.1 + 1)).bind fun x24 =>
    some (.inl (x17, x24, h23))
  else
    some (.inr (s.1, s.2.2))
def hd_X11_table_37 (Γ : aC) (v0 : Nat) (v1 : Int32) (v2 : Int32) (v3 : Int32) (v4 : Int32) (s : Int32 × Int32 × aH) : Prop := Jd Γ (0, 0) 37 [some (.ref v0), some (.int v1), some (.int v2), some (.int v3), some (.int v4), some (.int s.1), some (.int s.2.1)] [] s.2.2
def ex_X11_table_37 (Γ : aC) (v0 : Nat) (v1 : Int32) (v2 : Int32) (v3 : Int32) (v4 : Int32) (r : (Int32 × aH)) : Prop := (fun r => RqI Γ r) r
set_option maxRecDepth 20000 in
set_option maxHeartbeats 4000000 in
theorem lw_X11_table_37 {Γ : aC} {d : Nat} (X : Cx Γ RX11 cX11_table 7 (some .int) (d, 0, 0)) (hd : 5 ≤ d) (v0 : Nat) (v1 : Int32) (v2 : Int32) (v3 : Int32) (v4 : Int32) : ∀ n s o, lp (lb_X11_table_37 v0 v1 v2 v3 v4) n s = some o → ex_X11_table_37 Γ v0 v1 v2 v3 v4 o → hd_X11_table_37 Γ v0 v1 v2 v3 v4 s := by
  have hd1 : 1 ≤ d := by omega
  refine J_lp _ _ _ ?_
  intro s o hf hk
  unfold lb_X11_table_37 at hf
  refine r_iload (pc := 37) X dX11_table_37 rfl ?_
  refine r_iconst (pc := 39) X 4 dX11_table_39 (by decide) ?_
  refine r_icmp_ge (pc := 40) X 115 dX11_table_40 (by decide) (fun c26 => ?_) (fun c26 => ?_)
  · rw [if_neg c26] at hf
    refine r_iload (pc := 115) X dX11_table_115 rfl ?_
    obtain rfl := Option.some.inj hf
    exact r_iret (pc := 117) X dX11_table_117 hk
  · rw [if_pos c26] at hf
    refine r_aload_n (pc := 43) X dX11_table_43 rfl ?_
    refine r_iload_n (pc := 44) X dX11_table_44 rfl ?_
    refine r_iload_n (pc := 45) X dX11_table_45 rfl ?_
    refine r_iload (pc := 46) X dX11_table_46 rfl ?_
    obtain ⟨u6, eu6, hf⟩ := ob hf
    obtain ⟨h7, eh7, hf⟩ := ob hf
    refine r_callVV (pc := 48) X [.int v1, .int v2, .int s.2.1] dX11_table_48 ml_X11_347 vo_X11_startSent ⟨Nat.le_refl _, Nat.le_refl _⟩ eu6 (ev_X11_startSent (d := d - 1) (by omega) _ _ _ _ _ _ eh7) hd1 rfl (Nat.le_of_ble_eq_true rfl) rfl ?_
    refine r_aload_n (pc := 51) X dX11_table_51 rfl ?_
    obtain ⟨a8, ea8, hf⟩ := ob hf
    refine r_getR (pc := 52) X dX11_table_52 fl_X11_19 rfl ea8 ?_
    refine r_aload_n (pc := 55) X dX11_table_55 rfl ?_
    obtain ⟨a9, ea9, hf⟩ := ob hf
    refine r_getR (pc := 56) X dX11_table_56 fl_X11_68 rfl ea9 ?_
    refine r_aload_n (pc := 59) X dX11_table_59 rfl ?_
    obtain ⟨a10, ea10, hf⟩ := ob hf
    refine r_getR (pc := 60) X dX11_table_60 fl_X11_42 rfl ea10 ?_
    refine r_iload (pc := 63) X dX11_table_63 rfl ?_
    obtain ⟨u11, eu11, hf⟩ := ob hf
    obtain ⟨h12, eh12, hf⟩ := ob hf
    refine r_callVV (pc := 65) X [.ref a9, .ref a10, .int v4] dX11_table_65 ml_X11_312 vo_X0_run ⟨Nat.le_refl _, Nat.le_refl _⟩ eu11 (ev_X0_run (d := d - 1) (by omega) _ _ _ _ _ _ eh12) hd1 rfl (Nat.le_of_ble_eq_true rfl) rfl ?_
    refine r_iload (pc := 68) X dX11_table_68 rfl ?_
    refine r_aload_n (pc := 70) X dX11_table_70 rfl ?_
    obtain ⟨a13, ea13, hf⟩ := ob hf
    refine r_getR (pc := 71) X dX11_table_71 fl_X11_68 rfl ea13 ?_
    refine r_iload_n (pc := 74) X dX11_table_74 rfl ?_
    obtain ⟨u14, eu14, hf⟩ := ob hf
    obtain ⟨x15, ex15, hf⟩ := ob hf
    refine r_callVI (pc := 75) X [.int v3] dX11_table_75 ml_X11_316 vo_X7_isAtMark ⟨Nat.le_refl _, Nat.le_refl _⟩ eu14 (ev_X7_isAtMark (d := d - 1) (by omega) _ _ _ _ ex15) hd1 rfl (Nat.le_of_ble_eq_true rfl) rfl ?_
    obtain ⟨t16, et16, hf⟩ := ob hf
    have Jt16 : Jd Γ (0, 0) 89 [some (.ref v0), some (.int v1), some (.int v2), some (.int v3), some (.int v4), some (.int s.1), some (.int s.2.1)] [.int t16, .int s.1] h12 := by
      refine r_ior (pc := 89) X dX11_table_89 ?_
      obtain ⟨x17, ex17, hf⟩ := ob hf
      refine r_nmI ex17 ?_
      refine r_istore (pc := 90) X [some (.ref v0), some (.int v1), some (.int v2), some (.int v3), some (.int v4), some (.int x17), some (.int s.2.1)] dX11_table_90 (by decide) rfl ?_
      refine r_aload_n (pc := 92) X dX11_table_92 rfl ?_
      obtain ⟨a18, ea18, hf⟩ := ob hf
      refine r_getR (pc := 93) X dX11_table_93 fl_X11_81 rfl ea18 ?_
      refine r_aload_n (pc := 96) X dX11_table_96 rfl ?_
      obtain ⟨a19, ea19, hf⟩ := ob hf
      refine r_getR (pc := 97) X dX11_table_97 fl_X11_68 rfl ea19 ?_
      obtain ⟨a20, ea20, hf⟩ := ob hf
      refine r_getR (pc := 100) X dX11_table_100 fl_X11_154 rfl ea20 ?_
      refine r_iload_n (pc := 103) X dX11_table_103 rfl ?_
      obtain ⟨x21, ex21, hf⟩ := ob hf
      refine r_iald (pc := 104) X dX11_table_104 ex21 ?_
      refine r_i2l (pc := 105) X dX11_table_105 ?_
      obtain ⟨u22, eu22, hf⟩ := ob hf
      obtain ⟨h23, eh23, hf⟩ := ob hf
      refine r_callVV (pc := 106) X [.long (Int32.toInt64 x21)] dX11_table_106 ml_X11_248 vo_X3_add ⟨Nat.le_refl _, Nat.le_refl _⟩ eu22 (ev_X3_add (d := d - 1) (by omega) _ _ _ _ eh23) hd1 rfl (Nat.le_of_ble_eq_true rfl) rfl ?_
      obtain ⟨x24, ex24, hf⟩ := ob hf
      refine r_iinc2 (pc := 109) X 1 [some (.ref v0), some (.int v1), some (.int v2), some (.int v3), some (.int v4), some (.int x17), some (.int x24)] dX11_table_109 (by decide) rfl (by decide) ex24 rfl ?_
      refine r_goto (pc := 112) X 37 dX11_table_112 (by decide) ?_
      obtain rfl := Option.some.inj hf
      exact hk
    refine r_if_eq (pc := 78) X 88 dX11_table_78 (by decide) (fun c25 => ?_) (fun c25 => ?_)
    · rw [if_pos c25] at et16
      refine r_iconst (pc := 88) X 0 dX11_table_88 (by decide) ?_
      obtain rfl := Option.some.inj et16
      exact Jt16
    · rw [if_neg c25] at et16
      refine r_iconst (pc := 81) X 1 dX11_table_81 (by decide) ?_
      refine r_iload (pc := 82) X dX11_table_82 rfl ?_
      refine r_ishl (pc := 84) X dX11_table_84 ?_
      refine r_goto (pc := 85) X 89 dX11_table_85 (by decide) ?_
      obtain rfl := Option.some.inj et16
      exact Jt16
def fn_X11_table (h : aH) (p0 : Nat) (p1 : Int32) (p2 : Int32) (p3 : Int32) (p4 : Int32) : Option (Int32 × aH) :=
  (ck h p0 10).bind fun u1 =>
  (fn_X11_areQuarter h p0 p1 p2 p3).bind fun x2 =>
  if x2 = 0 then
    some ((-1), h)
  else
    if p4 < 0 then
      some ((-1), h)
    else
      if p4 ≤ 40 then
        (gR h p0 10 11).bind fun a3 =>
        (ck h a3 2).bind fun u4 =>
        (fn_X3_begin h a3).bind fun h5 =>
        (lp (lb_X11_table_37 p0 p1 p2 p3 p4) lpN (0, 0, h5)).bind fun o27 =>
        some o27
      else
        some ((-1), h)
set_option maxRecDepth 20000 in
set_option maxHeartbeats 4000000 in
theorem ev_X11_table {l : Launch} {g : aG} {d : Nat} (hd : 5 ≤ d) (h : aH) (p0 : Nat) (p1 : Int32) (p2 : Int32) (p3 : Int32) (p4 : Int32) (o : Int32 × aH) (hf : fn_X11_table h p0 p1 p2 p3 p4 = some o) : EvM l g d yX11_table cX11_table 7 (some .int) [.ref p0, .int p1, .int p2, .int p3, .int p4] h (some (.int o.1), o.2) := by
  refine EvM.of mk_X11_table (Nat.le_of_ble_eq_true rfl) ?_
  intro Γ hl hg hq X
  have hd1 : 1 ≤ d := by omega
  have hk : RqI Γ o := hq
  unfold fn_X11_table at hf
  show Jd Γ (0, 0) 0 [some (.ref p0), some (.int p1), some (.int p2), some (.int p3), some (.int p4), none, none] [] h
  refine r_aload_n (pc := 0) X dX11_table_0 rfl ?_
  refine r_iload_n (pc := 1) X dX11_table_1 rfl ?_
  refine r_iload_n (pc := 2) X dX11_table_2 rfl ?_
  refine r_iload_n (pc := 3) X dX11_table_3 rfl ?_
  obtain ⟨u1, eu1, hf⟩ := ob hf
  obtain ⟨x2, ex2, hf⟩ := ob hf
  refine r_callVI (pc := 4) X [.int p1, .int p2, .int p3] dX11_table_4 ml_X11_344 vo_X11_areQuarter ⟨Nat.le_refl _, Nat.le_refl _⟩ eu1 (ev_X11_areQuarter (d := d - 1) (by omega) _ _ _ _ _ _ ex2) hd1 rfl (Nat.le_of_ble_eq_true rfl) rfl ?_
  refine r_if_eq (pc := 7) X 22 dX11_table_7 (by decide) (fun c30 => ?_) (fun c30 => ?_)
  · rw [if_pos c30] at hf
    refine r_iconst (pc := 22) X (-1) dX11_table_22 (by decide) ?_
    obtain rfl := Option.some.inj hf
    exact r_iret (pc := 23) X dX11_table_23 hk
  · rw [if_neg c30] at hf
    refine r_iload (pc := 10) X dX11_table_10 rfl ?_
    refine r_if_lt (pc := 12) X 22 dX11_table_12 (by decide) (fun c29 => ?_) (fun c29 => ?_)
    · rw [if_pos c29] at hf
      refine r_iconst (pc := 22) X (-1) dX11_table_22 (by decide) ?_
      obtain rfl := Option.some.inj hf
      exact r_iret (pc := 23) X dX11_table_23 hk
    · rw [if_neg c29] at hf
      refine r_iload (pc := 15) X dX11_table_15 rfl ?_
      refine r_bipush (pc := 17) X 40 dX11_table_17 (by decide) ?_
      refine r_icmp_le (pc := 19) X 24 dX11_table_19 (by decide) (fun c28 => ?_) (fun c28 => ?_)
      · rw [if_pos c28] at hf
        refine r_aload_n (pc := 24) X dX11_table_24 rfl ?_
        obtain ⟨a3, ea3, hf⟩ := ob hf
        refine r_getR (pc := 25) X dX11_table_25 fl_X11_81 rfl ea3 ?_
        obtain ⟨u4, eu4, hf⟩ := ob hf
        obtain ⟨h5, eh5, hf⟩ := ob hf
        refine r_callVV (pc := 28) X [] dX11_table_28 ml_X11_242 vo_X3_begin ⟨Nat.le_refl _, Nat.le_refl _⟩ eu4 (ev_X3_begin (d := d - 1) (by omega) _ _ _ eh5) hd1 rfl (Nat.le_of_ble_eq_true rfl) rfl ?_
        refine r_iconst (pc := 31) X 0 dX11_table_31 (by decide) ?_
        refine r_istore (pc := 32) X [some (.ref p0), some (.int p1), some (.int p2), some (.int p3), some (.int p4), some (.int 0), none] dX11_table_32 (by decide) rfl ?_
        refine r_iconst (pc := 34) X 0 dX11_table_34 (by decide) ?_
        refine r_istore (pc := 35) X [some (.ref p0), some (.int p1), some (.int p2), some (.int p3), some (.int p4), some (.int 0), some (.int 0)] dX11_table_35 (by decide) rfl ?_
        obtain ⟨o27, eo27, hf⟩ := ob hf
        refine (lw_X11_table_37 X hd _ _ _ _ _ lpN _ o27 eo27 ?_)
        obtain rfl := Option.some.inj hf
        exact hk
      · rw [if_neg c28] at hf
        refine r_iconst (pc := 22) X (-1) dX11_table_22 (by decide) ?_
        obtain rfl := Option.some.inj hf
        exact r_iret (pc := 23) X dX11_table_23 hk

theorem dX11_clearMasks_0 : decode cX11_clearMasks 0 = .ok (.iconst 0, 1) := by decide +kernel
theorem dX11_clearMasks_1 : decode cX11_clearMasks 1 = .ok (.istore_n 1, 1) := by decide +kernel
theorem dX11_clearMasks_2 : decode cX11_clearMasks 2 = .ok (.iload_n 1, 1) := by decide +kernel
theorem dX11_clearMasks_3 : decode cX11_clearMasks 3 = .ok (.bipush 6, 2) := by decide +kernel
theorem dX11_clearMasks_5 : decode cX11_clearMasks 5 = .ok (.if_icmp .ge 16, 3) := by decide +kernel
theorem dX11_clearMasks_8 : decode cX11_clearMasks 8 = .ok (.aload_n 0, 1) := by decide +kernel
theorem dX11_clearMasks_9 : decode cX11_clearMasks 9 = .ok (.getfield 96, 3) := by decide +kernel
theorem dX11_clearMasks_12 : decode cX11_clearMasks 12 = .ok (.iload_n 1, 1) := by decide +kernel
theorem dX11_clearMasks_13 : decode cX11_clearMasks 13 = .ok (.iconst 0, 1) := by decide +kernel
theorem dX11_clearMasks_14 : decode cX11_clearMasks 14 = .ok (.iastore, 1) := by decide +kernel
theorem dX11_clearMasks_15 : decode cX11_clearMasks 15 = .ok (.iinc 1 1, 3) := by decide +kernel
theorem dX11_clearMasks_18 : decode cX11_clearMasks 18 = .ok (.goto (-16), 3) := by decide +kernel
theorem dX11_clearMasks_21 : decode cX11_clearMasks 21 = .ok (.return_, 1) := by decide +kernel
def lb_X11_clearMasks_2 (v0 : Nat) (s : Int32 × aH) : Option ((Int32 × aH) ⊕ ((aH))) :=
  if s.1 < 6 then
    (gR s.2 v0 10 14).bind fun a1 =>
    (wI s.2 a1 s.1 0).bind fun h2 =>
    (some (s.1 + 1)).bind fun x3 =>
    some (.inl (x3, h2))
  else
    some (.inr s.2)
def hd_X11_clearMasks_2 (Γ : aC) (v0 : Nat) (s : Int32 × aH) : Prop := Jd Γ (0, 0) 2 [some (.ref v0), some (.int s.1)] [] s.2
def ex_X11_clearMasks_2 (Γ : aC) (v0 : Nat) (r : (aH)) : Prop := (fun r => RqV Γ r) r
set_option maxRecDepth 20000 in
set_option maxHeartbeats 4000000 in
theorem lw_X11_clearMasks_2 {Γ : aC} {d : Nat} (X : Cx Γ RX11 cX11_clearMasks 2 none (d, 0, 0)) (hd : 0 ≤ d) (v0 : Nat) : ∀ n s o, lp (lb_X11_clearMasks_2 v0) n s = some o → ex_X11_clearMasks_2 Γ v0 o → hd_X11_clearMasks_2 Γ v0 s := by
  have hd1 : 0 ≤ d := by omega
  refine J_lp _ _ _ ?_
  intro s o hf hk
  unfold lb_X11_clearMasks_2 at hf
  refine r_iload_n (pc := 2) X dX11_clearMasks_2 rfl ?_
  refine r_bipush (pc := 3) X 6 dX11_clearMasks_3 (by decide) ?_
  refine r_icmp_ge (pc := 5) X 21 dX11_clearMasks_5 (by decide) (fun c4 => ?_) (fun c4 => ?_)
  · rw [if_neg c4] at hf
    obtain rfl := Option.some.inj hf
    exact r_vret (pc := 21) X dX11_clearMasks_21 hk
  · rw [if_pos c4] at hf
    refine r_aload_n (pc := 8) X dX11_clearMasks_8 rfl ?_
    obtain ⟨a1, ea1, hf⟩ := ob hf
    refine r_getR (pc := 9) X dX11_clearMasks_9 fl_X11_96 rfl ea1 ?_
    refine r_iload_n (pc := 12) X dX11_clearMasks_12 rfl ?_
    refine r_iconst (pc := 13) X 0 dX11_clearMasks_13 (by decide) ?_
    obtain ⟨h2, eh2, hf⟩ := ob hf
    refine r_iast (pc := 14) X dX11_clearMasks_14 eh2 ?_
    obtain ⟨x3, ex3, hf⟩ := ob hf
    refine r_iinc2 (pc := 15) X 1 [some (.ref v0), some (.int x3)] dX11_clearMasks_15 (by decide) rfl (by decide) ex3 rfl ?_
    refine r_goto (pc := 18) X 2 dX11_clearMasks_18 (by decide) ?_
    obtain rfl := Option.some.inj hf
    exact hk
def fn_X11_clearMasks (h : aH) (p0 : Nat) : Option (aH) :=
  (lp (lb_X11_clearMasks_2 p0) lpN (0, h)).bind fun o5 =>
  some o5
set_option maxRecDepth 20000 in
set_option maxHeartbeats 4000000 in
theorem ev_X11_clearMasks {l : Launch} {g : aG} {d : Nat} (hd : 0 ≤ d) (h : aH) (p0 : Nat) (o : aH) (hf : fn_X11_clearMasks h p0 = some o) : EvM l g d yX11_clearMasks cX11_clearMasks 2 none [.ref p0] h (none, o) := by
  refine EvM.of mk_X11_clearMasks (Nat.le_of_ble_eq_true rfl) ?_
  intro Γ hl hg hq X
  have hd1 : 0 ≤ d := by omega
  have hk : RqV Γ o := hq
  unfold fn_X11_clearMasks at hf
  show Jd Γ (0, 0) 0 [some (.ref p0), none] [] h
  refine r_iconst (pc := 0) X 0 dX11_clearMasks_0 (by decide) ?_
  refine r_istore_n (pc := 1) X [some (.ref p0), some (.int 0)] dX11_clearMasks_1 (by decide) rfl ?_
  obtain ⟨o5, eo5, hf⟩ := ob hf
  refine (lw_X11_clearMasks_2 X hd _ lpN _ o5 eo5 ?_)
  obtain rfl := Option.some.inj hf
  exact hk

theorem dX11_putTablesIntoMasks_0 : decode cX11_putTablesIntoMasks 0 = .ok (.aload_n 0, 1) := by decide +kernel
theorem dX11_putTablesIntoMasks_1 : decode cX11_putTablesIntoMasks 1 = .ok (.invokevirtual 357, 3) := by decide +kernel
theorem dX11_putTablesIntoMasks_4 : decode cX11_putTablesIntoMasks 4 = .ok (.iconst 0, 1) := by decide +kernel
theorem dX11_putTablesIntoMasks_5 : decode cX11_putTablesIntoMasks 5 = .ok (.istore 4, 2) := by decide +kernel
theorem dX11_putTablesIntoMasks_7 : decode cX11_putTablesIntoMasks 7 = .ok (.iload 4, 2) := by decide +kernel
theorem dX11_putTablesIntoMasks_9 : decode cX11_putTablesIntoMasks 9 = .ok (.iconst 4, 1) := by decide +kernel
theorem dX11_putTablesIntoMasks_10 : decode cX11_putTablesIntoMasks 10 = .ok (.if_icmp .ge 84, 3) := by decide +kernel
theorem dX11_putTablesIntoMasks_13 : decode cX11_putTablesIntoMasks 13 = .ok (.aload_n 0, 1) := by decide +kernel
theorem dX11_putTablesIntoMasks_14 : decode cX11_putTablesIntoMasks 14 = .ok (.iload_n 1, 1) := by decide +kernel
theorem dX11_putTablesIntoMasks_15 : decode cX11_putTablesIntoMasks 15 = .ok (.iload_n 2, 1) := by decide +kernel
theorem dX11_putTablesIntoMasks_16 : decode cX11_putTablesIntoMasks 16 = .ok (.iload 4, 2) := by decide +kernel
theorem dX11_putTablesIntoMasks_18 : decode cX11_putTablesIntoMasks 18 = .ok (.invokevirtual 347, 3) := by decide +kernel
theorem dX11_putTablesIntoMasks_21 : decode cX11_putTablesIntoMasks 21 = .ok (.aload_n 0, 1) := by decide +kernel
theorem dX11_putTablesIntoMasks_22 : decode cX11_putTablesIntoMasks 22 = .ok (.getfield 19, 3) := by decide +kernel
theorem dX11_putTablesIntoMasks_25 : decode cX11_putTablesIntoMasks 25 = .ok (.aload_n 0, 1) := by decide +kernel
theorem dX11_putTablesIntoMasks_26 : decode cX11_putTablesIntoMasks 26 = .ok (.getfield 68, 3) := by decide +kernel
theorem dX11_putTablesIntoMasks_29 : decode cX11_putTablesIntoMasks 29 = .ok (.aload_n 0, 1) := by decide +kernel
theorem dX11_putTablesIntoMasks_30 : decode cX11_putTablesIntoMasks 30 = .ok (.getfield 42, 3) := by decide +kernel
theorem dX11_putTablesIntoMasks_33 : decode cX11_putTablesIntoMasks 33 = .ok (.iload_n 3, 1) := by decide +kernel
theorem dX11_putTablesIntoMasks_34 : decode cX11_putTablesIntoMasks 34 = .ok (.invokevirtual 312, 3) := by decide +kernel
theorem dX11_putTablesIntoMasks_37 : decode cX11_putTablesIntoMasks 37 = .ok (.iconst 0, 1) := by decide +kernel
theorem dX11_putTablesIntoMasks_38 : decode cX11_putTablesIntoMasks 38 = .ok (.istore 5, 2) := by decide +kernel
theorem dX11_putTablesIntoMasks_40 : decode cX11_putTablesIntoMasks 40 = .ok (.iload 5, 2) := by decide +kernel
theorem dX11_putTablesIntoMasks_42 : decode cX11_putTablesIntoMasks 42 = .ok (.aload_n 0, 1) := by decide +kernel
theorem dX11_putTablesIntoMasks_43 : decode cX11_putTablesIntoMasks 43 = .ok (.getfield 19, 3) := by decide +kernel
theorem dX11_putTablesIntoMasks_46 : decode cX11_putTablesIntoMasks 46 = .ok (.getfield 113, 3) := by decide +kernel
theorem dX11_putTablesIntoMasks_49 : decode cX11_putTablesIntoMasks 49 = .ok (.if_icmp .ge 39, 3) := by decide +kernel
theorem dX11_putTablesIntoMasks_52 : decode cX11_putTablesIntoMasks 52 = .ok (.aload_n 0, 1) := by decide +kernel
theorem dX11_putTablesIntoMasks_53 : decode cX11_putTablesIntoMasks 53 = .ok (.getfield 96, 3) := by decide +kernel
theorem dX11_putTablesIntoMasks_56 : decode cX11_putTablesIntoMasks 56 = .ok (.iload 5, 2) := by decide +kernel
theorem dX11_putTablesIntoMasks_58 : decode cX11_putTablesIntoMasks 58 = .ok (.dup2, 1) := by decide +kernel
theorem dX11_putTablesIntoMasks_59 : decode cX11_putTablesIntoMasks 59 = .ok (.iaload, 1) := by decide +kernel
theorem dX11_putTablesIntoMasks_60 : decode cX11_putTablesIntoMasks 60 = .ok (.aload_n 0, 1) := by decide +kernel
theorem dX11_putTablesIntoMasks_61 : decode cX11_putTablesIntoMasks 61 = .ok (.getfield 68, 3) := by decide +kernel
theorem dX11_putTablesIntoMasks_64 : decode cX11_putTablesIntoMasks 64 = .ok (.iload 5, 2) := by decide +kernel
theorem dX11_putTablesIntoMasks_66 : decode cX11_putTablesIntoMasks 66 = .ok (.invokevirtual 316, 3) := by decide +kernel
theorem dX11_putTablesIntoMasks_69 : decode cX11_putTablesIntoMasks 69 = .ok (.ifCond .eq 10, 3) := by decide +kernel
theorem dX11_putTablesIntoMasks_72 : decode cX11_putTablesIntoMasks 72 = .ok (.iconst 1, 1) := by decide +kernel
theorem dX11_putTablesIntoMasks_73 : decode cX11_putTablesIntoMasks 73 = .ok (.iload 4, 2) := by decide +kernel
theorem dX11_putTablesIntoMasks_75 : decode cX11_putTablesIntoMasks 75 = .ok (.ishl, 1) := by decide +kernel
theorem dX11_putTablesIntoMasks_76 : decode cX11_putTablesIntoMasks 76 = .ok (.goto 4, 3) := by decide +kernel
theorem dX11_putTablesIntoMasks_79 : decode cX11_putTablesIntoMasks 79 = .ok (.iconst 0, 1) := by decide +kernel
theorem dX11_putTablesIntoMasks_80 : decode cX11_putTablesIntoMasks 80 = .ok (.ior, 1) := by decide +kernel
theorem dX11_putTablesIntoMasks_81 : decode cX11_putTablesIntoMasks 81 = .ok (.iastore, 1) := by decide +kernel
theorem dX11_putTablesIntoMasks_82 : decode cX11_putTablesIntoMasks 82 = .ok (.iinc 5 1, 3) := by decide +kernel
theorem dX11_putTablesIntoMasks_85 : decode cX11_putTablesIntoMasks 85 = .ok (.goto (-45), 3) := by decide +kernel
theorem dX11_putTablesIntoMasks_88 : decode cX11_putTablesIntoMasks 88 = .ok (.iinc 4 1, 3) := by decide +kernel
theorem dX11_putTablesIntoMasks_91 : decode cX11_putTablesIntoMasks 91 = .ok (.goto (-84), 3) := by decide +kernel
theorem dX11_putTablesIntoMasks_94 : decode cX11_putTablesIntoMasks 94 = .ok (.return_, 1) := by decide +kernel
def lb_X11_putTablesIntoMasks_40 (v0 : Nat) (v1 : Int32) (v2 : Int32) (v3 : Int32) (v4 : Int32) (s : Int32 × aH) : Option ((Int32 × aH) ⊕ ((aH))) :=
  (gR s.2 v0 10 1).bind fun a10 =>
  (gI s.2 a10 0 0).bind fun x11 =>
  if s.1 < x11 then
    (gR s.2 v0 10 14).bind fun a12 =>
    (aI s.2 a12 14 s.1).bind fun x13 =>
    (gR s.2 v0 10 9).bind fun a14 =>
    (ck s.2 a14 6).bind fun u15 =>
    (fn_X7_isAtMark s.2 a14 s.1).bind fun x16 =>
    ((
      if x16 = 0 then
        some 0
      else
        some (1 <<< (v4 &&& 31))
    ) : Option (Int32)).bind fun t17 =>
    (wI s.2 a12 s.1 (x13 ||| t17)).bind fun h18 =>
    (some (s.1 + 1)).bind fun x19 =>
    some (.inl (x19, h18))
  else
    some (.inr s.2)
def hd_X11_putTablesIntoMasks_40 (Γ : aC) (v0 : Nat) (v1 : Int32) (v2 : Int32) (v3 : Int32) (v4 : Int32) (s : Int32 × aH) : Prop := Jd Γ (0, 0) 40 [some (.ref v0), some (.int v1), some (.int v2), some (.int v3), some (.int v4), some (.int s.1)] [] s.2
def ex_X11_putTablesIntoMasks_40 (Γ : aC) (v0 : Nat) (v1 : Int32) (v2 : Int32) (v3 : Int32) (v4 : Int32) (r : (aH)) : Prop := (fun r => ∀ (j5 : Option Value), Jd Γ (0, 0) 88 [some (.ref v0), some (.int v1), some (.int v2), some (.int v3), some (.int v4), j5] [] r) r
set_option maxRecDepth 20000 in
set_option maxHeartbeats 4000000 in
theorem lw_X11_putTablesIntoMasks_40 {Γ : aC} {d : Nat} (X : Cx Γ RX11 cX11_putTablesIntoMasks 6 none (d, 0, 0)) (hd : 5 ≤ d) (v0 : Nat) (v1 : Int32) (v2 : Int32) (v3 : Int32) (v4 : Int32) : ∀ n s o, lp (lb_X11_putTablesIntoMasks_40 v0 v1 v2 v3 v4) n s = some o → ex_X11_putTablesIntoMasks_40 Γ v0 v1 v2 v3 v4 o → hd_X11_putTablesIntoMasks_40 Γ v0 v1 v2 v3 v4 s := by
  have hd1 : 1 ≤ d := by omega
  refine J_lp _ _ _ ?_
  intro s o hf hk
  unfold lb_X11_putTablesIntoMasks_40 at hf
  refine r_iload (pc := 40) X dX11_putTablesIntoMasks_40 rfl ?_
  refine r_aload_n (pc := 42) X dX11_putTablesIntoMasks_42 rfl ?_
  obtain ⟨a10, ea10, hf⟩ := ob hf
  refine r_getR (pc := 43) X dX11_putTablesIntoMasks_43 fl_X11_19 rfl ea10 ?_
  obtain ⟨x11, ex11, hf⟩ := ob hf
  refine r_getI (pc := 46) X dX11_putTablesIntoMasks_46 fl_X11_113 rfl ex11 ?_
  refine r_icmp_ge (pc := 49) X 88 dX11_putTablesIntoMasks_49 (by decide) (fun c21 => ?_) (fun c21 => ?_)
  · rw [if_neg c21] at hf
    obtain rfl := Option.some.inj hf
    exact hk _
  · rw [if_pos c21] at hf
    refine r_aload_n (pc := 52) X dX11_putTablesIntoMasks_52 rfl ?_
    obtain ⟨a12, ea12, hf⟩ := ob hf
    refine r_getR (pc := 53) X dX11_putTablesIntoMasks_53 fl_X11_96 rfl ea12 ?_
    refine r_iload (pc := 56) X dX11_putTablesIntoMasks_56 rfl ?_
    refine r_dup2 (pc := 58) X dX11_putTablesIntoMasks_58 rfl rfl ?_
    obtain ⟨x13, ex13, hf⟩ := ob hf
    refine r_iald (pc := 59) X dX11_putTablesIntoMasks_59 ex13 ?_
    refine r_aload_n (pc := 60) X dX11_putTablesIntoMasks_60 rfl ?_
    obtain ⟨a14, ea14, hf⟩ := ob hf
    refine r_getR (pc := 61) X dX11_putTablesIntoMasks_61 fl_X11_68 rfl ea14 ?_
    refine r_iload (pc := 64) X dX11_putTablesIntoMasks_64 rfl ?_
    obtain ⟨u15, eu15, hf⟩ := ob hf
    obtain ⟨x16, ex16, hf⟩ := ob hf
    refine r_callVI (pc := 66) X [.int s.1] dX11_putTablesIntoMasks_66 ml_X11_316 vo_X7_isAtMark ⟨Nat.le_refl _, Nat.le_refl _⟩ eu15 (ev_X7_isAtMark (d := d - 1) (by omega) _ _ _ _ ex16) hd1 rfl (Nat.le_of_ble_eq_true rfl) rfl ?_
    obtain ⟨t17, et17, hf⟩ := ob hf
    have Jt17 : Jd Γ (0, 0) 80 [some (.ref v0), some (.int v1), some (.int v2), some (.int v3), some (.int v4), some (.int s.1)] [.int t17, .int x13, .int s.1, .ref a12] s.2 := by
      refine r_ior (pc := 80) X dX11_putTablesIntoMasks_80 ?_
      obtain ⟨h18, eh18, hf⟩ := ob hf
      refine r_iast (pc := 81) X dX11_putTablesIntoMasks_81 eh18 ?_
      obtain ⟨x19, ex19, hf⟩ := ob hf
      refine r_iinc2 (pc := 82) X 1 [some (.ref v0), some (.int v1), some (.int v2), some (.int v3), some (.int v4), some (.int x19)] dX11_putTablesIntoMasks_82 (by decide) rfl (by decide) ex19 rfl ?_
      refine r_goto (pc := 85) X 40 dX11_putTablesIntoMasks_85 (by decide) ?_
      obtain rfl := Option.some.inj hf
      exact hk
    refine r_if_eq (pc := 69) X 79 dX11_putTablesIntoMasks_69 (by decide) (fun c20 => ?_) (fun c20 => ?_)
    · rw [if_pos c20] at et17
      refine r_iconst (pc := 79) X 0 dX11_putTablesIntoMasks_79 (by decide) ?_
      obtain rfl := Option.some.inj et17
      exact Jt17
    · rw [if_neg c20] at et17
      refine r_iconst (pc := 72) X 1 dX11_putTablesIntoMasks_72 (by decide) ?_
      refine r_iload (pc := 73) X dX11_putTablesIntoMasks_73 rfl ?_
      refine r_ishl (pc := 75) X dX11_putTablesIntoMasks_75 ?_
      refine r_goto (pc := 76) X 80 dX11_putTablesIntoMasks_76 (by decide) ?_
      obtain rfl := Option.some.inj et17
      exact Jt17
def lb_X11_putTablesIntoMasks_7 (v0 : Nat) (v1 : Int32) (v2 : Int32) (v3 : Int32) (s : Int32 × aH) : Option ((Int32 × aH) ⊕ ((aH))) :=
  if s.1 < 4 then
    (ck s.2 v0 10).bind fun u3 =>
    (fn_X11_startSent s.2 v0 v1 v2 s.1).bind fun h4 =>
    (gR h4 v0 10 1).bind fun a5 =>
    (gR h4 v0 10 9).bind fun a6 =>
    (gR h4 v0 10 4).bind fun a7 =>
    (ck h4 a5 0).bind fun u8 =>
    (fn_X0_run h4 a5 a6 a7 v3).bind fun h9 =>
    (lp (lb_X11_putTablesIntoMasks_40 v0 v1 v2 v3 s.1) lpN (0, h9)).bind fun o22 =>
    (some (s.1 + 1)).bind fun x24 =>
    some (.inl (x24, o22))
  else
    some (.inr s.2)
def hd_X11_putTablesIntoMasks_7 (Γ : aC) (v0 : Nat) (v1 : Int32) (v2 : Int32) (v3 : Int32) (s : Int32 × aH) : Prop := ∀ (j5 : Option Value), Jd Γ (0, 0) 7 [some (.ref v0), some (.int v1), some (.int v2), some (.int v3), some (.int s.1), j5] [] s.2
def ex_X11_putTablesIntoMasks_7 (Γ : aC) (v0 : Nat) (v1 : Int32) (v2 : Int32) (v3 : Int32) (r : (aH)) : Prop := (fun r => RqV Γ r) r
set_option maxRecDepth 20000 in
set_option maxHeartbeats 4000000 in
theorem lw_X11_putTablesIntoMasks_7 {Γ : aC} {d : Nat} (X : Cx Γ RX11 cX11_putTablesIntoMasks 6 none (d, 0, 0)) (hd : 5 ≤ d) (v0 : Nat) (v1 : Int32) (v2 : Int32) (v3 : Int32) : ∀ n s o, lp (lb_X11_putTablesIntoMasks_7 v0 v1 v2 v3) n s = some o → ex_X11_putTablesIntoMasks_7 Γ v0 v1 v2 v3 o → hd_X11_putTablesIntoMasks_7 Γ v0 v1 v2 v3 s := by
  have hd1 : 1 ≤ d := by omega
  refine J_lp _ _ _ ?_
  intro s o hf hk j5
  unfold lb_X11_putTablesIntoMasks_7 at hf
  refine r_iload (pc := 7) X dX11_putTablesIntoMasks_7 rfl ?_
  refine r_iconst (pc := 9) X 4 dX11_putTablesIntoMasks_9 (by decide) ?_
  refine r_icmp_ge (pc := 10) X 94 dX11_putTablesIntoMasks_10 (by decide) (fun c25 => ?_) (fun c25 => ?_)
  · rw [if_neg c25] at hf
    obtain rfl := Option.some.inj hf
    exact r_vret (pc := 94) X dX11_putTablesIntoMasks_94 hk
  · rw [if_pos c25] at hf
    refine r_aload_n (pc := 13) X dX11_putTablesIntoMasks_13 rfl ?_
    refine r_iload_n (pc := 14) X dX11_putTablesIntoMasks_14 rfl ?_
    refine r_iload_n (pc := 15) X dX11_putTablesIntoMasks_15 rfl ?_
    refine r_iload (pc := 16) X dX11_putTablesIntoMasks_16 rfl ?_
    obtain ⟨u3, eu3, hf⟩ := ob hf
    obtain ⟨h4, eh4, hf⟩ := ob hf
    refine r_callVV (pc := 18) X [.int v1, .int v2, .int s.1] dX11_putTablesIntoMasks_18 ml_X11_347 vo_X11_startSent ⟨Nat.le_refl _, Nat.le_refl _⟩ eu3 (ev_X11_startSent (d := d - 1) (by omega) _ _ _ _ _ _ eh4) hd1 rfl (Nat.le_of_ble_eq_true rfl) rfl ?_
    refine r_aload_n (pc := 21) X dX11_putTablesIntoMasks_21 rfl ?_
    obtain ⟨a5, ea5, hf⟩ := ob hf
    refine r_getR (pc := 22) X dX11_putTablesIntoMasks_22 fl_X11_19 rfl ea5 ?_
    refine r_aload_n (pc := 25) X dX11_putTablesIntoMasks_25 rfl ?_
    obtain ⟨a6, ea6, hf⟩ := ob hf
    refine r_getR (pc := 26) X dX11_putTablesIntoMasks_26 fl_X11_68 rfl ea6 ?_
    refine r_aload_n (pc := 29) X dX11_putTablesIntoMasks_29 rfl ?_
    obtain ⟨a7, ea7, hf⟩ := ob hf
    refine r_getR (pc := 30) X dX11_putTablesIntoMasks_30 fl_X11_42 rfl ea7 ?_
    refine r_iload_n (pc := 33) X dX11_putTablesIntoMasks_33 rfl ?_
    obtain ⟨u8, eu8, hf⟩ := ob hf
    obtain ⟨h9, eh9, hf⟩ := ob hf
    refine r_callVV (pc := 34) X [.ref a6, .ref a7, .int v3] dX11_putTablesIntoMasks_34 ml_X11_312 vo_X0_run ⟨Nat.le_refl _, Nat.le_refl _⟩ eu8 (ev_X0_run (d := d - 1) (by omega) _ _ _ _ _ _ eh9) hd1 rfl (Nat.le_of_ble_eq_true rfl) rfl ?_
    refine r_iconst (pc := 37) X 0 dX11_putTablesIntoMasks_37 (by decide) ?_
    refine r_istore (pc := 38) X [some (.ref v0), some (.int v1), some (.int v2), some (.int v3), some (.int s.1), some (.int 0)] dX11_putTablesIntoMasks_38 (by decide) rfl ?_
    obtain ⟨o22, eo22, hf⟩ := ob hf
    refine (lw_X11_putTablesIntoMasks_40 X hd _ _ _ _ _ lpN _ o22 eo22 ?_)
    intro j23
    obtain ⟨x24, ex24, hf⟩ := ob hf
    refine r_iinc2 (pc := 88) X 1 [some (.ref v0), some (.int v1), some (.int v2), some (.int v3), some (.int x24), j23] dX11_putTablesIntoMasks_88 (by decide) rfl (by decide) ex24 rfl ?_
    refine r_goto (pc := 91) X 7 dX11_putTablesIntoMasks_91 (by decide) ?_
    obtain rfl := Option.some.inj hf
    exact hk _
def fn_X11_putTablesIntoMasks (h : aH) (p0 : Nat) (p1 : Int32) (p2 : Int32) (p3 : Int32) : Option (aH) :=
  (ck h p0 10).bind fun u1 =>
  (fn_X11_clearMasks h p0).bind fun h2 =>
  (lp (lb_X11_putTablesIntoMasks_7 p0 p1 p2 p3) lpN (0, h2)).bind fun o26 =>
  some o26
set_option maxRecDepth 20000 in
set_option maxHeartbeats 4000000 in
theorem ev_X11_putTablesIntoMasks {l : Launch} {g : aG} {d : Nat} (hd : 5 ≤ d) (h : aH) (p0 : Nat) (p1 : Int32) (p2 : Int32) (p3 : Int32) (o : aH) (hf : fn_X11_putTablesIntoMasks h p0 p1 p2 p3 = some o) : EvM l g d yX11_putTablesIntoMasks cX11_putTablesIntoMasks 6 none [.ref p0, .int p1, .int p2, .int p3] h (none, o) := by
  refine EvM.of mk_X11_putTablesIntoMasks (Nat.le_of_ble_eq_true rfl) ?_
  intro Γ hl hg hq X
  have hd1 : 1 ≤ d := by omega
  have hk : RqV Γ o := hq
  unfold fn_X11_putTablesIntoMasks at hf
  show Jd Γ (0, 0) 0 [some (.ref p0), some (.int p1), some (.int p2), some (.int p3), none, none] [] h
  refine r_aload_n (pc := 0) X dX11_putTablesIntoMasks_0 rfl ?_
  obtain ⟨u1, eu1, hf⟩ := ob hf
  obtain ⟨h2, eh2, hf⟩ := ob hf
  refine r_callVV (pc := 1) X [] dX11_putTablesIntoMasks_1 ml_X11_357 vo_X11_clearMasks ⟨Nat.le_refl _, Nat.le_refl _⟩ eu1 (ev_X11_clearMasks (d := d - 1) (by omega) _ _ _ eh2) hd1 rfl (Nat.le_of_ble_eq_true rfl) rfl ?_
  refine r_iconst (pc := 4) X 0 dX11_putTablesIntoMasks_4 (by decide) ?_
  refine r_istore (pc := 5) X [some (.ref p0), some (.int p1), some (.int p2), some (.int p3), some (.int 0), none] dX11_putTablesIntoMasks_5 (by decide) rfl ?_
  obtain ⟨o26, eo26, hf⟩ := ob hf
  refine (lw_X11_putTablesIntoMasks_7 X hd _ _ _ _ lpN _ o26 eo26 ?_) _
  obtain rfl := Option.some.inj hf
  exact hk

theorem dX11_tellFirstQuarter_0 : decode cX11_tellFirstQuarter 0 = .ok (.iload_n 1, 1) := by decide +kernel
theorem dX11_tellFirstQuarter_1 : decode cX11_tellFirstQuarter 1 = .ok (.ifCond .ne 31, 3) := by decide +kernel
theorem dX11_tellFirstQuarter_4 : decode cX11_tellFirstQuarter 4 = .ok (.aload_n 0, 1) := by decide +kernel
theorem dX11_tellFirstQuarter_5 : decode cX11_tellFirstQuarter 5 = .ok (.getfield 81, 3) := by decide +kernel
theorem dX11_tellFirstQuarter_8 : decode cX11_tellFirstQuarter 8 = .ok (.iload_n 2, 1) := by decide +kernel
theorem dX11_tellFirstQuarter_9 : decode cX11_tellFirstQuarter 9 = .ok (.i2l, 1) := by decide +kernel
theorem dX11_tellFirstQuarter_10 : decode cX11_tellFirstQuarter 10 = .ok (.invokevirtual 248, 3) := by decide +kernel
theorem dX11_tellFirstQuarter_13 : decode cX11_tellFirstQuarter 13 = .ok (.aload_n 0, 1) := by decide +kernel
theorem dX11_tellFirstQuarter_14 : decode cX11_tellFirstQuarter 14 = .ok (.getfield 81, 3) := by decide +kernel
theorem dX11_tellFirstQuarter_17 : decode cX11_tellFirstQuarter 17 = .ok (.iload_n 3, 1) := by decide +kernel
theorem dX11_tellFirstQuarter_18 : decode cX11_tellFirstQuarter 18 = .ok (.i2l, 1) := by decide +kernel
theorem dX11_tellFirstQuarter_19 : decode cX11_tellFirstQuarter 19 = .ok (.invokevirtual 248, 3) := by decide +kernel
theorem dX11_tellFirstQuarter_22 : decode cX11_tellFirstQuarter 22 = .ok (.aload_n 0, 1) := by decide +kernel
theorem dX11_tellFirstQuarter_23 : decode cX11_tellFirstQuarter 23 = .ok (.getfield 81, 3) := by decide +kernel
theorem dX11_tellFirstQuarter_26 : decode cX11_tellFirstQuarter 26 = .ok (.iload 4, 2) := by decide +kernel
theorem dX11_tellFirstQuarter_28 : decode cX11_tellFirstQuarter 28 = .ok (.i2l, 1) := by decide +kernel
theorem dX11_tellFirstQuarter_29 : decode cX11_tellFirstQuarter 29 = .ok (.invokevirtual 248, 3) := by decide +kernel
theorem dX11_tellFirstQuarter_32 : decode cX11_tellFirstQuarter 32 = .ok (.return_, 1) := by decide +kernel
def fn_X11_tellFirstQuarter (h : aH) (p0 : Nat) (p1 : Int32) (p2 : Int32) (p3 : Int32) (p4 : Int32) : Option (aH) :=
  if p1 = 0 then
    (gR h p0 10 11).bind fun a1 =>
    (ck h a1 2).bind fun u2 =>
    (fn_X3_add h a1 (Int32.toInt64 p2)).bind fun h3 =>
    (gR h3 p0 10 11).bind fun a4 =>
    (ck h3 a4 2).bind fun u5 =>
    (fn_X3_add h3 a4 (Int32.toInt64 p3)).bind fun h6 =>
    (gR h6 p0 10 11).bind fun a7 =>
    (ck h6 a7 2).bind fun u8 =>
    (fn_X3_add h6 a7 (Int32.toInt64 p4)).bind fun h9 =>
    some h9
  else
    some h
set_option maxRecDepth 20000 in
set_option maxHeartbeats 4000000 in
theorem ev_X11_tellFirstQuarter {l : Launch} {g : aG} {d : Nat} (hd : 1 ≤ d) (h : aH) (p0 : Nat) (p1 : Int32) (p2 : Int32) (p3 : Int32) (p4 : Int32) (o : aH) (hf : fn_X11_tellFirstQuarter h p0 p1 p2 p3 p4 = some o) : EvM l g d yX11_tellFirstQuarter cX11_tellFirstQuarter 5 none [.ref p0, .int p1, .int p2, .int p3, .int p4] h (none, o) := by
  refine EvM.of mk_X11_tellFirstQuarter (Nat.le_of_ble_eq_true rfl) ?_
  intro Γ hl hg hq X
  have hd1 : 1 ≤ d := by omega
  have hk : RqV Γ o := hq
  unfold fn_X11_tellFirstQuarter at hf
  show Jd Γ (0, 0) 0 [some (.ref p0), some (.int p1), some (.int p2), some (.int p3), some (.int p4)] [] h
  refine r_iload_n (pc := 0) X dX11_tellFirstQuarter_0 rfl ?_
  refine r_if_ne (pc := 1) X 32 dX11_tellFirstQuarter_1 (by decide) (fun c10 => ?_) (fun c10 => ?_)
  · rw [if_neg c10] at hf
    obtain rfl := Option.some.inj hf
    exact r_vret (pc := 32) X dX11_tellFirstQuarter_32 hk
  · rw [if_pos c10] at hf
    refine r_aload_n (pc := 4) X dX11_tellFirstQuarter_4 rfl ?_
    obtain ⟨a1, ea1, hf⟩ := ob hf
    refine r_getR (pc := 5) X dX11_tellFirstQuarter_5 fl_X11_81 rfl ea1 ?_
    refine r_iload_n (pc := 8) X dX11_tellFirstQuarter_8 rfl ?_
    refine r_i2l (pc := 9) X dX11_tellFirstQuarter_9 ?_
    obtain ⟨u2, eu2, hf⟩ := ob hf
    obtain ⟨h3, eh3, hf⟩ := ob hf
    refine r_callVV (pc := 10) X [.long (Int32.toInt64 p2)] dX11_tellFirstQuarter_10 ml_X11_248 vo_X3_add ⟨Nat.le_refl _, Nat.le_refl _⟩ eu2 (ev_X3_add (d := d - 1) (by omega) _ _ _ _ eh3) hd1 rfl (Nat.le_of_ble_eq_true rfl) rfl ?_
    refine r_aload_n (pc := 13) X dX11_tellFirstQuarter_13 rfl ?_
    obtain ⟨a4, ea4, hf⟩ := ob hf
    refine r_getR (pc := 14) X dX11_tellFirstQuarter_14 fl_X11_81 rfl ea4 ?_
    refine r_iload_n (pc := 17) X dX11_tellFirstQuarter_17 rfl ?_
    refine r_i2l (pc := 18) X dX11_tellFirstQuarter_18 ?_
    obtain ⟨u5, eu5, hf⟩ := ob hf
    obtain ⟨h6, eh6, hf⟩ := ob hf
    refine r_callVV (pc := 19) X [.long (Int32.toInt64 p3)] dX11_tellFirstQuarter_19 ml_X11_248 vo_X3_add ⟨Nat.le_refl _, Nat.le_refl _⟩ eu5 (ev_X3_add (d := d - 1) (by omega) _ _ _ _ eh6) hd1 rfl (Nat.le_of_ble_eq_true rfl) rfl ?_
    refine r_aload_n (pc := 22) X dX11_tellFirstQuarter_22 rfl ?_
    obtain ⟨a7, ea7, hf⟩ := ob hf
    refine r_getR (pc := 23) X dX11_tellFirstQuarter_23 fl_X11_81 rfl ea7 ?_
    refine r_iload (pc := 26) X dX11_tellFirstQuarter_26 rfl ?_
    refine r_i2l (pc := 28) X dX11_tellFirstQuarter_28 ?_
    obtain ⟨u8, eu8, hf⟩ := ob hf
    obtain ⟨h9, eh9, hf⟩ := ob hf
    refine r_callVV (pc := 29) X [.long (Int32.toInt64 p4)] dX11_tellFirstQuarter_29 ml_X11_248 vo_X3_add ⟨Nat.le_refl _, Nat.le_refl _⟩ eu8 (ev_X3_add (d := d - 1) (by omega) _ _ _ _ eh9) hd1 rfl (Nat.le_of_ble_eq_true rfl) rfl ?_
    obtain rfl := Option.some.inj hf
    exact r_vret (pc := 32) X dX11_tellFirstQuarter_32 hk

theorem dX11_quarters_0 : decode cX11_quarters 0 = .ok (.iload_n 1, 1) := by decide +kernel
theorem dX11_quarters_1 : decode cX11_quarters 1 = .ok (.ifCond .lt 19, 3) := by decide +kernel
theorem dX11_quarters_4 : decode cX11_quarters 4 = .ok (.iload_n 1, 1) := by decide +kernel
theorem dX11_quarters_5 : decode cX11_quarters 5 = .ok (.bipush 15, 2) := by decide +kernel
theorem dX11_quarters_7 : decode cX11_quarters 7 = .ok (.if_icmp .gt 13, 3) := by decide +kernel
theorem dX11_quarters_10 : decode cX11_quarters 10 = .ok (.iload_n 2, 1) := by decide +kernel
theorem dX11_quarters_11 : decode cX11_quarters 11 = .ok (.ifCond .lt 9, 3) := by decide +kernel
theorem dX11_quarters_14 : decode cX11_quarters 14 = .ok (.iload_n 2, 1) := by decide +kernel
theorem dX11_quarters_15 : decode cX11_quarters 15 = .ok (.bipush 40, 2) := by decide +kernel
theorem dX11_quarters_17 : decode cX11_quarters 17 = .ok (.if_icmp .le 5, 3) := by decide +kernel
theorem dX11_quarters_20 : decode cX11_quarters 20 = .ok (.iconst (-1), 1) := by decide +kernel
theorem dX11_quarters_21 : decode cX11_quarters 21 = .ok (.ireturn, 1) := by decide +kernel
theorem dX11_quarters_22 : decode cX11_quarters 22 = .ok (.aload_n 0, 1) := by decide +kernel
theorem dX11_quarters_23 : decode cX11_quarters 23 = .ok (.getfield 81, 3) := by decide +kernel
theorem dX11_quarters_26 : decode cX11_quarters 26 = .ok (.invokevirtual 242, 3) := by decide +kernel
theorem dX11_quarters_29 : decode cX11_quarters 29 = .ok (.iconst 0, 1) := by decide +kernel
theorem dX11_quarters_30 : decode cX11_quarters 30 = .ok (.istore_n 3, 1) := by decide +kernel
theorem dX11_quarters_31 : decode cX11_quarters 31 = .ok (.iconst 0, 1) := by decide +kernel
theorem dX11_quarters_32 : decode cX11_quarters 32 = .ok (.istore 4, 2) := by decide +kernel
theorem dX11_quarters_34 : decode cX11_quarters 34 = .ok (.iload 4, 2) := by decide +kernel
theorem dX11_quarters_36 : decode cX11_quarters 36 = .ok (.aload_n 0, 1) := by decide +kernel
theorem dX11_quarters_37 : decode cX11_quarters 37 = .ok (.getfield 19, 3) := by decide +kernel
theorem dX11_quarters_40 : decode cX11_quarters 40 = .ok (.getfield 113, 3) := by decide +kernel
theorem dX11_quarters_43 : decode cX11_quarters 43 = .ok (.if_icmp .ge 88, 3) := by decide +kernel
theorem dX11_quarters_46 : decode cX11_quarters 46 = .ok (.iload 4, 2) := by decide +kernel
theorem dX11_quarters_48 : decode cX11_quarters 48 = .ok (.iconst 1, 1) := by decide +kernel
theorem dX11_quarters_49 : decode cX11_quarters 49 = .ok (.iadd, 1) := by decide +kernel
theorem dX11_quarters_50 : decode cX11_quarters 50 = .ok (.istore 5, 2) := by decide +kernel
theorem dX11_quarters_52 : decode cX11_quarters 52 = .ok (.iload 5, 2) := by decide +kernel
theorem dX11_quarters_54 : decode cX11_quarters 54 = .ok (.aload_n 0, 1) := by decide +kernel
theorem dX11_quarters_55 : decode cX11_quarters 55 = .ok (.getfield 19, 3) := by decide +kernel
theorem dX11_quarters_58 : decode cX11_quarters 58 = .ok (.getfield 113, 3) := by decide +kernel
theorem dX11_quarters_61 : decode cX11_quarters 61 = .ok (.if_icmp .ge 64, 3) := by decide +kernel
theorem dX11_quarters_64 : decode cX11_quarters 64 = .ok (.aload_n 0, 1) := by decide +kernel
theorem dX11_quarters_65 : decode cX11_quarters 65 = .ok (.iload 4, 2) := by decide +kernel
theorem dX11_quarters_67 : decode cX11_quarters 67 = .ok (.iload 5, 2) := by decide +kernel
theorem dX11_quarters_69 : decode cX11_quarters 69 = .ok (.iload_n 2, 1) := by decide +kernel
theorem dX11_quarters_70 : decode cX11_quarters 70 = .ok (.invokevirtual 350, 3) := by decide +kernel
theorem dX11_quarters_73 : decode cX11_quarters 73 = .ok (.iconst 0, 1) := by decide +kernel
theorem dX11_quarters_74 : decode cX11_quarters 74 = .ok (.istore 6, 2) := by decide +kernel
theorem dX11_quarters_76 : decode cX11_quarters 76 = .ok (.iload 6, 2) := by decide +kernel
theorem dX11_quarters_78 : decode cX11_quarters 78 = .ok (.aload_n 0, 1) := by decide +kernel
theorem dX11_quarters_79 : decode cX11_quarters 79 = .ok (.getfield 19, 3) := by decide +kernel
theorem dX11_quarters_82 : decode cX11_quarters 82 = .ok (.getfield 113, 3) := by decide +kernel
theorem dX11_quarters_85 : decode cX11_quarters 85 = .ok (.if_icmp .ge 34, 3) := by decide +kernel
theorem dX11_quarters_88 : decode cX11_quarters 88 = .ok (.aload_n 0, 1) := by decide +kernel
theorem dX11_quarters_89 : decode cX11_quarters 89 = .ok (.getfield 96, 3) := by decide +kernel
theorem dX11_quarters_92 : decode cX11_quarters 92 = .ok (.iload 6, 2) := by decide +kernel
theorem dX11_quarters_94 : decode cX11_quarters 94 = .ok (.iaload, 1) := by decide +kernel
theorem dX11_quarters_95 : decode cX11_quarters 95 = .ok (.iload_n 1, 1) := by decide +kernel
theorem dX11_quarters_96 : decode cX11_quarters 96 = .ok (.if_icmp .ne 17, 3) := by decide +kernel
theorem dX11_quarters_99 : decode cX11_quarters 99 = .ok (.aload_n 0, 1) := by decide +kernel
theorem dX11_quarters_100 : decode cX11_quarters 100 = .ok (.iload_n 3, 1) := by decide +kernel
theorem dX11_quarters_101 : decode cX11_quarters 101 = .ok (.iload 4, 2) := by decide +kernel
theorem dX11_quarters_103 : decode cX11_quarters 103 = .ok (.iload 5, 2) := by decide +kernel
theorem dX11_quarters_105 : decode cX11_quarters 105 = .ok (.iload 6, 2) := by decide +kernel
theorem dX11_quarters_107 : decode cX11_quarters 107 = .ok (.invokevirtual 353, 3) := by decide +kernel
theorem dX11_quarters_110 : decode cX11_quarters 110 = .ok (.iinc 3 1, 3) := by decide +kernel
theorem dX11_quarters_113 : decode cX11_quarters 113 = .ok (.iinc 6 1, 3) := by decide +kernel
theorem dX11_quarters_116 : decode cX11_quarters 116 = .ok (.goto (-40), 3) := by decide +kernel
theorem dX11_quarters_119 : decode cX11_quarters 119 = .ok (.iinc 5 1, 3) := by decide +kernel
theorem dX11_quarters_122 : decode cX11_quarters 122 = .ok (.goto (-70), 3) := by decide +kernel
theorem dX11_quarters_125 : decode cX11_quarters 125 = .ok (.iinc 4 1, 3) := by decide +kernel
theorem dX11_quarters_128 : decode cX11_quarters 128 = .ok (.goto (-94), 3) := by decide +kernel
theorem dX11_quarters_131 : decode cX11_quarters 131 = .ok (.iload_n 3, 1) := by decide +kernel
theorem dX11_quarters_132 : decode cX11_quarters 132 = .ok (.ireturn, 1) := by decide +kernel
def lb_X11_quarters_76 (v0 : Nat) (v1 : Int32) (v2 : Int32) (v4 : Int32) (v5 : Int32) (s : Int32 × Int32 × aH) : Option ((Int32 × Int32 × aH) ⊕ ((Int32 × aH))) :=
  (gR s.2.2 v0 10 1).bind fun a11 =>
  (gI s.2.2 a11 0 0).bind fun x12 =>
  if s.2.1 < x12 then
    (gR s.2.2 v0 10 14).bind fun a13 =>
    (aI s.2.2 a13 14 s.2.1).bind fun x14 =>
    if x14 = v1 then
      (ck s.2.2 v0 10).bind fun u16 =>
      (fn_X11_tellFirstQuarter s.2.2 v0 s.1 v4 v5 s.2.1).bind fun h17 =>
      (some (s.1 + 1)).bind fun x18 =>
      (some (s.2.1 + 1)).bind fun x19 =>
      some (.inl (x18, x19, h17))
    else
      (some (s.2.1 + 1)).bind fun x15 =>
      some (.inl (s.1, x15, s.2.2))
  else
    some (.inr (s.1, s.2.2))
def hd_X11_quarters_76 (Γ : aC) (v0 : Nat) (v1 : Int32) (v2 : Int32) (v4 : Int32) (v5 : Int32) (s : Int32 × Int32 × aH) : Prop := Jd Γ (0, 0) 76 [some (.ref v0), some (.int v1), some (.int v2), some (.int s.1), some (.int v4), some (.int v5), some (.int s.2.1)] [] s.2.2
def ex_X11_quarters_76 (Γ : aC) (v0 : Nat) (v1 : Int32) (v2 : Int32) (v4 : Int32) (v5 : Int32) (r : (Int32 × aH)) : Prop := (fun r => ∀ (j6 : Option Value), Jd Γ (0, 0) 119 [some (.ref v0), some (.int v1), some (.int v2), some (.int r.1), some (.int v4), some (.int v5), j6] [] r.2) r
set_option maxRecDepth 20000 in
set_option maxHeartbeats 4000000 in
theorem lw_X11_quarters_76 {Γ : aC} {d : Nat} (X : Cx Γ RX11 cX11_quarters 7 (some .int) (d, 0, 0)) (hd : 6 ≤ d) (v0 : Nat) (v1 : Int32) (v2 : Int32) (v4 : Int32) (v5 : Int32) : ∀ n s o, lp (lb_X11_quarters_76 v0 v1 v2 v4 v5) n s = some o → ex_X11_quarters_76 Γ v0 v1 v2 v4 v5 o → hd_X11_quarters_76 Γ v0 v1 v2 v4 v5 s := by
  have hd1 : 1 ≤ d := by omega
  refine J_lp _ _ _ ?_
  intro s o hf hk
  unfold lb_X11_quarters_76 at hf
  refine r_iload (pc := 76) X dX11_quarters_76 rfl ?_
  refine r_aload_n (pc := 78) X dX11_quarters_78 rfl ?_
  obtain ⟨a11, ea11, hf⟩ := ob hf
  refine r_getR (pc := 79) X dX11_quarters_79 fl_X11_19 rfl ea11 ?_
  obtain ⟨x12, ex12, hf⟩ := ob hf
  refine r_getI (pc := 82) X dX11_quarters_82 fl_X11_113 rfl ex12 ?_
  refine r_icmp_ge (pc := 85) X 119 dX11_quarters_85 (by decide) (fun c21 => ?_) (fun c21 => ?_)
  · rw [if_neg c21] at hf
    obtain rfl := Option.some.inj hf
    exact hk _
  · rw [if_pos c21] at hf
    refine r_aload_n (pc := 88) X dX11_quarters_88 rfl ?_
    obtain ⟨a13, ea13, hf⟩ := ob hf
    refine r_getR (pc := 89) X dX11_quarters_89 fl_X11_96 rfl ea13 ?_
    refine r_iload (pc := 92) X dX11_quarters_92 rfl ?_
    obtain ⟨x14, ex14, hf⟩ := ob hf
    refine r_iald (pc := 94) X dX11_quarters_94 ex14 ?_
    refine r_iload_n (pc := 95) X dX11_quarters_95 rfl ?_
    refine r_icmp_ne (pc := 96) X 113 dX11_quarters_96 (by decide) (fun c20 => ?_) (fun c20 => ?_)
    · rw [if_neg c20] at hf
      obtain ⟨x15, ex15, hf⟩ := ob hf
      refine r_iinc2 (pc := 113) X 1 [some (.ref v0), some (.int v1), some (.int v2), some (.int s.1), some (.int v4), some (.int v5), some (.int x15)] dX11_quarters_113 (by decide) rfl (by decide) ex15 rfl ?_
      refine r_goto (pc := 116) X 76 dX11_quarters_116 (by decide) ?_
      obtain rfl := Option.some.inj hf
      exact hk
    · rw [if_pos c20] at hf
      refine r_aload_n (pc := 99) X dX11_quarters_99 rfl ?_
      refine r_iload_n (pc := 100) X dX11_quarters_100 rfl ?_
      refine r_iload (pc := 101) X dX11_quarters_101 rfl ?_
      refine r_iload (pc := 103) X dX11_quarters_103 rfl ?_
      refine r_iload (pc := 105) X dX11_quarters_105 rfl ?_
      obtain ⟨u16, eu16, hf⟩ := ob hf
      obtain ⟨h17, eh17, hf⟩ := ob hf
      refine r_callVV (pc := 107) X [.int s.1, .int v4, .int v5, .int s.2.1] dX11_quarters_107 ml_X11_353 vo_X11_tellFirstQuarter ⟨Nat.le_refl _, Nat.le_refl _⟩ eu16 (ev_X11_tellFirstQuarter (d := d - 1) (by omega) _ _ _ _ _ _ _ eh17) hd1 rfl (Nat.le_of_ble_eq_true rfl) rfl ?_
      obtain ⟨x18, ex18, hf⟩ := ob hf
      refine r_iinc2 (pc := 110) X 1 [some (.ref v0), some (.int v1), some (.int v2), some (.int x18), some (.int v4), some (.int v5), some (.int s.2.1)] dX11_quarters_110 (by decide) rfl (by decide) ex18 rfl ?_
      obtain ⟨x19, ex19, hf⟩ := ob hf
      refine r_iinc2 (pc := 113) X 1 [some (.ref v0), some (.int v1), some (.int v2), some (.int x18), some (.int v4), some (.int v5), some (.int x19)] dX11_quarters_113 (by decide) rfl (by decide) ex19 rfl ?_
      refine r_goto (pc := 116) X 76 dX11_quarters_116 (by decide) ?_
      obtain rfl := Option.some.inj hf
      exact hk
def lb_X11_quarters_52 (v0 : Nat) (v1 : Int32) (v2 : Int32) (v4 : Int32) (s : Int32 × Int32 × aH) : Option ((Int32 × Int32 × aH) ⊕ ((Int32 × aH))) :=
  (gR s.2.2 v0 10 1).bind fun a7 =>
  (gI s.2.2 a7 0 0).bind fun x8 =>
  if s.2.1 < x8 then
    (ck s.2.2 v0 10).bind fun u9 =>
    (fn_X11_putTablesIntoMasks s.2.2 v0 v4 s.2.1 v2).bind fun h10 =>
    (lp (lb_X11_quarters_76 v0 v1 v2 v4 s.2.1) lpN (s.1, 0, h10)).bind fun o22 =>
    (some (s.2.1 + 1)).bind fun x24 =>
    some (.inl (o22.1, x24, o22.2))
  else
    some (.inr (s.1, s.2.2))
def hd_X11_quarters_52 (Γ : aC) (v0 : Nat) (v1 : Int32) (v2 : Int32) (v4 : Int32) (s : Int32 × Int32 × aH) : Prop := ∀ (j6 : Option Value), Jd Γ (0, 0) 52 [some (.ref v0), some (.int v1), some (.int v2), some (.int s.1), some (.int v4), some (.int s.2.1), j6] [] s.2.2
def ex_X11_quarters_52 (Γ : aC) (v0 : Nat) (v1 : Int32) (v2 : Int32) (v4 : Int32) (r : (Int32 × aH)) : Prop := (fun r => ∀ (j5 : Option Value) (j6 : Option Value), Jd Γ (0, 0) 125 [some (.ref v0), some (.int v1), some (.int v2), some (.int r.1), some (.int v4), j5, j6] [] r.2) r
set_option maxRecDepth 20000 in
set_option maxHeartbeats 4000000 in
theorem lw_X11_quarters_52 {Γ : aC} {d : Nat} (X : Cx Γ RX11 cX11_quarters 7 (some .int) (d, 0, 0)) (hd : 6 ≤ d) (v0 : Nat) (v1 : Int32) (v2 : Int32) (v4 : Int32) : ∀ n s o, lp (lb_X11_quarters_52 v0 v1 v2 v4) n s = some o → ex_X11_quarters_52 Γ v0 v1 v2 v4 o → hd_X11_quarters_52 Γ v0 v1 v2 v4 s := by
  have hd1 : 1 ≤ d := by omega
  refine J_lp _ _ _ ?_
  intro s o hf hk j6
  unfold lb_X11_quarters_52 at hf
  refine r_iload (pc := 52) X dX11_quarters_52 rfl ?_
  refine r_aload_n (pc := 54) X dX11_quarters_54 rfl ?_
  obtain ⟨a7, ea7, hf⟩ := ob hf
  refine r_getR (pc := 55) X dX11_quarters_55 fl_X11_19 rfl ea7 ?_
  obtain ⟨x8, ex8, hf⟩ := ob hf
  refine r_getI (pc := 58) X dX11_quarters_58 fl_X11_113 rfl ex8 ?_
  refine r_icmp_ge (pc := 61) X 125 dX11_quarters_61 (by decide) (fun c25 => ?_) (fun c25 => ?_)
  · rw [if_neg c25] at hf
    obtain rfl := Option.some.inj hf
    exact hk _ _
  · rw [if_pos c25] at hf
    refine r_aload_n (pc := 64) X dX11_quarters_64 rfl ?_
    refine r_iload (pc := 65) X dX11_quarters_65 rfl ?_
    refine r_iload (pc := 67) X dX11_quarters_67 rfl ?_
    refine r_iload_n (pc := 69) X dX11_quarters_69 rfl ?_
    obtain ⟨u9, eu9, hf⟩ := ob hf
    obtain ⟨h10, eh10, hf⟩ := ob hf
    refine r_callVV (pc := 70) X [.int v4, .int s.2.1, .int v2] dX11_quarters_70 ml_X11_350 vo_X11_putTablesIntoMasks ⟨Nat.le_refl _, Nat.le_refl _⟩ eu9 (ev_X11_putTablesIntoMasks (d := d - 1) (by omega) _ _ _ _ _ _ eh10) hd1 rfl (Nat.le_of_ble_eq_true rfl) rfl ?_
    refine r_iconst (pc := 73) X 0 dX11_quarters_73 (by decide) ?_
    refine r_istore (pc := 74) X [some (.ref v0), some (.int v1), some (.int v2), some (.int s.1), some (.int v4), some (.int s.2.1), some (.int 0)] dX11_quarters_74 (by decide) rfl ?_
    obtain ⟨o22, eo22, hf⟩ := ob hf
    refine (lw_X11_quarters_76 X hd _ _ _ _ _ lpN _ o22 eo22 ?_)
    intro j23
    obtain ⟨x24, ex24, hf⟩ := ob hf
    refine r_iinc2 (pc := 119) X 1 [some (.ref v0), some (.int v1), some (.int v2), some (.int o22.1), some (.int v4), some (.int x24), j23] dX11_quarters_119 (by decide) rfl (by decide) ex24 rfl ?_
    refine r_goto (pc := 122) X 52 dX11_quarters_122 (by decide) ?_
    obtain rfl := Option.some.inj hf
    exact hk _
def lb_X11_quarters_34 (v0 : Nat) (v1 : Int32) (v2 : Int32) (s : Int32 × Int32 × aH) : Option ((Int32 × Int32 × aH) ⊕ ((Int32 × aH))) :=
  (gR s.2.2 v0 10 1).bind fun a4 =>
  (gI s.2.2 a4 0 0).bind fun x5 =>
  if s.2.1 < x5 then
    (some (s.2.1 + 1)).bind fun x6 =>
    (lp (lb_X11_quarters_52 v0 v1 v2 s.2.1) lpN (s.1, x6, s.2.2)).bind fun o26 =>
    (some (s.2.1 + 1)).bind fun x29 =>
    some (.inl (o26.1, x29, o26.2))
  else
    some (.inr (s.1, s.2.2))
def hd_X11_quarters_34 (Γ : aC) (v0 : Nat) (v1 : Int32) (v2 : Int32) (s : Int32 × Int32 × aH) : Prop := ∀ (j5 : Option Value) (j6 : Option Value), Jd Γ (0, 0) 34 [some (.ref v0), some (.int v1), some (.int v2), some (.int s.1), some (.int s.2.1), j5, j6] [] s.2.2
def ex_X11_quarters_34 (Γ : aC) (v0 : Nat) (v1 : Int32) (v2 : Int32) (r : (Int32 × aH)) : Prop := (fun r => RqI Γ r) r
set_option maxRecDepth 20000 in
set_option maxHeartbeats 4000000 in
theorem lw_X11_quarters_34 {Γ : aC} {d : Nat} (X : Cx Γ RX11 cX11_quarters 7 (some .int) (d, 0, 0)) (hd : 6 ≤ d) (v0 : Nat) (v1 : Int32) (v2 : Int32) : ∀ n s o, lp (lb_X11_quarters_34 v0 v1 v2) n s = some o → ex_X11_quarters_34 Γ v0 v1 v2 o → hd_X11_quarters_34 Γ v0 v1 v2 s := by
  have hd1 : 1 ≤ d := by omega
  refine J_lp _ _ _ ?_
  intro s o hf hk j5 j6
  unfold lb_X11_quarters_34 at hf
  refine r_iload (pc := 34) X dX11_quarters_34 rfl ?_
  refine r_aload_n (pc := 36) X dX11_quarters_36 rfl ?_
  obtain ⟨a4, ea4, hf⟩ := ob hf
  refine r_getR (pc := 37) X dX11_quarters_37 fl_X11_19 rfl ea4 ?_
  obtain ⟨x5, ex5, hf⟩ := ob hf
  refine r_getI (pc := 40) X dX11_quarters_40 fl_X11_113 rfl ex5 ?_
  refine r_icmp_ge (pc := 43) X 131 dX11_quarters_43 (by decide) (fun c30 => ?_) (fun c30 => ?_)
  · rw [if_neg c30] at hf
    refine r_iload_n (pc := 131) X dX11_quarters_131 rfl ?_
    obtain rfl := Option.some.inj hf
    exact r_iret (pc := 132) X dX11_quarters_132 hk
  · rw [if_pos c30] at hf
    refine r_iload (pc := 46) X dX11_quarters_46 rfl ?_
    refine r_iconst (pc := 48) X 1 dX11_quarters_48 (by decide) ?_
    refine r_iadd (pc := 49) X dX11_quarters_49 ?_
    obtain ⟨x6, ex6, hf⟩ := ob hf
    refine r_nmI ex6 ?_
    refine r_istore (pc := 50) X [some (.ref v0), some (.int v1), some (.int v2), some (.int s.1), some (.int s.2.1), some (.int x6), j6] dX11_quarters_50 (by decide) rfl ?_
    obtain ⟨o26, eo26, hf⟩ := ob hf
    refine (lw_X11_quarters_52 X hd _ _ _ _ lpN _ o26 eo26 ?_) _
    intro j27 j28
    obtain ⟨x29, ex29, hf⟩ := ob hf
    refine r_iinc2 (pc := 125) X 1 [some (.ref v0), some (.int v1), some (.int v2), some (.int o26.1), some (.int x29), j27, j28] dX11_quarters_125 (by decide) rfl (by decide) ex29 rfl ?_
    refine r_goto (pc := 128) X 34 dX11_quarters_128 (by decide) ?_
    obtain rfl := Option.some.inj hf
    exact hk _ _
def fn_X11_quarters (h : aH) (p0 : Nat) (p1 : Int32) (p2 : Int32) : Option (Int32 × aH) :=
  if p1 < 0 then
    some ((-1), h)
  else
    if p1 ≤ 15 then
      if p2 < 0 then
        some ((-1), h)
      else
        if p2 ≤ 40 then
          (gR h p0 10 11).bind fun a1 =>
          (ck h a1 2).bind fun u2 =>
          (fn_X3_begin h a1).bind fun h3 =>
          (lp (lb_X11_quarters_34 p0 p1 p2) lpN (0, 0, h3)).bind fun o31 =>
          some o31
        else
          some ((-1), h)
    else
      some ((-1), h)
set_option maxRecDepth 20000 in
set_option maxHeartbeats 4000000 in
theorem ev_X11_quarters {l : Launch} {g : aG} {d : Nat} (hd : 6 ≤ d) (h : aH) (p0 : Nat) (p1 : Int32) (p2 : Int32) (o : Int32 × aH) (hf : fn_X11_quarters h p0 p1 p2 = some o) : EvM l g d yX11_quarters cX11_quarters 7 (some .int) [.ref p0, .int p1, .int p2] h (some (.int o.1), o.2) := by
  refine EvM.of mk_X11_quarters (Nat.le_of_ble_eq_true rfl) ?_
  intro Γ hl hg hq X
  have hd1 : 1 ≤ d := by omega
  have hk : RqI Γ o := hq
  unfold fn_X11_quarters at hf
  show Jd Γ (0, 0) 0 [some (.ref p0), some (.int p1), some (.int p2), none, none, none, none] [] h
  refine r_iload_n (pc := 0) X dX11_quarters_0 rfl ?_
  refine r_if_lt (pc := 1) X 20 dX11_quarters_1 (by decide) (fun c35 => ?_) (fun c35 => ?_)
  · rw [if_pos c35] at hf
    refine r_iconst (pc := 20) X (-1) dX11_quarters_20 (by decide) ?_
    obtain rfl := Option.some.inj hf
    exact r_iret (pc := 21) X dX11_quarters_21 hk
  · rw [if_neg c35] at hf
    refine r_iload_n (pc := 4) X dX11_quarters_4 rfl ?_
    refine r_bipush (pc := 5) X 15 dX11_quarters_5 (by decide) ?_
    refine r_icmp_gt (pc := 7) X 20 dX11_quarters_7 (by decide) (fun c34 => ?_) (fun c34 => ?_)
    · rw [if_neg c34] at hf
      refine r_iconst (pc := 20) X (-1) dX11_quarters_20 (by decide) ?_
      obtain rfl := Option.some.inj hf
      exact r_iret (pc := 21) X dX11_quarters_21 hk
    · rw [if_pos c34] at hf
      refine r_iload_n (pc := 10) X dX11_quarters_10 rfl ?_
      refine r_if_lt (pc := 11) X 20 dX11_quarters_11 (by decide) (fun c33 => ?_) (fun c33 => ?_)
      · rw [if_pos c33] at hf
        refine r_iconst (pc := 20) X (-1) dX11_quarters_20 (by decide) ?_
        obtain rfl := Option.some.inj hf
        exact r_iret (pc := 21) X dX11_quarters_21 hk
      · rw [if_neg c33] at hf
        refine r_iload_n (pc := 14) X dX11_quarters_14 rfl ?_
        refine r_bipush (pc := 15) X 40 dX11_quarters_15 (by decide) ?_
        refine r_icmp_le (pc := 17) X 22 dX11_quarters_17 (by decide) (fun c32 => ?_) (fun c32 => ?_)
        · rw [if_pos c32] at hf
          refine r_aload_n (pc := 22) X dX11_quarters_22 rfl ?_
          obtain ⟨a1, ea1, hf⟩ := ob hf
          refine r_getR (pc := 23) X dX11_quarters_23 fl_X11_81 rfl ea1 ?_
          obtain ⟨u2, eu2, hf⟩ := ob hf
          obtain ⟨h3, eh3, hf⟩ := ob hf
          refine r_callVV (pc := 26) X [] dX11_quarters_26 ml_X11_242 vo_X3_begin ⟨Nat.le_refl _, Nat.le_refl _⟩ eu2 (ev_X3_begin (d := d - 1) (by omega) _ _ _ eh3) hd1 rfl (Nat.le_of_ble_eq_true rfl) rfl ?_
          refine r_iconst (pc := 29) X 0 dX11_quarters_29 (by decide) ?_
          refine r_istore_n (pc := 30) X [some (.ref p0), some (.int p1), some (.int p2), some (.int 0), none, none, none] dX11_quarters_30 (by decide) rfl ?_
          refine r_iconst (pc := 31) X 0 dX11_quarters_31 (by decide) ?_
          refine r_istore (pc := 32) X [some (.ref p0), some (.int p1), some (.int p2), some (.int 0), some (.int 0), none, none] dX11_quarters_32 (by decide) rfl ?_
          obtain ⟨o31, eo31, hf⟩ := ob hf
          refine (lw_X11_quarters_34 X hd _ _ _ lpN _ o31 eo31 ?_) _ _
          obtain rfl := Option.some.inj hf
          exact hk
        · rw [if_neg c32] at hf
          refine r_iconst (pc := 20) X (-1) dX11_quarters_20 (by decide) ?_
          obtain rfl := Option.some.inj hf
          exact r_iret (pc := 21) X dX11_quarters_21 hk

theorem dX11_putTablesIntoTrace_0 : decode cX11_putTablesIntoTrace 0 = .ok (.iconst 0, 1) := by decide +kernel
theorem dX11_putTablesIntoTrace_1 : decode cX11_putTablesIntoTrace 1 = .ok (.istore 4, 2) := by decide +kernel
theorem dX11_putTablesIntoTrace_3 : decode cX11_putTablesIntoTrace 3 = .ok (.iload 4, 2) := by decide +kernel
theorem dX11_putTablesIntoTrace_5 : decode cX11_putTablesIntoTrace 5 = .ok (.iconst 4, 1) := by decide +kernel
theorem dX11_putTablesIntoTrace_6 : decode cX11_putTablesIntoTrace 6 = .ok (.if_icmp .ge 95, 3) := by decide +kernel
theorem dX11_putTablesIntoTrace_9 : decode cX11_putTablesIntoTrace 9 = .ok (.aload_n 0, 1) := by decide +kernel
theorem dX11_putTablesIntoTrace_10 : decode cX11_putTablesIntoTrace 10 = .ok (.iload_n 1, 1) := by decide +kernel
theorem dX11_putTablesIntoTrace_11 : decode cX11_putTablesIntoTrace 11 = .ok (.iload_n 2, 1) := by decide +kernel
theorem dX11_putTablesIntoTrace_12 : decode cX11_putTablesIntoTrace 12 = .ok (.iload 4, 2) := by decide +kernel
theorem dX11_putTablesIntoTrace_14 : decode cX11_putTablesIntoTrace 14 = .ok (.invokevirtual 347, 3) := by decide +kernel
theorem dX11_putTablesIntoTrace_17 : decode cX11_putTablesIntoTrace 17 = .ok (.iconst 0, 1) := by decide +kernel
theorem dX11_putTablesIntoTrace_18 : decode cX11_putTablesIntoTrace 18 = .ok (.istore 5, 2) := by decide +kernel
theorem dX11_putTablesIntoTrace_20 : decode cX11_putTablesIntoTrace 20 = .ok (.iload 5, 2) := by decide +kernel
theorem dX11_putTablesIntoTrace_22 : decode cX11_putTablesIntoTrace 22 = .ok (.bipush 40, 2) := by decide +kernel
theorem dX11_putTablesIntoTrace_24 : decode cX11_putTablesIntoTrace 24 = .ok (.if_icmp .gt 71, 3) := by decide +kernel
theorem dX11_putTablesIntoTrace_27 : decode cX11_putTablesIntoTrace 27 = .ok (.aload_n 0, 1) := by decide +kernel
theorem dX11_putTablesIntoTrace_28 : decode cX11_putTablesIntoTrace 28 = .ok (.getfield 68, 3) := by decide +kernel
theorem dX11_putTablesIntoTrace_31 : decode cX11_putTablesIntoTrace 31 = .ok (.iload_n 3, 1) := by decide +kernel
theorem dX11_putTablesIntoTrace_32 : decode cX11_putTablesIntoTrace 32 = .ok (.invokevirtual 316, 3) := by decide +kernel
theorem dX11_putTablesIntoTrace_35 : decode cX11_putTablesIntoTrace 35 = .ok (.ifCond .eq 10, 3) := by decide +kernel
theorem dX11_putTablesIntoTrace_38 : decode cX11_putTablesIntoTrace 38 = .ok (.lconst 1, 1) := by decide +kernel
theorem dX11_putTablesIntoTrace_39 : decode cX11_putTablesIntoTrace 39 = .ok (.iload 4, 2) := by decide +kernel
theorem dX11_putTablesIntoTrace_41 : decode cX11_putTablesIntoTrace 41 = .ok (.lshl, 1) := by decide +kernel
theorem dX11_putTablesIntoTrace_42 : decode cX11_putTablesIntoTrace 42 = .ok (.goto 4, 3) := by decide +kernel
theorem dX11_putTablesIntoTrace_45 : decode cX11_putTablesIntoTrace 45 = .ok (.lconst 0, 1) := by decide +kernel
theorem dX11_putTablesIntoTrace_46 : decode cX11_putTablesIntoTrace 46 = .ok (.lstore 6, 2) := by decide +kernel
theorem dX11_putTablesIntoTrace_48 : decode cX11_putTablesIntoTrace 48 = .ok (.aload_n 0, 1) := by decide +kernel
theorem dX11_putTablesIntoTrace_49 : decode cX11_putTablesIntoTrace 49 = .ok (.getfield 92, 3) := by decide +kernel
theorem dX11_putTablesIntoTrace_52 : decode cX11_putTablesIntoTrace 52 = .ok (.iload 5, 2) := by decide +kernel
theorem dX11_putTablesIntoTrace_54 : decode cX11_putTablesIntoTrace 54 = .ok (.iload 4, 2) := by decide +kernel
theorem dX11_putTablesIntoTrace_56 : decode cX11_putTablesIntoTrace 56 = .ok (.ifCond .ne 7, 3) := by decide +kernel
theorem dX11_putTablesIntoTrace_59 : decode cX11_putTablesIntoTrace 59 = .ok (.lconst 0, 1) := by decide +kernel
theorem dX11_putTablesIntoTrace_60 : decode cX11_putTablesIntoTrace 60 = .ok (.goto 10, 3) := by decide +kernel
theorem dX11_putTablesIntoTrace_63 : decode cX11_putTablesIntoTrace 63 = .ok (.aload_n 0, 1) := by decide +kernel
theorem dX11_putTablesIntoTrace_64 : decode cX11_putTablesIntoTrace 64 = .ok (.getfield 92, 3) := by decide +kernel
theorem dX11_putTablesIntoTrace_67 : decode cX11_putTablesIntoTrace 67 = .ok (.iload 5, 2) := by decide +kernel
theorem dX11_putTablesIntoTrace_69 : decode cX11_putTablesIntoTrace 69 = .ok (.laload, 1) := by decide +kernel
theorem dX11_putTablesIntoTrace_70 : decode cX11_putTablesIntoTrace 70 = .ok (.lload 6, 2) := by decide +kernel
theorem dX11_putTablesIntoTrace_72 : decode cX11_putTablesIntoTrace 72 = .ok (.lor, 1) := by decide +kernel
theorem dX11_putTablesIntoTrace_73 : decode cX11_putTablesIntoTrace 73 = .ok (.lastore, 1) := by decide +kernel
theorem dX11_putTablesIntoTrace_74 : decode cX11_putTablesIntoTrace 74 = .ok (.aload_n 0, 1) := by decide +kernel
theorem dX11_putTablesIntoTrace_75 : decode cX11_putTablesIntoTrace 75 = .ok (.getfield 19, 3) := by decide +kernel
theorem dX11_putTablesIntoTrace_78 : decode cX11_putTablesIntoTrace 78 = .ok (.aload_n 0, 1) := by decide +kernel
theorem dX11_putTablesIntoTrace_79 : decode cX11_putTablesIntoTrace 79 = .ok (.getfield 68, 3) := by decide +kernel
theorem dX11_putTablesIntoTrace_82 : decode cX11_putTablesIntoTrace 82 = .ok (.aload_n 0, 1) := by decide +kernel
theorem dX11_putTablesIntoTrace_83 : decode cX11_putTablesIntoTrace 83 = .ok (.getfield 42, 3) := by decide +kernel
theorem dX11_putTablesIntoTrace_86 : decode cX11_putTablesIntoTrace 86 = .ok (.invokevirtual 283, 3) := by decide +kernel
theorem dX11_putTablesIntoTrace_89 : decode cX11_putTablesIntoTrace 89 = .ok (.iinc 5 1, 3) := by decide +kernel
theorem dX11_putTablesIntoTrace_92 : decode cX11_putTablesIntoTrace 92 = .ok (.goto (-72), 3) := by decide +kernel
theorem dX11_putTablesIntoTrace_95 : decode cX11_putTablesIntoTrace 95 = .ok (.iinc 4 1, 3) := by decide +kernel
theorem dX11_putTablesIntoTrace_98 : decode cX11_putTablesIntoTrace 98 = .ok (.goto (-95), 3) := by decide +kernel
theorem dX11_putTablesIntoTrace_101 : decode cX11_putTablesIntoTrace 101 = .ok (.return_, 1) := by decide +kernel
def lb_X11_putTablesIntoTrace_20 (v0 : Nat) (v1 : Int32) (v2 : Int32) (v3 : Int32) (v4 : Int32) (s : Int32 × aH) : Option ((Int32 × aH) ⊕ ((aH))) :=
  if s.1 ≤ 40 then
    (gR s.2 v0 10 9).bind fun a3 =>
    (ck s.2 a3 6).bind fun u4 =>
    (fn_X7_isAtMark s.2 a3 v3).bind fun x5 =>
    ((
      if x5 = 0 then
        some 0
      else
        some (lsl 1 v4)
    ) : Option (Int64)).bind fun t6 =>
    (gR s.2 v0 10 13).bind fun a7 =>
    ((
      if v4 = 0 then
        some 0
      else
        (gR s.2 v0 10 13).bind fun a16 =>
        (aJ s.2 a16 s.1).bind fun y17 =>
        some y17
    ) : Option (Int64)).bind fun t8 =>
    (wJ s.2 a7 s.1 (t8 ||| t6)).bind fun h9 =>
    (gR h9 v0 10 1).bind fun a10 =>
    (gR h9 v0 10 9).bind fun a11 =>
    (gR h9 v0 10 4).bind fun a12 =>
    (ck h9 a10 0).bind fun u13 =>
    (fn_X0_pass h9 a10 a11 a12).bind fun h14 =>
    (some (s.1 + 1)).bind fun x15 =>
    some (.inl (x15, h14))
  else
    some (.inr s.2)
def hd_X11_putTablesIntoTrace_20 (Γ : aC) (v0 : Nat) (v1 : Int32) (v2 : Int32) (v3 : Int32) (v4 : Int32) (s : Int32 × aH) : Prop := ∀ (j6 : Option Value) (j7 : Option Value), Jd Γ (0, 0) 20 [some (.ref v0), some (.int v1), some (.int v2), some (.int v3), some (.int v4), some (.int s.1), j6, j7] [] s.2
def ex_X11_putTablesIntoTrace_20 (Γ : aC) (v0 : Nat) (v1 : Int32) (v2 : Int32) (v3 : Int32) (v4 : Int32) (r : (aH)) : Prop := (fun r => ∀ (j5 : Option Value) (j6 : Option Value) (j7 : Option Value), Jd Γ (0, 0) 95 [some (.ref v0), some (.int v1), some (.int v2), some (.int v3), some (.int v4), j5, j6, j7] [] r) r
set_option maxRecDepth 20000 in
set_option maxHeartbeats 4000000 in
theorem lw_X11_putTablesIntoTrace_20 {Γ : aC} {d : Nat} (X : Cx Γ RX11 cX11_putTablesIntoTrace 8 none (d, 0, 0)) (hd : 4 ≤ d) (v0 : Nat) (v1 : Int32) (v2 : Int32) (v3 : Int32) (v4 : Int32) : ∀ n s o, lp (lb_X11_putTablesIntoTrace_20 v0 v1 v2 v3 v4) n s = some o → ex_X11_putTablesIntoTrace_20 Γ v0 v1 v2 v3 v4 o → hd_X11_putTablesIntoTrace_20 Γ v0 v1 v2 v3 v4 s := by
  have hd1 : 1 ≤ d := by omega
  refine J_lp _ _ _ ?_
  intro s o hf hk j6 j7
  unfold lb_X11_putTablesIntoTrace_20 at hf
  refine r_iload (pc := 20) X dX11_putTablesIntoTrace_20 rfl ?_
  refine r_bipush (pc := 22) X 40 dX11_putTablesIntoTrace_22 (by decide) ?_
  refine r_icmp_gt (pc := 24) X 95 dX11_putTablesIntoTrace_24 (by decide) (fun c20 => ?_) (fun c20 => ?_)
  · rw [if_neg c20] at hf
    obtain rfl := Option.some.inj hf
    exact hk _ _ _
  · rw [if_pos c20] at hf
    refine r_aload_n (pc := 27) X dX11_putTablesIntoTrace_27 rfl ?_
    obtain ⟨a3, ea3, hf⟩ := ob hf
    refine r_getR (pc := 28) X dX11_putTablesIntoTrace_28 fl_X11_68 rfl ea3 ?_
    refine r_iload_n (pc := 31) X dX11_putTablesIntoTrace_31 rfl ?_
    obtain ⟨u4, eu4, hf⟩ := ob hf
    obtain ⟨x5, ex5, hf⟩ := ob hf
    refine r_callVI (pc := 32) X [.int v3] dX11_putTablesIntoTrace_32 ml_X11_316 vo_X7_isAtMark ⟨Nat.le_refl _, Nat.le_refl _⟩ eu4 (ev_X7_isAtMark (d := d - 1) (by omega) _ _ _ _ ex5) hd1 rfl (Nat.le_of_ble_eq_true rfl) rfl ?_
    obtain ⟨t6, et6, hf⟩ := ob hf
    have Jt6 : Jd Γ (0, 0) 46 [some (.ref v0), some (.int v1), some (.int v2), some (.int v3), some (.int v4), some (.int s.1), j6, j7] [.long t6] s.2 := by
      refine r_lstore (pc := 46) X [some (.ref v0), some (.int v1), some (.int v2), some (.int v3), some (.int v4), some (.int s.1), some (.long t6), none] dX11_putTablesIntoTrace_46 (by decide) rfl ?_
      refine r_aload_n (pc := 48) X dX11_putTablesIntoTrace_48 rfl ?_
      obtain ⟨a7, ea7, hf⟩ := ob hf
      refine r_getR (pc := 49) X dX11_putTablesIntoTrace_49 fl_X11_92 rfl ea7 ?_
      refine r_iload (pc := 52) X dX11_putTablesIntoTrace_52 rfl ?_
      refine r_iload (pc := 54) X dX11_putTablesIntoTrace_54 rfl ?_
      obtain ⟨t8, et8, hf⟩ := ob hf
      have Jt8 : Jd Γ (0, 0) 70 [some (.ref v0), some (.int v1), some (.int v2), some (.int v3), some (.int v4), some (.int s.1), some (.long t6), none] [.long t8, .int s.1, .ref a7] s.2 := by
        refine r_lload (pc := 70) X dX11_putTablesIntoTrace_70 rfl ?_
        refine r_lor (pc := 72) X dX11_putTablesIntoTrace_72 ?_
        obtain ⟨h9, eh9, hf⟩ := ob hf
        refine r_last (pc := 73) X dX11_putTablesIntoTrace_73 eh9 ?_
        refine r_aload_n (pc := 74) X dX11_putTablesIntoTrace_74 rfl ?_
        obtain ⟨a10, ea10, hf⟩ := ob hf
        refine r_getR (pc := 75) X dX11_putTablesIntoTrace_75 fl_X11_19 rfl ea10 ?_
        refine r_aload_n (pc := 78) X dX11_putTablesIntoTrace_78 rfl ?_
        obtain ⟨a11, ea11, hf⟩ := ob hf
        refine r_getR (pc := 79) X dX11_putTablesIntoTrace_79 fl_X11_68 rfl ea11 ?_
        refine r_aload_n (pc := 82) X dX11_putTablesIntoTrace_82 rfl ?_
        obtain ⟨a12, ea12, hf⟩ := ob hf
        refine r_getR (pc := 83) X dX11_putTablesIntoTrace_83 fl_X11_42 rfl ea12 ?_
        obtain ⟨u13, eu13, hf⟩ := ob hf
        obtain ⟨h14, eh14, hf⟩ := ob hf
        refine r_callVV (pc := 86) X [.ref a11, .ref a12] dX11_putTablesIntoTrace_86 ml_X11_283 vo_X0_pass ⟨Nat.le_refl _, Nat.le_refl _⟩ eu13 (ev_X0_pass (d := d - 1) (by omega) _ _ _ _ _ eh14) hd1 rfl (Nat.le_of_ble_eq_true rfl) rfl ?_
        obtain ⟨x15, ex15, hf⟩ := ob hf
        refine r_iinc2 (pc := 89) X 1 [some (.ref v0), some (.int v1), some (.int v2), some (.int v3), some (.int v4), some (.int x15), some (.long t6), none] dX11_putTablesIntoTrace_89 (by decide) rfl (by decide) ex15 rfl ?_
        refine r_goto (pc := 92) X 20 dX11_putTablesIntoTrace_92 (by decide) ?_
        obtain rfl := Option.some.inj hf
        exact hk _ _
      refine r_if_ne (pc := 56) X 63 dX11_putTablesIntoTrace_56 (by decide) (fun c18 => ?_) (fun c18 => ?_)
      · rw [if_neg c18] at et8
        refine r_aload_n (pc := 63) X dX11_putTablesIntoTrace_63 rfl ?_
        obtain ⟨a16, ea16, et8⟩ := ob et8
        refine r_getR (pc := 64) X dX11_putTablesIntoTrace_64 fl_X11_92 rfl ea16 ?_
        refine r_iload (pc := 67) X dX11_putTablesIntoTrace_67 rfl ?_
        obtain ⟨y17, ey17, et8⟩ := ob et8
        refine r_lald (pc := 69) X dX11_putTablesIntoTrace_69 ey17 ?_
        obtain rfl := Option.some.inj et8
        exact Jt8
      · rw [if_pos c18] at et8
        refine r_lconst (pc := 59) X 0 dX11_putTablesIntoTrace_59 (by decide) ?_
        refine r_goto (pc := 60) X 70 dX11_putTablesIntoTrace_60 (by decide) ?_
        obtain rfl := Option.some.inj et8
        exact Jt8
    refine r_if_eq (pc := 35) X 45 dX11_putTablesIntoTrace_35 (by decide) (fun c19 => ?_) (fun c19 => ?_)
    · rw [if_pos c19] at et6
      refine r_lconst (pc := 45) X 0 dX11_putTablesIntoTrace_45 (by decide) ?_
      obtain rfl := Option.some.inj et6
      exact Jt6
    · rw [if_neg c19] at et6
      refine r_lconst (pc := 38) X 1 dX11_putTablesIntoTrace_38 (by decide) ?_
      refine r_iload (pc := 39) X dX11_putTablesIntoTrace_39 rfl ?_
      refine r_lshl (pc := 41) X dX11_putTablesIntoTrace_41 ?_
      refine r_goto (pc := 42) X 46 dX11_putTablesIntoTrace_42 (by decide) ?_
      obtain rfl := Option.some.inj et6
      exact Jt6
def lb_X11_putTablesIntoTrace_3 (v0 : Nat) (v1 : Int32) (v2 : Int32) (v3 : Int32) (s : Int32 × aH) : Option ((Int32 × aH) ⊕ ((aH))) :=
  if s.1 < 4 then
    (ck s.2 v0 10).bind fun u1 =>
    (fn_X11_startSent s.2 v0 v1 v2 s.1).bind fun h2 =>
    (lp (lb_X11_putTablesIntoTrace_20 v0 v1 v2 v3 s.1) lpN (0, h2)).bind fun o21 =>
    (some (s.1 + 1)).bind fun x25 =>
    some (.inl (x25, o21))
  else
    some (.inr s.2)
def hd_X11_putTablesIntoTrace_3 (Γ : aC) (v0 : Nat) (v1 : Int32) (v2 : Int32) (v3 : Int32) (s : Int32 × aH) : Prop := ∀ (j5 : Option Value) (j6 : Option Value) (j7 : Option Value), Jd Γ (0, 0) 3 [some (.ref v0), some (.int v1), some (.int v2), some (.int v3), some (.int s.1), j5, j6, j7] [] s.2
def ex_X11_putTablesIntoTrace_3 (Γ : aC) (v0 : Nat) (v1 : Int32) (v2 : Int32) (v3 : Int32) (r : (aH)) : Prop := (fun r => RqV Γ r) r
set_option maxRecDepth 20000 in
set_option maxHeartbeats 4000000 in
theorem lw_X11_putTablesIntoTrace_3 {Γ : aC} {d : Nat} (X : Cx Γ RX11 cX11_putTablesIntoTrace 8 none (d, 0, 0)) (hd : 4 ≤ d) (v0 : Nat) (v1 : Int32) (v2 : Int32) (v3 : Int32) : ∀ n s o, lp (lb_X11_putTablesIntoTrace_3 v0 v1 v2 v3) n s = some o → ex_X11_putTablesIntoTrace_3 Γ v0 v1 v2 v3 o → hd_X11_putTablesIntoTrace_3 Γ v0 v1 v2 v3 s := by
  have hd1 : 1 ≤ d := by omega
  refine J_lp _ _ _ ?_
  intro s o hf hk j5 j6 j7
  unfold lb_X11_putTablesIntoTrace_3 at hf
  refine r_iload (pc := 3) X dX11_putTablesIntoTrace_3 rfl ?_
  refine r_iconst (pc := 5) X 4 dX11_putTablesIntoTrace_5 (by decide) ?_
  refine r_icmp_ge (pc := 6) X 101 dX11_putTablesIntoTrace_6 (by decide) (fun c26 => ?_) (fun c26 => ?_)
  · rw [if_neg c26] at hf
    obtain rfl := Option.some.inj hf
    exact r_vret (pc := 101) X dX11_putTablesIntoTrace_101 hk
  · rw [if_pos c26] at hf
    refine r_aload_n (pc := 9) X dX11_putTablesIntoTrace_9 rfl ?_
    refine r_iload_n (pc := 10) X dX11_putTablesIntoTrace_10 rfl ?_
    refine r_iload_n (pc := 11) X dX11_putTablesIntoTrace_11 rfl ?_
    refine r_iload (pc := 12) X dX11_putTablesIntoTrace_12 rfl ?_
    obtain ⟨u1, eu1, hf⟩ := ob hf
    obtain ⟨h2, eh2, hf⟩ := ob hf
    refine r_callVV (pc := 14) X [.int v1, .int v2, .int s.1] dX11_putTablesIntoTrace_14 ml_X11_347 vo_X11_startSent ⟨Nat.le_refl _, Nat.le_refl _⟩ eu1 (ev_X11_startSent (d := d - 1) (by omega) _ _ _ _ _ _ eh2) hd1 rfl (Nat.le_of_ble_eq_true rfl) rfl ?_
    refine r_iconst (pc := 17) X 0 dX11_putTablesIntoTrace_17 (by decide) ?_
    refine r_istore (pc := 18) X [some (.ref v0), some (.int v1), some (.int v2), some (.int v3), some (.int s.1), some (.int 0), j6, j7] dX11_putTablesIntoTrace_18 (by decide) rfl ?_
    obtain ⟨o21, eo21, hf⟩ := ob hf
    refine (lw_X11_putTablesIntoTrace_20 X hd _ _ _ _ _ lpN _ o21 eo21 ?_) _ _
    intro j22 j23 j24
    obtain ⟨x25, ex25, hf⟩ := ob hf
    refine r_iinc2 (pc := 95) X 1 [some (.ref v0), some (.int v1), some (.int v2), some (.int v3), some (.int x25), j22, j23, j24] dX11_putTablesIntoTrace_95 (by decide) rfl (by decide) ex25 rfl ?_
    refine r_goto (pc := 98) X 3 dX11_putTablesIntoTrace_98 (by decide) ?_
    obtain rfl := Option.some.inj hf
    exact hk _ _ _
def fn_X11_putTablesIntoTrace (h : aH) (p0 : Nat) (p1 : Int32) (p2 : Int32) (p3 : Int32) : Option (aH) :=
  (lp (lb_X11_putTablesIntoTrace_3 p0 p1 p2 p3) lpN (0, h)).bind fun o27 =>
  some o27
set_option maxRecDepth 20000 in
set_option maxHeartbeats 4000000 in
theorem ev_X11_putTablesIntoTrace {l : Launch} {g : aG} {d : Nat} (hd : 4 ≤ d) (h : aH) (p0 : Nat) (p1 : Int32) (p2 : Int32) (p3 : Int32) (o : aH) (hf : fn_X11_putTablesIntoTrace h p0 p1 p2 p3 = some o) : EvM l g d yX11_putTablesIntoTrace cX11_putTablesIntoTrace 8 none [.ref p0, .int p1, .int p2, .int p3] h (none, o) := by
  refine EvM.of mk_X11_putTablesIntoTrace (Nat.le_of_ble_eq_true rfl) ?_
  intro Γ hl hg hq X
  have hd1 : 1 ≤ d := by omega
  have hk : RqV Γ o := hq
  unfold fn_X11_putTablesIntoTrace at hf
  show Jd Γ (0, 0) 0 [some (.ref p0), some (.int p1), some (.int p2), some (.int p3), none, none, none, none] [] h
  refine r_iconst (pc := 0) X 0 dX11_putTablesIntoTrace_0 (by decide) ?_
  refine r_istore (pc := 1) X [some (.ref p0), some (.int p1), some (.int p2), some (.int p3), some (.int 0), none, none, none] dX11_putTablesIntoTrace_1 (by decide) rfl ?_
  obtain ⟨o27, eo27, hf⟩ := ob hf
  refine (lw_X11_putTablesIntoTrace_3 X hd _ _ _ _ lpN _ o27 eo27 ?_) _ _ _
  obtain rfl := Option.some.inj hf
  exact hk

theorem dX11_learns_0 : decode cX11_learns 0 = .ok (.aload_n 0, 1) := by decide +kernel
theorem dX11_learns_1 : decode cX11_learns 1 = .ok (.iload_n 1, 1) := by decide +kernel
theorem dX11_learns_2 : decode cX11_learns 2 = .ok (.iload_n 2, 1) := by decide +kernel
theorem dX11_learns_3 : decode cX11_learns 3 = .ok (.iload_n 3, 1) := by decide +kernel
theorem dX11_learns_4 : decode cX11_learns 4 = .ok (.invokevirtual 344, 3) := by decide +kernel
theorem dX11_learns_7 : decode cX11_learns 7 = .ok (.ifCond .eq 15, 3) := by decide +kernel
theorem dX11_learns_10 : decode cX11_learns 10 = .ok (.iload 4, 2) := by decide +kernel
theorem dX11_learns_12 : decode cX11_learns 12 = .ok (.ifCond .lt 10, 3) := by decide +kernel
theorem dX11_learns_15 : decode cX11_learns 15 = .ok (.iload 4, 2) := by decide +kernel
theorem dX11_learns_17 : decode cX11_learns 17 = .ok (.bipush 15, 2) := by decide +kernel
theorem dX11_learns_19 : decode cX11_learns 19 = .ok (.if_icmp .le 5, 3) := by decide +kernel
theorem dX11_learns_22 : decode cX11_learns 22 = .ok (.iconst (-1), 1) := by decide +kernel
theorem dX11_learns_23 : decode cX11_learns 23 = .ok (.ireturn, 1) := by decide +kernel
theorem dX11_learns_24 : decode cX11_learns 24 = .ok (.aload_n 0, 1) := by decide +kernel
theorem dX11_learns_25 : decode cX11_learns 25 = .ok (.iload_n 1, 1) := by decide +kernel
theorem dX11_learns_26 : decode cX11_learns 26 = .ok (.iload_n 2, 1) := by decide +kernel
theorem dX11_learns_27 : decode cX11_learns 27 = .ok (.iload_n 3, 1) := by decide +kernel
theorem dX11_learns_28 : decode cX11_learns 28 = .ok (.invokevirtual 360, 3) := by decide +kernel
theorem dX11_learns_31 : decode cX11_learns 31 = .ok (.bipush (-2), 2) := by decide +kernel
theorem dX11_learns_33 : decode cX11_learns 33 = .ok (.istore 5, 2) := by decide +kernel
theorem dX11_learns_35 : decode cX11_learns 35 = .ok (.iconst 0, 1) := by decide +kernel
theorem dX11_learns_36 : decode cX11_learns 36 = .ok (.istore 6, 2) := by decide +kernel
theorem dX11_learns_38 : decode cX11_learns 38 = .ok (.iconst 0, 1) := by decide +kernel
theorem dX11_learns_39 : decode cX11_learns 39 = .ok (.istore 7, 2) := by decide +kernel
theorem dX11_learns_41 : decode cX11_learns 41 = .ok (.iload 7, 2) := by decide +kernel
theorem dX11_learns_43 : decode cX11_learns 43 = .ok (.bipush 40, 2) := by decide +kernel
theorem dX11_learns_45 : decode cX11_learns 45 = .ok (.if_icmp .gt 42, 3) := by decide +kernel
theorem dX11_learns_48 : decode cX11_learns 48 = .ok (.aload_n 0, 1) := by decide +kernel
theorem dX11_learns_49 : decode cX11_learns 49 = .ok (.getfield 92, 3) := by decide +kernel
theorem dX11_learns_52 : decode cX11_learns 52 = .ok (.iload 7, 2) := by decide +kernel
theorem dX11_learns_54 : decode cX11_learns 54 = .ok (.laload, 1) := by decide +kernel
theorem dX11_learns_55 : decode cX11_learns 55 = .ok (.iload 4, 2) := by decide +kernel
theorem dX11_learns_57 : decode cX11_learns 57 = .ok (.i2l, 1) := by decide +kernel
theorem dX11_learns_58 : decode cX11_learns 58 = .ok (.lcmp, 1) := by decide +kernel
theorem dX11_learns_59 : decode cX11_learns 59 = .ok (.ifCond .ne 22, 3) := by decide +kernel
theorem dX11_learns_62 : decode cX11_learns 62 = .ok (.iload 5, 2) := by decide +kernel
theorem dX11_learns_64 : decode cX11_learns 64 = .ok (.bipush (-2), 2) := by decide +kernel
theorem dX11_learns_66 : decode cX11_learns 66 = .ok (.if_icmp .ne 8, 3) := by decide +kernel
theorem dX11_learns_69 : decode cX11_learns 69 = .ok (.iload 7, 2) := by decide +kernel
theorem dX11_learns_71 : decode cX11_learns 71 = .ok (.goto 5, 3) := by decide +kernel
theorem dX11_learns_74 : decode cX11_learns 74 = .ok (.iload 5, 2) := by decide +kernel
theorem dX11_learns_76 : decode cX11_learns 76 = .ok (.istore 5, 2) := by decide +kernel
theorem dX11_learns_78 : decode cX11_learns 78 = .ok (.iinc 6 1, 3) := by decide +kernel
theorem dX11_learns_81 : decode cX11_learns 81 = .ok (.iinc 7 1, 3) := by decide +kernel
theorem dX11_learns_84 : decode cX11_learns 84 = .ok (.goto (-43), 3) := by decide +kernel
theorem dX11_learns_87 : decode cX11_learns 87 = .ok (.iload 5, 2) := by decide +kernel
theorem dX11_learns_89 : decode cX11_learns 89 = .ok (.bipush (-2), 2) := by decide +kernel
theorem dX11_learns_91 : decode cX11_learns 91 = .ok (.if_icmp .eq 20, 3) := by decide +kernel
theorem dX11_learns_94 : decode cX11_learns 94 = .ok (.aload_n 0, 1) := by decide +kernel
theorem dX11_learns_95 : decode cX11_learns 95 = .ok (.getfield 81, 3) := by decide +kernel
theorem dX11_learns_98 : decode cX11_learns 98 = .ok (.invokevirtual 242, 3) := by decide +kernel
theorem dX11_learns_101 : decode cX11_learns 101 = .ok (.aload_n 0, 1) := by decide +kernel
theorem dX11_learns_102 : decode cX11_learns 102 = .ok (.getfield 81, 3) := by decide +kernel
theorem dX11_learns_105 : decode cX11_learns 105 = .ok (.iload 6, 2) := by decide +kernel
theorem dX11_learns_107 : decode cX11_learns 107 = .ok (.i2l, 1) := by decide +kernel
theorem dX11_learns_108 : decode cX11_learns 108 = .ok (.invokevirtual 248, 3) := by decide +kernel
theorem dX11_learns_111 : decode cX11_learns 111 = .ok (.iload 5, 2) := by decide +kernel
theorem dX11_learns_113 : decode cX11_learns 113 = .ok (.ireturn, 1) := by decide +kernel
def lb_X11_learns_41 (hh : aH) (v0 : Nat) (v4 : Int32) (s : Int32 × Int32 × Int32) : Option ((Int32 × Int32 × Int32) ⊕ ((Int32 × Int32))) :=
  if s.2.2 ≤ 40 then
    (gR hh v0 10 13).bind fun a5 =>
    (aJ hh a5 s.2.2).bind fun y6 =>
    if (lg_cmp y6 (Int32.toInt64 v4)) = 0 then
      if s.1 = (-2) then
        (some (s.2.1 + 1)).bind fun x10 =>
        (some (s.2.2 + 1)).bind fun x11 =>
        some (.inl (s.2.2, x10, x11))
      else
        (some (s.2.1 + 1)).bind fun x8 =>
        (some (s.2.2 + 1)).bind fun x9 =>
        some (.inl (s.1, x8, x9))
    else
      (some (s.2.2 + 1)).bind fun x7 =>
      some (.inl (s.1, s.2.1, x7))
  else
    some (.inr (s.1, s.2.1))
def hd_X11_learns_41 (Γ : aC) (hh : aH) (v0 : Nat) (v4 : Int32) (s : Int32 × Int32 × Int32) : Prop := ∀ (j1 : Option Value) (j2 : Option Value) (j3 : Option Value), Jd Γ (0, 0) 41 [some (.ref v0), j1, j2, j3, some (.int v4), some (.int s.1), some (.int s.2.1), some (.int s.2.2)] [] hh
def ex_X11_learns_41 (Γ : aC) (hh : aH) (v0 : Nat) (v4 : Int32) (r : (Int32 × Int32)) : Prop := (fun r => ∀ (j1 : Option Value) (j2 : Option Value) (j3 : Option Value) (j7 : Option Value), Jd Γ (0, 0) 87 [some (.ref v0), j1, j2, j3, some (.int v4), some (.int r.1), some (.int r.2), j7] [] hh) r
set_option maxRecDepth 20000 in
set_option maxHeartbeats 4000000 in
theorem lw_X11_learns_41 {Γ : aC} {d : Nat} (X : Cx Γ RX11 cX11_learns 8 (some .int) (d, 0, 0)) (hd : 5 ≤ d) (hh : aH) (v0 : Nat) (v4 : Int32) : ∀ n s o, lp (lb_X11_learns_41 hh v0 v4) n s = some o → ex_X11_learns_41 Γ hh v0 v4 o → hd_X11_learns_41 Γ hh v0 v4 s := by
  have hd1 : 1 ≤ d := by omega
  refine J_lp _ _ _ ?_
  intro s o hf hk j1 j2 j3
  unfold lb_X11_learns_41 at hf
  refine r_iload (pc := 41) X dX11_learns_41 rfl ?_
  refine r_bipush (pc := 43) X 40 dX11_learns_43 (by decide) ?_
  refine r_icmp_gt (pc := 45) X 87 dX11_learns_45 (by decide) (fun c14 => ?_) (fun c14 => ?_)
  · rw [if_neg c14] at hf
    obtain rfl := Option.some.inj hf
    exact hk _ _ _ _
  · rw [if_pos c14] at hf
    refine r_aload_n (pc := 48) X dX11_learns_48 rfl ?_
    obtain ⟨a5, ea5, hf⟩ := ob hf
    refine r_getR (pc := 49) X dX11_learns_49 fl_X11_92 rfl ea5 ?_
    refine r_iload (pc := 52) X dX11_learns_52 rfl ?_
    obtain ⟨y6, ey6, hf⟩ := ob hf
    refine r_lald (pc := 54) X dX11_learns_54 ey6 ?_
    refine r_iload (pc := 55) X dX11_learns_55 rfl ?_
    refine r_i2l (pc := 57) X dX11_learns_57 ?_
    refine r_lcmp (pc := 58) X dX11_learns_58 ?_
    refine r_if_ne (pc := 59) X 81 dX11_learns_59 (by decide) (fun c13 => ?_) (fun c13 => ?_)
    · rw [if_neg c13] at hf
      obtain ⟨x7, ex7, hf⟩ := ob hf
      refine r_iinc2 (pc := 81) X 1 [some (.ref v0), j1, j2, j3, some (.int v4), some (.int s.1), some (.int s.2.1), some (.int x7)] dX11_learns_81 (by decide) rfl (by decide) ex7 rfl ?_
      refine r_goto (pc := 84) X 41 dX11_learns_84 (by decide) ?_
      obtain rfl := Option.some.inj hf
      exact hk _ _ _
    · rw [if_pos c13] at hf
      refine r_iload (pc := 62) X dX11_learns_62 rfl ?_
      refine r_bipush (pc := 64) X (-2) dX11_learns_64 (by decide) ?_
      refine r_icmp_ne (pc := 66) X 74 dX11_learns_66 (by decide) (fun c12 => ?_) (fun c12 => ?_)
      · rw [if_neg c12] at hf
        refine r_iload (pc := 74) X dX11_learns_74 rfl ?_
        refine r_istore (pc := 76) X [some (.ref v0), j1, j2, j3, some (.int v4), some (.int s.1), some (.int s.2.1), some (.int s.2.2)] dX11_learns_76 (by decide) rfl ?_
        obtain ⟨x8, ex8, hf⟩ := ob hf
        refine r_iinc2 (pc := 78) X 1 [some (.ref v0), j1, j2, j3, some (.int v4), some (.int s.1), some (.int x8), some (.int s.2.2)] dX11_learns_78 (by decide) rfl (by decide) ex8 rfl ?_
        obtain ⟨x9, ex9, hf⟩ := ob hf
        refine r_iinc2 (pc := 81) X 1 [some (.ref v0), j1, j2, j3, some (.int v4), some (.int s.1), some (.int x8), some (.int x9)] dX11_learns_81 (by decide) rfl (by decide) ex9 rfl ?_
        refine r_goto (pc := 84) X 41 dX11_learns_84 (by decide) ?_
        obtain rfl := Option.some.inj hf
        exact hk _ _ _
      · rw [if_pos c12] at hf
        refine r_iload (pc := 69) X dX11_learns_69 rfl ?_
        refine r_goto (pc := 71) X 76 dX11_learns_71 (by decide) ?_
        refine r_istore (pc := 76) X [some (.ref v0), j1, j2, j3, some (.int v4), some (.int s.2.2), some (.int s.2.1), some (.int s.2.2)] dX11_learns_76 (by decide) rfl ?_
        obtain ⟨x10, ex10, hf⟩ := ob hf
        refine r_iinc2 (pc := 78) X 1 [some (.ref v0), j1, j2, j3, some (.int v4), some (.int s.2.2), some (.int x10), some (.int s.2.2)] dX11_learns_78 (by decide) rfl (by decide) ex10 rfl ?_
        obtain ⟨x11, ex11, hf⟩ := ob hf
        refine r_iinc2 (pc := 81) X 1 [some (.ref v0), j1, j2, j3, some (.int v4), some (.int s.2.2), some (.int x10), some (.int x11)] dX11_learns_81 (by decide) rfl (by decide) ex11 rfl ?_
        refine r_goto (pc := 84) X 41 dX11_learns_84 (by decide) ?_
        obtain rfl := Option.some.inj hf
        exact hk _ _ _
def fn_X11_learns (h : aH) (p0 : Nat) (p1 : Int32) (p2 : Int32) (p3 : Int32) (p4 : Int32) : Option (Int32 × aH) :=
  (ck h p0 10).bind fun u1 =>
  (fn_X11_areQuarter h p0 p1 p2 p3).bind fun x2 =>
  if x2 = 0 then
    some ((-1), h)
  else
    if p4 < 0 then
      some ((-1), h)
    else
      if p4 ≤ 15 then
        (ck h p0 10).bind fun u3 =>
        (fn_X11_putTablesIntoTrace h p0 p1 p2 p3).bind fun h4 =>
        (lp (lb_X11_learns_41 h4 p0 p4) lpN ((-2), 0, 0)).bind fun o15 =>
        if o15.1 = (-2) then
          some (o15.1, h4)
        else
          (gR h4 p0 10 11).bind fun a20 =>
          (ck h4 a20 2).bind fun u21 =>
          (fn_X3_begin h4 a20).bind fun h22 =>
          (gR h22 p0 10 11).bind fun a23 =>
          (ck h22 a23 2).bind fun u24 =>
          (fn_X3_add h22 a23 (Int32.toInt64 o15.2)).bind fun h25 =>
          some (o15.1, h25)
      else
        some ((-1), h)
set_option maxRecDepth 20000 in
set_option maxHeartbeats 4000000 in
theorem ev_X11_learns {l : Launch} {g : aG} {d : Nat} (hd : 5 ≤ d) (h : aH) (p0 : Nat) (p1 : Int32) (p2 : Int32) (p3 : Int32) (p4 : Int32) (o : Int32 × aH) (hf : fn_X11_learns h p0 p1 p2 p3 p4 = some o) : EvM l g d yX11_learns cX11_learns 8 (some .int) [.ref p0, .int p1, .int p2, .int p3, .int p4] h (some (.int o.1), o.2) := by
  refine EvM.of mk_X11_learns (Nat.le_of_ble_eq_true rfl) ?_
  intro Γ hl hg hq X
  have hd1 : 1 ≤ d := by omega
  have hk : RqI Γ o := hq
  unfold fn_X11_learns at hf
  show Jd Γ (0, 0) 0 [some (.ref p0), some (.int p1), some (.int p2), some (.int p3), some (.int p4), none, none, none] [] h
  refine r_aload_n (pc := 0) X dX11_learns_0 rfl ?_
  refine r_iload_n (pc := 1) X dX11_learns_1 rfl ?_
  refine r_iload_n (pc := 2) X dX11_learns_2 rfl ?_
  refine r_iload_n (pc := 3) X dX11_learns_3 rfl ?_
  obtain ⟨u1, eu1, hf⟩ := ob hf
  obtain ⟨x2, ex2, hf⟩ := ob hf
  refine r_callVI (pc := 4) X [.int p1, .int p2, .int p3] dX11_learns_4 ml_X11_344 vo_X11_areQuarter ⟨Nat.le_refl _, Nat.le_refl _⟩ eu1 (ev_X11_areQuarter (d := d - 1) (by omega) _ _ _ _ _ _ ex2) hd1 rfl (Nat.le_of_ble_eq_true rfl) rfl ?_
  refine r_if_eq (pc := 7) X 22 dX11_learns_7 (by decide) (fun c29 => ?_) (fun c29 => ?_)
  · rw [if_pos c29] at hf
    refine r_iconst (pc := 22) X (-1) dX11_learns_22 (by decide) ?_
    obtain rfl := Option.some.inj hf
    exact r_iret (pc := 23) X dX11_learns_23 hk
  · rw [if_neg c29] at hf
    refine r_iload (pc := 10) X dX11_learns_10 rfl ?_
    refine r_if_lt (pc := 12) X 22 dX11_learns_12 (by decide) (fun c28 => ?_) (fun c28 => ?_)
    · rw [if_pos c28] at hf
      refine r_iconst (pc := 22) X (-1) dX11_learns_22 (by decide) ?_
      obtain rfl := Option.some.inj hf
      exact r_iret (pc := 23) X dX11_learns_23 hk
    · rw [if_neg c28] at hf
      refine r_iload (pc := 15) X dX11_learns_15 rfl ?_
      refine r_bipush (pc := 17) X 15 dX11_learns_17 (by decide) ?_
      refine r_icmp_le (pc := 19) X 24 dX11_learns_19 (by decide) (fun c27 => ?_) (fun c27 => ?_)
      · rw [if_pos c27] at hf
        refine r_aload_n (pc := 24) X dX11_learns_24 rfl ?_
        refine r_iload_n (pc := 25) X dX11_learns_25 rfl ?_
        refine r_iload_n (pc := 26) X dX11_learns_26 rfl ?_
        refine r_iload_n (pc := 27) X dX11_learns_27 rfl ?_
        obtain ⟨u3, eu3, hf⟩ := ob hf
        obtain ⟨h4, eh4, hf⟩ := ob hf
        refine r_callVV (pc := 28) X [.int p1, .int p2, .int p3] dX11_learns_28 ml_X11_360 vo_X11_putTablesIntoTrace ⟨Nat.le_refl _, Nat.le_refl _⟩ eu3 (ev_X11_putTablesIntoTrace (d := d - 1) (by omega) _ _ _ _ _ _ eh4) hd1 rfl (Nat.le_of_ble_eq_true rfl) rfl ?_
        refine r_bipush (pc := 31) X (-2) dX11_learns_31 (by decide) ?_
        refine r_istore (pc := 33) X [some (.ref p0), some (.int p1), some (.int p2), some (.int p3), some (.int p4), some (.int (-2)), none, none] dX11_learns_33 (by decide) rfl ?_
        refine r_iconst (pc := 35) X 0 dX11_learns_35 (by decide) ?_
        refine r_istore (pc := 36) X [some (.ref p0), some (.int p1), some (.int p2), some (.int p3), some (.int p4), some (.int (-2)), some (.int 0), none] dX11_learns_36 (by decide) rfl ?_
        refine r_iconst (pc := 38) X 0 dX11_learns_38 (by decide) ?_
        refine r_istore (pc := 39) X [some (.ref p0), some (.int p1), some (.int p2), some (.int p3), some (.int p4), some (.int (-2)), some (.int 0), some (.int 0)] dX11_learns_39 (by decide) rfl ?_
        obtain ⟨o15, eo15, hf⟩ := ob hf
        refine (lw_X11_learns_41 X hd _ _ _ lpN _ o15 eo15 ?_) _ _ _
        intro j16 j17 j18 j19
        refine r_iload (pc := 87) X dX11_learns_87 rfl ?_
        refine r_bipush (pc := 89) X (-2) dX11_learns_89 (by decide) ?_
        refine r_icmp_eq (pc := 91) X 111 dX11_learns_91 (by decide) (fun c26 => ?_) (fun c26 => ?_)
        · rw [if_pos c26] at hf
          refine r_iload (pc := 111) X dX11_learns_111 rfl ?_
          obtain rfl := Option.some.inj hf
          exact r_iret (pc := 113) X dX11_learns_113 hk
        · rw [if_neg c26] at hf
          refine r_aload_n (pc := 94) X dX11_learns_94 rfl ?_
          obtain ⟨a20, ea20, hf⟩ := ob hf
          refine r_getR (pc := 95) X dX11_learns_95 fl_X11_81 rfl ea20 ?_
          obtain ⟨u21, eu21, hf⟩ := ob hf
          obtain ⟨h22, eh22, hf⟩ := ob hf
          refine r_callVV (pc := 98) X [] dX11_learns_98 ml_X11_242 vo_X3_begin ⟨Nat.le_refl _, Nat.le_refl _⟩ eu21 (ev_X3_begin (d := d - 1) (by omega) _ _ _ eh22) hd1 rfl (Nat.le_of_ble_eq_true rfl) rfl ?_
          refine r_aload_n (pc := 101) X dX11_learns_101 rfl ?_
          obtain ⟨a23, ea23, hf⟩ := ob hf
          refine r_getR (pc := 102) X dX11_learns_102 fl_X11_81 rfl ea23 ?_
          refine r_iload (pc := 105) X dX11_learns_105 rfl ?_
          refine r_i2l (pc := 107) X dX11_learns_107 ?_
          obtain ⟨u24, eu24, hf⟩ := ob hf
          obtain ⟨h25, eh25, hf⟩ := ob hf
          refine r_callVV (pc := 108) X [.long (Int32.toInt64 o15.2)] dX11_learns_108 ml_X11_248 vo_X3_add ⟨Nat.le_refl _, Nat.le_refl _⟩ eu24 (ev_X3_add (d := d - 1) (by omega) _ _ _ _ eh25) hd1 rfl (Nat.le_of_ble_eq_true rfl) rfl ?_
          refine r_iload (pc := 111) X dX11_learns_111 rfl ?_
          obtain rfl := Option.some.inj hf
          exact r_iret (pc := 113) X dX11_learns_113 hk
      · rw [if_neg c27] at hf
        refine r_iconst (pc := 22) X (-1) dX11_learns_22 (by decide) ?_
        obtain rfl := Option.some.inj hf
        exact r_iret (pc := 23) X dX11_learns_23 hk

theorem dX11_runWithLevel_0 : decode cX11_runWithLevel 0 = .ok (.aload_n 0, 1) := by decide +kernel
theorem dX11_runWithLevel_1 : decode cX11_runWithLevel 1 = .ok (.invokevirtual 309, 3) := by decide +kernel
theorem dX11_runWithLevel_4 : decode cX11_runWithLevel 4 = .ok (.aload_n 0, 1) := by decide +kernel
theorem dX11_runWithLevel_5 : decode cX11_runWithLevel 5 = .ok (.getfield 68, 3) := by decide +kernel
theorem dX11_runWithLevel_8 : decode cX11_runWithLevel 8 = .ok (.getfield 154, 3) := by decide +kernel
theorem dX11_runWithLevel_11 : decode cX11_runWithLevel 11 = .ok (.iload_n 1, 1) := by decide +kernel
theorem dX11_runWithLevel_12 : decode cX11_runWithLevel 12 = .ok (.iload_n 2, 1) := by decide +kernel
theorem dX11_runWithLevel_13 : decode cX11_runWithLevel 13 = .ok (.iastore, 1) := by decide +kernel
theorem dX11_runWithLevel_14 : decode cX11_runWithLevel 14 = .ok (.aload_n 0, 1) := by decide +kernel
theorem dX11_runWithLevel_15 : decode cX11_runWithLevel 15 = .ok (.getfield 19, 3) := by decide +kernel
theorem dX11_runWithLevel_18 : decode cX11_runWithLevel 18 = .ok (.aload_n 0, 1) := by decide +kernel
theorem dX11_runWithLevel_19 : decode cX11_runWithLevel 19 = .ok (.getfield 68, 3) := by decide +kernel
theorem dX11_runWithLevel_22 : decode cX11_runWithLevel 22 = .ok (.aload_n 0, 1) := by decide +kernel
theorem dX11_runWithLevel_23 : decode cX11_runWithLevel 23 = .ok (.getfield 42, 3) := by decide +kernel
theorem dX11_runWithLevel_26 : decode cX11_runWithLevel 26 = .ok (.iload_n 3, 1) := by decide +kernel
theorem dX11_runWithLevel_27 : decode cX11_runWithLevel 27 = .ok (.invokevirtual 312, 3) := by decide +kernel
theorem dX11_runWithLevel_30 : decode cX11_runWithLevel 30 = .ok (.return_, 1) := by decide +kernel
def fn_X11_runWithLevel (h : aH) (p0 : Nat) (p1 : Int32) (p2 : Int32) (p3 : Int32) : Option (aH) :=
  (ck h p0 10).bind fun u1 =>
  (fn_X11_startTrial h p0).bind fun h2 =>
  (gR h2 p0 10 9).bind fun a3 =>
  (gR h2 a3 6 0).bind fun a4 =>
  (wI h2 a4 p1 p2).bind fun h5 =>
  (gR h5 p0 10 1).bind fun a6 =>
  (gR h5 p0 10 9).bind fun a7 =>
  (gR h5 p0 10 4).bind fun a8 =>
  (ck h5 a6 0).bind fun u9 =>
  (fn_X0_run h5 a6 a7 a8 p3).bind fun h10 =>
  some h10
set_option maxRecDepth 20000 in
set_option maxHeartbeats 4000000 in
theorem ev_X11_runWithLevel {l : Launch} {g : aG} {d : Nat} (hd : 5 ≤ d) (h : aH) (p0 : Nat) (p1 : Int32) (p2 : Int32) (p3 : Int32) (o : aH) (hf : fn_X11_runWithLevel h p0 p1 p2 p3 = some o) : EvM l g d yX11_runWithLevel cX11_runWithLevel 4 none [.ref p0, .int p1, .int p2, .int p3] h (none, o) := by
  refine EvM.of mk_X11_runWithLevel (Nat.le_of_ble_eq_true rfl) ?_
  intro Γ hl hg hq X
  have hd1 : 1 ≤ d := by omega
  have hk : RqV Γ o := hq
  unfold fn_X11_runWithLevel at hf
  show Jd Γ (0, 0) 0 [some (.ref p0), some (.int p1), some (.int p2), some (.int p3)] [] h
  refine r_aload_n (pc := 0) X dX11_runWithLevel_0 rfl ?_
  obtain ⟨u1, eu1, hf⟩ := ob hf
  obtain ⟨h2, eh2, hf⟩ := ob hf
  refine r_callVV (pc := 1) X [] dX11_runWithLevel_1 ml_X11_309 vo_X11_startTrial ⟨Nat.le_refl _, Nat.le_refl _⟩ eu1 (ev_X11_startTrial (d := d - 1) (by omega) _ _ _ eh2) hd1 rfl (Nat.le_of_ble_eq_true rfl) rfl ?_
  refine r_aload_n (pc := 4) X dX11_runWithLevel_4 rfl ?_
  obtain ⟨a3, ea3, hf⟩ := ob hf
  refine r_getR (pc := 5) X dX11_runWithLevel_5 fl_X11_68 rfl ea3 ?_
  obtain ⟨a4, ea4, hf⟩ := ob hf
  refine r_getR (pc := 8) X dX11_runWithLevel_8 fl_X11_154 rfl ea4 ?_
  refine r_iload_n (pc := 11) X dX11_runWithLevel_11 rfl ?_
  refine r_iload_n (pc := 12) X dX11_runWithLevel_12 rfl ?_
  obtain ⟨h5, eh5, hf⟩ := ob hf
  refine r_iast (pc := 13) X dX11_runWithLevel_13 eh5 ?_
  refine r_aload_n (pc := 14) X dX11_runWithLevel_14 rfl ?_
  obtain ⟨a6, ea6, hf⟩ := ob hf
  refine r_getR (pc := 15) X dX11_runWithLevel_15 fl_X11_19 rfl ea6 ?_
  refine r_aload_n (pc := 18) X dX11_runWithLevel_18 rfl ?_
  obtain ⟨a7, ea7, hf⟩ := ob hf
  refine r_getR (pc := 19) X dX11_runWithLevel_19 fl_X11_68 rfl ea7 ?_
  refine r_aload_n (pc := 22) X dX11_runWithLevel_22 rfl ?_
  obtain ⟨a8, ea8, hf⟩ := ob hf
  refine r_getR (pc := 23) X dX11_runWithLevel_23 fl_X11_42 rfl ea8 ?_
  refine r_iload_n (pc := 26) X dX11_runWithLevel_26 rfl ?_
  obtain ⟨u9, eu9, hf⟩ := ob hf
  obtain ⟨h10, eh10, hf⟩ := ob hf
  refine r_callVV (pc := 27) X [.ref a7, .ref a8, .int p3] dX11_runWithLevel_27 ml_X11_312 vo_X0_run ⟨Nat.le_refl _, Nat.le_refl _⟩ eu9 (ev_X0_run (d := d - 1) (by omega) _ _ _ _ _ _ eh10) hd1 rfl (Nat.le_of_ble_eq_true rfl) rfl ?_
  obtain rfl := Option.some.inj hf
  exact r_vret (pc := 30) X dX11_runWithLevel_30 hk

theorem dX11_words_0 : decode cX11_words 0 = .ok (.aload_n 0, 1) := by decide +kernel
theorem dX11_words_1 : decode cX11_words 1 = .ok (.getfield 19, 3) := by decide +kernel
theorem dX11_words_4 : decode cX11_words 4 = .ok (.iload_n 1, 1) := by decide +kernel
theorem dX11_words_5 : decode cX11_words 5 = .ok (.invokevirtual 172, 3) := by decide +kernel
theorem dX11_words_8 : decode cX11_words 8 = .ok (.ifCond .eq 29, 3) := by decide +kernel
theorem dX11_words_11 : decode cX11_words 11 = .ok (.aload_n 0, 1) := by decide +kernel
theorem dX11_words_12 : decode cX11_words 12 = .ok (.getfield 19, 3) := by decide +kernel
theorem dX11_words_15 : decode cX11_words 15 = .ok (.iload_n 2, 1) := by decide +kernel
theorem dX11_words_16 : decode cX11_words 16 = .ok (.invokevirtual 172, 3) := by decide +kernel
theorem dX11_words_19 : decode cX11_words 19 = .ok (.ifCond .eq 18, 3) := by decide +kernel
theorem dX11_words_22 : decode cX11_words 22 = .ok (.iload_n 1, 1) := by decide +kernel
theorem dX11_words_23 : decode cX11_words 23 = .ok (.iload_n 2, 1) := by decide +kernel
theorem dX11_words_24 : decode cX11_words 24 = .ok (.if_icmp .eq 13, 3) := by decide +kernel
theorem dX11_words_27 : decode cX11_words 27 = .ok (.iload_n 3, 1) := by decide +kernel
theorem dX11_words_28 : decode cX11_words 28 = .ok (.ifCond .lt 9, 3) := by decide +kernel
theorem dX11_words_31 : decode cX11_words 31 = .ok (.iload_n 3, 1) := by decide +kernel
theorem dX11_words_32 : decode cX11_words 32 = .ok (.bipush 40, 2) := by decide +kernel
theorem dX11_words_34 : decode cX11_words 34 = .ok (.if_icmp .le 5, 3) := by decide +kernel
theorem dX11_words_37 : decode cX11_words 37 = .ok (.iconst (-1), 1) := by decide +kernel
theorem dX11_words_38 : decode cX11_words 38 = .ok (.ireturn, 1) := by decide +kernel
theorem dX11_words_39 : decode cX11_words 39 = .ok (.aload_n 0, 1) := by decide +kernel
theorem dX11_words_40 : decode cX11_words 40 = .ok (.getfield 81, 3) := by decide +kernel
theorem dX11_words_43 : decode cX11_words 43 = .ok (.invokevirtual 242, 3) := by decide +kernel
theorem dX11_words_46 : decode cX11_words 46 = .ok (.iconst 0, 1) := by decide +kernel
theorem dX11_words_47 : decode cX11_words 47 = .ok (.istore 4, 2) := by decide +kernel
theorem dX11_words_49 : decode cX11_words 49 = .ok (.iconst 0, 1) := by decide +kernel
theorem dX11_words_50 : decode cX11_words 50 = .ok (.istore 5, 2) := by decide +kernel
theorem dX11_words_52 : decode cX11_words 52 = .ok (.iload 5, 2) := by decide +kernel
theorem dX11_words_54 : decode cX11_words 54 = .ok (.bipush 9, 2) := by decide +kernel
theorem dX11_words_56 : decode cX11_words 56 = .ok (.if_icmp .gt 50, 3) := by decide +kernel
theorem dX11_words_59 : decode cX11_words 59 = .ok (.aload_n 0, 1) := by decide +kernel
theorem dX11_words_60 : decode cX11_words 60 = .ok (.iload_n 1, 1) := by decide +kernel
theorem dX11_words_61 : decode cX11_words 61 = .ok (.iload 5, 2) := by decide +kernel
theorem dX11_words_63 : decode cX11_words 63 = .ok (.iload_n 3, 1) := by decide +kernel
theorem dX11_words_64 : decode cX11_words 64 = .ok (.invokevirtual 363, 3) := by decide +kernel
theorem dX11_words_67 : decode cX11_words 67 = .ok (.iload 4, 2) := by decide +kernel
theorem dX11_words_69 : decode cX11_words 69 = .ok (.iconst 1, 1) := by decide +kernel
theorem dX11_words_70 : decode cX11_words 70 = .ok (.aload_n 0, 1) := by decide +kernel
theorem dX11_words_71 : decode cX11_words 71 = .ok (.getfield 68, 3) := by decide +kernel
theorem dX11_words_74 : decode cX11_words 74 = .ok (.getfield 154, 3) := by decide +kernel
theorem dX11_words_77 : decode cX11_words 77 = .ok (.iload_n 2, 1) := by decide +kernel
theorem dX11_words_78 : decode cX11_words 78 = .ok (.iaload, 1) := by decide +kernel
theorem dX11_words_79 : decode cX11_words 79 = .ok (.ishl, 1) := by decide +kernel
theorem dX11_words_80 : decode cX11_words 80 = .ok (.ior, 1) := by decide +kernel
theorem dX11_words_81 : decode cX11_words 81 = .ok (.istore 4, 2) := by decide +kernel
theorem dX11_words_83 : decode cX11_words 83 = .ok (.aload_n 0, 1) := by decide +kernel
theorem dX11_words_84 : decode cX11_words 84 = .ok (.getfield 81, 3) := by decide +kernel
theorem dX11_words_87 : decode cX11_words 87 = .ok (.aload_n 0, 1) := by decide +kernel
theorem dX11_words_88 : decode cX11_words 88 = .ok (.getfield 68, 3) := by decide +kernel
theorem dX11_words_91 : decode cX11_words 91 = .ok (.getfield 154, 3) := by decide +kernel
theorem dX11_words_94 : decode cX11_words 94 = .ok (.iload_n 2, 1) := by decide +kernel
theorem dX11_words_95 : decode cX11_words 95 = .ok (.iaload, 1) := by decide +kernel
theorem dX11_words_96 : decode cX11_words 96 = .ok (.i2l, 1) := by decide +kernel
theorem dX11_words_97 : decode cX11_words 97 = .ok (.invokevirtual 248, 3) := by decide +kernel
theorem dX11_words_100 : decode cX11_words 100 = .ok (.iinc 5 1, 3) := by decide +kernel
theorem dX11_words_103 : decode cX11_words 103 = .ok (.goto (-51), 3) := by decide +kernel
theorem dX11_words_106 : decode cX11_words 106 = .ok (.iload 4, 2) := by decide +kernel
theorem dX11_words_108 : decode cX11_words 108 = .ok (.invokestatic 366, 3) := by decide +kernel
theorem dX11_words_111 : decode cX11_words 111 = .ok (.ireturn, 1) := by decide +kernel
def lb_X11_words_52 (v0 : Nat) (v1 : Int32) (v2 : Int32) (v3 : Int32) (s : Int32 × Int32 × aH) : Option ((Int32 × Int32 × aH) ⊕ ((Int32 × aH))) :=
  if s.2.1 ≤ 9 then
    (ck s.2.2 v0 10).bind fun u10 =>
    (fn_X11_runWithLevel s.2.2 v0 v1 s.2.1 v3).bind fun h11 =>
    (gR h11 v0 10 9).bind fun a12 =>
    (gR h11 a12 6 0).bind fun a13 =>
    (aI h11 a13 14 v2).bind fun x14 =>
    (some (s.1 ||| (1 <<< (x14 &&& 31)))).bind fun x15 =>
    (gR h11 v0 10 11).bind fun a16 =>
    (gR h11 v0 10 9).bind fun a17 =>
    (gR h11 a17 6 0).bind fun a18 =>
    (aI h11 a18 14 v2).bind fun x19 =>
    (ck h11 a16 2).bind fun u20 =>
    (fn_X3_add h11 a16 (Int32.toInt64 x19)).bind fun h21 =>
    (some (s.2.1 + 1)).bind fun x22 =>
    some (.inl (x15, x22, h21))
  else
    some (.inr (s.1, s.2.2))
def hd_X11_words_52 (Γ : aC) (v0 : Nat) (v1 : Int32) (v2 : Int32) (v3 : Int32) (s : Int32 × Int32 × aH) : Prop := Jd Γ (0, 0) 52 [some (.ref v0), some (.int v1), some (.int v2), some (.int v3), some (.int s.1), some (.int s.2.1)] [] s.2.2
def ex_X11_words_52 (Γ : aC) (v0 : Nat) (v1 : Int32) (v2 : Int32) (v3 : Int32) (r : (Int32 × aH)) : Prop := (fun r => ∀ (j5 : Option Value), Jd Γ (0, 0) 106 [some (.ref v0), some (.int v1), some (.int v2), some (.int v3), some (.int r.1), j5] [] r.2) r
set_option maxRecDepth 20000 in
set_option maxHeartbeats 4000000 in
theorem lw_X11_words_52 {Γ : aC} {d : Nat} (X : Cx Γ RX11 cX11_words 6 (some .int) (d, 0, 0)) (hd : 6 ≤ d) (v0 : Nat) (v1 : Int32) (v2 : Int32) (v3 : Int32) : ∀ n s o, lp (lb_X11_words_52 v0 v1 v2 v3) n s = some o → ex_X11_words_52 Γ v0 v1 v2 v3 o → hd_X11_words_52 Γ v0 v1 v2 v3 s := by
  have hd1 : 1 ≤ d := by omega
  refine J_lp _ _ _ ?_
  intro s o hf hk
  unfold lb_X11_words_52 at hf
  refine r_iload (pc := 52) X dX11_words_52 rfl ?_
  refine r_bipush (pc := 54) X 9 dX11_words_54 (by decide) ?_
  refine r_icmp_gt (pc := 56) X 106 dX11_words_56 (by decide) (fun c23 => ?_) (fun c23 => ?_)
  · rw [if_neg c23] at hf
    obtain rfl := Option.some.inj hf
    exact hk _
  · rw [if_pos c23] at hf
    refine r_aload_n (pc := 59) X dX11_words_59 rfl ?_
    refine r_iload_n (pc := 60) X dX11_words_60 rfl ?_
    refine r_iload (pc := 61) X dX11_words_61 rfl ?_
    refine r_iload_n (pc := 63) X dX11_words_63 rfl ?_
    obtain ⟨u10, eu10, hf⟩ := ob hf
    obtain ⟨h11, eh11, hf⟩ := ob hf
    refine r_callVV (pc := 64) X [.int v1, .int s.2.1, .int v3] dX11_words_64 ml_X11_363 vo_X11_runWithLevel ⟨Nat.le_refl _, Nat.le_refl _⟩ eu10 (ev_X11_runWithLevel (d := d - 1) (by omega) _ _ _ _ _ _ eh11) hd1 rfl (Nat.le_of_ble_eq_true rfl) rfl ?_
    refine r_iload (pc := 67) X dX11_words_67 rfl ?_
    refine r_iconst (pc := 69) X 1 dX11_words_69 (by decide) ?_
    refine r_aload_n (pc := 70) X dX11_words_70 rfl ?_
    obtain ⟨a12, ea12, hf⟩ := ob hf
    refine r_getR (pc := 71) X dX11_words_71 fl_X11_68 rfl ea12 ?_
    obtain ⟨a13, ea13, hf⟩ := ob hf
    refine r_getR (pc := 74) X dX11_words_74 fl_X11_154 rfl ea13 ?_
    refine r_iload_n (pc := 77) X dX11_words_77 rfl ?_
    obtain ⟨x14, ex14, hf⟩ := ob hf
    refine r_iald (pc := 78) X dX11_words_78 ex14 ?_
    refine r_ishl (pc := 79) X dX11_words_79 ?_
    refine r_ior (pc := 80) X dX11_words_80 ?_
    obtain ⟨x15, ex15, hf⟩ := ob hf
    refine r_nmI ex15 ?_
    refine r_istore (pc := 81) X [some (.ref v0), some (.int v1), some (.int v2), some (.int v3), some (.int x15), some (.int s.2.1)] dX11_words_81 (by decide) rfl ?_
    refine r_aload_n (pc := 83) X dX11_words_83 rfl ?_
    obtain ⟨a16, ea16, hf⟩ := ob hf
    refine r_getR (pc := 84) X dX11_words_84 fl_X11_81 rfl ea16 ?_
    refine r_aload_n (pc := 87) X dX11_words_87 rfl ?_
    obtain ⟨a17, ea17, hf⟩ := ob hf
    refine r_getR (pc := 88) X dX11_words_88 fl_X11_68 rfl ea17 ?_
    obtain ⟨a18, ea18, hf⟩ := ob hf
    refine r_getR (pc := 91) X dX11_words_91 fl_X11_154 rfl ea18 ?_
    refine r_iload_n (pc := 94) X dX11_words_94 rfl ?_
    obtain ⟨x19, ex19, hf⟩ := ob hf
    refine r_iald (pc := 95) X dX11_words_95 ex19 ?_
    refine r_i2l (pc := 96) X dX11_words_96 ?_
    obtain ⟨u20, eu20, hf⟩ := ob hf
    obtain ⟨h21, eh21, hf⟩ := ob hf
    refine r_callVV (pc := 97) X [.long (Int32.toInt64 x19)] dX11_words_97 ml_X11_248 vo_X3_add ⟨Nat.le_refl _, Nat.le_refl _⟩ eu20 (ev_X3_add (d := d - 1) (by omega) _ _ _ _ eh21) hd1 rfl (Nat.le_of_ble_eq_true rfl) rfl ?_
    obtain ⟨x22, ex22, hf⟩ := ob hf
    refine r_iinc2 (pc := 100) X 1 [some (.ref v0), some (.int v1), some (.int v2), some (.int v3), some (.int x15), some (.int x22)] dX11_words_100 (by decide) rfl (by decide) ex22 rfl ?_
    refine r_goto (pc := 103) X 52 dX11_words_103 (by decide) ?_
    obtain rfl := Option.some.inj hf
    exact hk
def fn_X11_words (h : aH) (p0 : Nat) (p1 : Int32) (p2 : Int32) (p3 : Int32) : Option (Int32 × aH) :=
  (gR h p0 10 1).bind fun a1 =>
  (ck h a1 0).bind fun u2 =>
  (fn_X0_hasBasin h a1 p1).bind fun x3 =>
  if x3 = 0 then
    some ((-1), h)
  else
    (gR h p0 10 1).bind fun a4 =>
    (ck h a4 0).bind fun u5 =>
    (fn_X0_hasBasin h a4 p2).bind fun x6 =>
    if x6 = 0 then
      some ((-1), h)
    else
      if p1 = p2 then
        some ((-1), h)
      else
        if p3 < 0 then
          some ((-1), h)
        else
          if p3 ≤ 40 then
            (gR h p0 10 11).bind fun a7 =>
            (ck h a7 2).bind fun u8 =>
            (fn_X3_begin h a7).bind fun h9 =>
            (lp (lb_X11_words_52 p0 p1 p2 p3) lpN (0, 0, h9)).bind fun o24 =>
            (fn_J6_bitCount_0f7a4 o24.2 o24.1).bind fun x26 =>
            some (x26, o24.2)
          else
            some ((-1), h)
set_option maxRecDepth 20000 in
set_option maxHeartbeats 4000000 in
theorem ev_X11_words {l : Launch} {g : aG} {d : Nat} (hd : 6 ≤ d) (h : aH) (p0 : Nat) (p1 : Int32) (p2 : Int32) (p3 : Int32) (o : Int32 × aH) (hf : fn_X11_words h p0 p1 p2 p3 = some o) : EvM l g d yX11_words cX11_words 6 (some .int) [.ref p0, .int p1, .int p2, .int p3] h (some (.int o.1), o.2) := by
  refine EvM.of mk_X11_words (Nat.le_of_ble_eq_true rfl) ?_
  intro Γ hl hg hq X
  have hd1 : 1 ≤ d := by omega
  have hk : RqI Γ o := hq
  unfold fn_X11_words at hf
  show Jd Γ (0, 0) 0 [some (.ref p0), some (.int p1), some (.int p2), some (.int p3), none, none] [] h
  refine r_aload_n (pc := 0) X dX11_words_0 rfl ?_
  obtain ⟨a1, ea1, hf⟩ := ob hf
  refine r_getR (pc := 1) X dX11_words_1 fl_X11_19 rfl ea1 ?_
  refine r_iload_n (pc := 4) X dX11_words_4 rfl ?_
  obtain ⟨u2, eu2, hf⟩ := ob hf
  obtain ⟨x3, ex3, hf⟩ := ob hf
  refine r_callVI (pc := 5) X [.int p1] dX11_words_5 ml_X11_172 vo_X0_hasBasin ⟨Nat.le_refl _, Nat.le_refl _⟩ eu2 (ev_X0_hasBasin (d := d - 1) (by omega) _ _ _ _ ex3) hd1 rfl (Nat.le_of_ble_eq_true rfl) rfl ?_
  refine r_if_eq (pc := 8) X 37 dX11_words_8 (by decide) (fun c31 => ?_) (fun c31 => ?_)
  · rw [if_pos c31] at hf
    refine r_iconst (pc := 37) X (-1) dX11_words_37 (by decide) ?_
    obtain rfl := Option.some.inj hf
    exact r_iret (pc := 38) X dX11_words_38 hk
  · rw [if_neg c31] at hf
    refine r_aload_n (pc := 11) X dX11_words_11 rfl ?_
    obtain ⟨a4, ea4, hf⟩ := ob hf
    refine r_getR (pc := 12) X dX11_words_12 fl_X11_19 rfl ea4 ?_
    refine r_iload_n (pc := 15) X dX11_words_15 rfl ?_
    obtain ⟨u5, eu5, hf⟩ := ob hf
    obtain ⟨x6, ex6, hf⟩ := ob hf
    refine r_callVI (pc := 16) X [.int p2] dX11_words_16 ml_X11_172 vo_X0_hasBasin ⟨Nat.le_refl _, Nat.le_refl _⟩ eu5 (ev_X0_hasBasin (d := d - 1) (by omega) _ _ _ _ ex6) hd1 rfl (Nat.le_of_ble_eq_true rfl) rfl ?_
    refine r_if_eq (pc := 19) X 37 dX11_words_19 (by decide) (fun c30 => ?_) (fun c30 => ?_)
    · rw [if_pos c30] at hf
      refine r_iconst (pc := 37) X (-1) dX11_words_37 (by decide) ?_
      obtain rfl := Option.some.inj hf
      exact r_iret (pc := 38) X dX11_words_38 hk
    · rw [if_neg c30] at hf
      refine r_iload_n (pc := 22) X dX11_words_22 rfl ?_
      refine r_iload_n (pc := 23) X dX11_words_23 rfl ?_
      refine r_icmp_eq (pc := 24) X 37 dX11_words_24 (by decide) (fun c29 => ?_) (fun c29 => ?_)
      · rw [if_pos c29] at hf
        refine r_iconst (pc := 37) X (-1) dX11_words_37 (by decide) ?_
        obtain rfl := Option.some.inj hf
        exact r_iret (pc := 38) X dX11_words_38 hk
      · rw [if_neg c29] at hf
        refine r_iload_n (pc := 27) X dX11_words_27 rfl ?_
        refine r_if_lt (pc := 28) X 37 dX11_words_28 (by decide) (fun c28 => ?_) (fun c28 => ?_)
        · rw [if_pos c28] at hf
          refine r_iconst (pc := 37) X (-1) dX11_words_37 (by decide) ?_
          obtain rfl := Option.some.inj hf
          exact r_iret (pc := 38) X dX11_words_38 hk
        · rw [if_neg c28] at hf
          refine r_iload_n (pc := 31) X dX11_words_31 rfl ?_
          refine r_bipush (pc := 32) X 40 dX11_words_32 (by decide) ?_
          refine r_icmp_le (pc := 34) X 39 dX11_words_34 (by decide) (fun c27 => ?_) (fun c27 => ?_)
          · rw [if_pos c27] at hf
            refine r_aload_n (pc := 39) X dX11_words_39 rfl ?_
            obtain ⟨a7, ea7, hf⟩ := ob hf
            refine r_getR (pc := 40) X dX11_words_40 fl_X11_81 rfl ea7 ?_
            obtain ⟨u8, eu8, hf⟩ := ob hf
            obtain ⟨h9, eh9, hf⟩ := ob hf
            refine r_callVV (pc := 43) X [] dX11_words_43 ml_X11_242 vo_X3_begin ⟨Nat.le_refl _, Nat.le_refl _⟩ eu8 (ev_X3_begin (d := d - 1) (by omega) _ _ _ eh9) hd1 rfl (Nat.le_of_ble_eq_true rfl) rfl ?_
            refine r_iconst (pc := 46) X 0 dX11_words_46 (by decide) ?_
            refine r_istore (pc := 47) X [some (.ref p0), some (.int p1), some (.int p2), some (.int p3), some (.int 0), none] dX11_words_47 (by decide) rfl ?_
            refine r_iconst (pc := 49) X 0 dX11_words_49 (by decide) ?_
            refine r_istore (pc := 50) X [some (.ref p0), some (.int p1), some (.int p2), some (.int p3), some (.int 0), some (.int 0)] dX11_words_50 (by decide) rfl ?_
            obtain ⟨o24, eo24, hf⟩ := ob hf
            refine (lw_X11_words_52 X hd _ _ _ _ lpN _ o24 eo24 ?_)
            intro j25
            refine r_iload (pc := 106) X dX11_words_106 rfl ?_
            obtain ⟨x26, ex26, hf⟩ := ob hf
            refine r_callSI (pc := 108) X [.int o24.1] dX11_words_108 ml_X11_366 so_J6_bitCount_0f7a4 ⟨Nat.le_refl _, Nat.le_refl _⟩ (ev_J6_bitCount_0f7a4 (d := d - 1) (by omega) _ _ _ ex26) hd1 rfl (Nat.le_of_ble_eq_true rfl) rfl ?_
            obtain rfl := Option.some.inj hf
            exact r_iret (pc := 111) X dX11_words_111 hk
          · rw [if_neg c27] at hf
            refine r_iconst (pc := 37) X (-1) dX11_words_37 (by decide) ?_
            obtain rfl := Option.some.inj hf
            exact r_iret (pc := 38) X dX11_words_38 hk

theorem dX11_hears_0 : decode cX11_hears 0 = .ok (.aload_n 0, 1) := by decide +kernel
theorem dX11_hears_1 : decode cX11_hears 1 = .ok (.getfield 19, 3) := by decide +kernel
theorem dX11_hears_4 : decode cX11_hears 4 = .ok (.iload_n 1, 1) := by decide +kernel
theorem dX11_hears_5 : decode cX11_hears 5 = .ok (.invokevirtual 172, 3) := by decide +kernel
theorem dX11_hears_8 : decode cX11_hears 8 = .ok (.ifCond .eq 13, 3) := by decide +kernel
theorem dX11_hears_11 : decode cX11_hears 11 = .ok (.iload_n 2, 1) := by decide +kernel
theorem dX11_hears_12 : decode cX11_hears 12 = .ok (.ifCond .lt 9, 3) := by decide +kernel
theorem dX11_hears_15 : decode cX11_hears 15 = .ok (.iload_n 2, 1) := by decide +kernel
theorem dX11_hears_16 : decode cX11_hears 16 = .ok (.bipush 40, 2) := by decide +kernel
theorem dX11_hears_18 : decode cX11_hears 18 = .ok (.if_icmp .le 5, 3) := by decide +kernel
theorem dX11_hears_21 : decode cX11_hears 21 = .ok (.iconst (-1), 1) := by decide +kernel
theorem dX11_hears_22 : decode cX11_hears 22 = .ok (.ireturn, 1) := by decide +kernel
theorem dX11_hears_23 : decode cX11_hears 23 = .ok (.aload_n 0, 1) := by decide +kernel
theorem dX11_hears_24 : decode cX11_hears 24 = .ok (.getfield 19, 3) := by decide +kernel
theorem dX11_hears_27 : decode cX11_hears 27 = .ok (.getfield 113, 3) := by decide +kernel
theorem dX11_hears_30 : decode cX11_hears 30 = .ok (.iconst 1, 1) := by decide +kernel
theorem dX11_hears_31 : decode cX11_hears 31 = .ok (.if_icmp .ne 6, 3) := by decide +kernel
theorem dX11_hears_34 : decode cX11_hears 34 = .ok (.bipush (-2), 2) := by decide +kernel
theorem dX11_hears_36 : decode cX11_hears 36 = .ok (.ireturn, 1) := by decide +kernel
theorem dX11_hears_37 : decode cX11_hears 37 = .ok (.aload_n 0, 1) := by decide +kernel
theorem dX11_hears_38 : decode cX11_hears 38 = .ok (.invokevirtual 357, 3) := by decide +kernel
theorem dX11_hears_41 : decode cX11_hears 41 = .ok (.iconst 0, 1) := by decide +kernel
theorem dX11_hears_42 : decode cX11_hears 42 = .ok (.istore_n 3, 1) := by decide +kernel
theorem dX11_hears_43 : decode cX11_hears 43 = .ok (.iload_n 3, 1) := by decide +kernel
theorem dX11_hears_44 : decode cX11_hears 44 = .ok (.bipush 9, 2) := by decide +kernel
theorem dX11_hears_46 : decode cX11_hears 46 = .ok (.if_icmp .gt 59, 3) := by decide +kernel
theorem dX11_hears_49 : decode cX11_hears 49 = .ok (.aload_n 0, 1) := by decide +kernel
theorem dX11_hears_50 : decode cX11_hears 50 = .ok (.iload_n 1, 1) := by decide +kernel
theorem dX11_hears_51 : decode cX11_hears 51 = .ok (.iload_n 3, 1) := by decide +kernel
theorem dX11_hears_52 : decode cX11_hears 52 = .ok (.iload_n 2, 1) := by decide +kernel
theorem dX11_hears_53 : decode cX11_hears 53 = .ok (.invokevirtual 363, 3) := by decide +kernel
theorem dX11_hears_56 : decode cX11_hears 56 = .ok (.iconst 0, 1) := by decide +kernel
theorem dX11_hears_57 : decode cX11_hears 57 = .ok (.istore 4, 2) := by decide +kernel
theorem dX11_hears_59 : decode cX11_hears 59 = .ok (.iload 4, 2) := by decide +kernel
theorem dX11_hears_61 : decode cX11_hears 61 = .ok (.aload_n 0, 1) := by decide +kernel
theorem dX11_hears_62 : decode cX11_hears 62 = .ok (.getfield 19, 3) := by decide +kernel
theorem dX11_hears_65 : decode cX11_hears 65 = .ok (.getfield 113, 3) := by decide +kernel
theorem dX11_hears_68 : decode cX11_hears 68 = .ok (.if_icmp .ge 31, 3) := by decide +kernel
theorem dX11_hears_71 : decode cX11_hears 71 = .ok (.aload_n 0, 1) := by decide +kernel
theorem dX11_hears_72 : decode cX11_hears 72 = .ok (.getfield 96, 3) := by decide +kernel
theorem dX11_hears_75 : decode cX11_hears 75 = .ok (.iload 4, 2) := by decide +kernel
theorem dX11_hears_77 : decode cX11_hears 77 = .ok (.dup2, 1) := by decide +kernel
theorem dX11_hears_78 : decode cX11_hears 78 = .ok (.iaload, 1) := by decide +kernel
theorem dX11_hears_79 : decode cX11_hears 79 = .ok (.iconst 1, 1) := by decide +kernel
theorem dX11_hears_80 : decode cX11_hears 80 = .ok (.aload_n 0, 1) := by decide +kernel
theorem dX11_hears_81 : decode cX11_hears 81 = .ok (.getfield 68, 3) := by decide +kernel
theorem dX11_hears_84 : decode cX11_hears 84 = .ok (.getfield 154, 3) := by decide +kernel
theorem dX11_hears_87 : decode cX11_hears 87 = .ok (.iload 4, 2) := by decide +kernel
theorem dX11_hears_89 : decode cX11_hears 89 = .ok (.iaload, 1) := by decide +kernel
theorem dX11_hears_90 : decode cX11_hears 90 = .ok (.ishl, 1) := by decide +kernel
theorem dX11_hears_91 : decode cX11_hears 91 = .ok (.ior, 1) := by decide +kernel
theorem dX11_hears_92 : decode cX11_hears 92 = .ok (.iastore, 1) := by decide +kernel
theorem dX11_hears_93 : decode cX11_hears 93 = .ok (.iinc 4 1, 3) := by decide +kernel
theorem dX11_hears_96 : decode cX11_hears 96 = .ok (.goto (-37), 3) := by decide +kernel
theorem dX11_hears_99 : decode cX11_hears 99 = .ok (.iinc 3 1, 3) := by decide +kernel
theorem dX11_hears_102 : decode cX11_hears 102 = .ok (.goto (-59), 3) := by decide +kernel
theorem dX11_hears_105 : decode cX11_hears 105 = .ok (.iload_n 1, 1) := by decide +kernel
theorem dX11_hears_106 : decode cX11_hears 106 = .ok (.ifCond .ne 7, 3) := by decide +kernel
theorem dX11_hears_109 : decode cX11_hears 109 = .ok (.iconst 1, 1) := by decide +kernel
theorem dX11_hears_110 : decode cX11_hears 110 = .ok (.goto 4, 3) := by decide +kernel
theorem dX11_hears_113 : decode cX11_hears 113 = .ok (.iconst 0, 1) := by decide +kernel
theorem dX11_hears_114 : decode cX11_hears 114 = .ok (.istore_n 3, 1) := by decide +kernel
theorem dX11_hears_115 : decode cX11_hears 115 = .ok (.iload_n 3, 1) := by decide +kernel
theorem dX11_hears_116 : decode cX11_hears 116 = .ok (.iconst 1, 1) := by decide +kernel
theorem dX11_hears_117 : decode cX11_hears 117 = .ok (.iadd, 1) := by decide +kernel
theorem dX11_hears_118 : decode cX11_hears 118 = .ok (.istore 4, 2) := by decide +kernel
theorem dX11_hears_120 : decode cX11_hears 120 = .ok (.iload 4, 2) := by decide +kernel
theorem dX11_hears_122 : decode cX11_hears 122 = .ok (.aload_n 0, 1) := by decide +kernel
theorem dX11_hears_123 : decode cX11_hears 123 = .ok (.getfield 19, 3) := by decide +kernel
theorem dX11_hears_126 : decode cX11_hears 126 = .ok (.getfield 113, 3) := by decide +kernel
theorem dX11_hears_129 : decode cX11_hears 129 = .ok (.if_icmp .ge 56, 3) := by decide +kernel
theorem dX11_hears_132 : decode cX11_hears 132 = .ok (.aload_n 0, 1) := by decide +kernel
theorem dX11_hears_133 : decode cX11_hears 133 = .ok (.getfield 96, 3) := by decide +kernel
theorem dX11_hears_136 : decode cX11_hears 136 = .ok (.iload 4, 2) := by decide +kernel
theorem dX11_hears_138 : decode cX11_hears 138 = .ok (.iaload, 1) := by decide +kernel
theorem dX11_hears_139 : decode cX11_hears 139 = .ok (.invokestatic 366, 3) := by decide +kernel
theorem dX11_hears_142 : decode cX11_hears 142 = .ok (.aload_n 0, 1) := by decide +kernel
theorem dX11_hears_143 : decode cX11_hears 143 = .ok (.getfield 96, 3) := by decide +kernel
theorem dX11_hears_146 : decode cX11_hears 146 = .ok (.iload_n 3, 1) := by decide +kernel
theorem dX11_hears_147 : decode cX11_hears 147 = .ok (.iaload, 1) := by decide +kernel
theorem dX11_hears_148 : decode cX11_hears 148 = .ok (.invokestatic 366, 3) := by decide +kernel
theorem dX11_hears_151 : decode cX11_hears 151 = .ok (.if_icmp .le 7, 3) := by decide +kernel
theorem dX11_hears_154 : decode cX11_hears 154 = .ok (.iconst 1, 1) := by decide +kernel
theorem dX11_hears_155 : decode cX11_hears 155 = .ok (.goto 4, 3) := by decide +kernel
theorem dX11_hears_158 : decode cX11_hears 158 = .ok (.iconst 0, 1) := by decide +kernel
theorem dX11_hears_159 : decode cX11_hears 159 = .ok (.istore 5, 2) := by decide +kernel
theorem dX11_hears_161 : decode cX11_hears 161 = .ok (.iload 4, 2) := by decide +kernel
theorem dX11_hears_163 : decode cX11_hears 163 = .ok (.iload_n 1, 1) := by decide +kernel
theorem dX11_hears_164 : decode cX11_hears 164 = .ok (.if_icmp .eq 13, 3) := by decide +kernel
theorem dX11_hears_167 : decode cX11_hears 167 = .ok (.iload 5, 2) := by decide +kernel
theorem dX11_hears_169 : decode cX11_hears 169 = .ok (.ifCond .eq 8, 3) := by decide +kernel
theorem dX11_hears_172 : decode cX11_hears 172 = .ok (.iload 4, 2) := by decide +kernel
theorem dX11_hears_174 : decode cX11_hears 174 = .ok (.goto 4, 3) := by decide +kernel
theorem dX11_hears_177 : decode cX11_hears 177 = .ok (.iload_n 3, 1) := by decide +kernel
theorem dX11_hears_178 : decode cX11_hears 178 = .ok (.istore_n 3, 1) := by decide +kernel
theorem dX11_hears_179 : decode cX11_hears 179 = .ok (.iinc 4 1, 3) := by decide +kernel
theorem dX11_hears_182 : decode cX11_hears 182 = .ok (.goto (-62), 3) := by decide +kernel
theorem dX11_hears_185 : decode cX11_hears 185 = .ok (.aload_n 0, 1) := by decide +kernel
theorem dX11_hears_186 : decode cX11_hears 186 = .ok (.getfield 81, 3) := by decide +kernel
theorem dX11_hears_189 : decode cX11_hears 189 = .ok (.invokevirtual 242, 3) := by decide +kernel
theorem dX11_hears_192 : decode cX11_hears 192 = .ok (.aload_n 0, 1) := by decide +kernel
theorem dX11_hears_193 : decode cX11_hears 193 = .ok (.getfield 81, 3) := by decide +kernel
theorem dX11_hears_196 : decode cX11_hears 196 = .ok (.aload_n 0, 1) := by decide +kernel
theorem dX11_hears_197 : decode cX11_hears 197 = .ok (.getfield 96, 3) := by decide +kernel
theorem dX11_hears_200 : decode cX11_hears 200 = .ok (.iload_n 3, 1) := by decide +kernel
theorem dX11_hears_201 : decode cX11_hears 201 = .ok (.iaload, 1) := by decide +kernel
theorem dX11_hears_202 : decode cX11_hears 202 = .ok (.invokestatic 366, 3) := by decide +kernel
theorem dX11_hears_205 : decode cX11_hears 205 = .ok (.i2l, 1) := by decide +kernel
theorem dX11_hears_206 : decode cX11_hears 206 = .ok (.invokevirtual 248, 3) := by decide +kernel
theorem dX11_hears_209 : decode cX11_hears 209 = .ok (.iload_n 3, 1) := by decide +kernel
theorem dX11_hears_210 : decode cX11_hears 210 = .ok (.ireturn, 1) := by decide +kernel
def lb_X11_hears_59 (v0 : Nat) (v1 : Int32) (v2 : Int32) (v3 : Int32) (s : Int32 × aH) : Option ((Int32 × aH) ⊕ ((aH))) :=
  (gR s.2 v0 10 1).bind fun a10 =>
  (gI s.2 a10 0 0).bind fun x11 =>
  if s.1 < x11 then
    (gR s.2 v0 10 14).bind fun a12 =>
    (aI s.2 a12 14 s.1).bind fun x13 =>
    (gR s.2 v0 10 9).bind fun a14 =>
    (gR s.2 a14 6 0).bind fun a15 =>
    (aI s.2 a15 14 s.1).bind fun x16 =>
    (wI s.2 a12 s.1 (x13 ||| (1 <<< (x16 &&& 31)))).bind fun h17 =>
    (some (s.1 + 1)).bind fun x18 =>
    some (.inl (x18, h17))
  else
    some (.inr s.2)
def hd_X11_hears_59 (Γ : aC) (v0 : Nat) (v1 : Int32) (v2 : Int32) (v3 : Int32) (s : Int32 × aH) : Prop := ∀ (j5 : Option Value), Jd Γ (0, 0) 59 [some (.ref v0), some (.int v1), some (.int v2), some (.int v3), some (.int s.1), j5] [] s.2
def ex_X11_hears_59 (Γ : aC) (v0 : Nat) (v1 : Int32) (v2 : Int32) (v3 : Int32) (r : (aH)) : Prop := (fun r => ∀ (j4 : Option Value) (j5 : Option Value), Jd Γ (0, 0) 99 [some (.ref v0), some (.int v1), some (.int v2), some (.int v3), j4, j5] [] r) r
set_option maxRecDepth 20000 in
set_option maxHeartbeats 4000000 in
theorem lw_X11_hears_59 {Γ : aC} {d : Nat} (X : Cx Γ RX11 cX11_hears 6 (some .int) (d, 0, 0)) (hd : 6 ≤ d) (v0 : Nat) (v1 : Int32) (v2 : Int32) (v3 : Int32) : ∀ n s o, lp (lb_X11_hears_59 v0 v1 v2 v3) n s = some o → ex_X11_hears_59 Γ v0 v1 v2 v3 o → hd_X11_hears_59 Γ v0 v1 v2 v3 s := by
  have hd1 : 1 ≤ d := by omega
  refine J_lp _ _ _ ?_
  intro s o hf hk j5
  unfold lb_X11_hears_59 at hf
  refine r_iload (pc := 59) X dX11_hears_59 rfl ?_
  refine r_aload_n (pc := 61) X dX11_hears_61 rfl ?_
  obtain ⟨a10, ea10, hf⟩ := ob hf
  refine r_getR (pc := 62) X dX11_hears_62 fl_X11_19 rfl ea10 ?_
  obtain ⟨x11, ex11, hf⟩ := ob hf
  refine r_getI (pc := 65) X dX11_hears_65 fl_X11_113 rfl ex11 ?_
  refine r_icmp_ge (pc := 68) X 99 dX11_hears_68 (by decide) (fun c19 => ?_) (fun c19 => ?_)
  · rw [if_neg c19] at hf
    obtain rfl := Option.some.inj hf
    exact hk _ _
  · rw [if_pos c19] at hf
    refine r_aload_n (pc := 71) X dX11_hears_71 rfl ?_
    obtain ⟨a12, ea12, hf⟩ := ob hf
    refine r_getR (pc := 72) X dX11_hears_72 fl_X11_96 rfl ea12 ?_
    refine r_iload (pc := 75) X dX11_hears_75 rfl ?_
    refine r_dup2 (pc := 77) X dX11_hears_77 rfl rfl ?_
    obtain ⟨x13, ex13, hf⟩ := ob hf
    refine r_iald (pc := 78) X dX11_hears_78 ex13 ?_
    refine r_iconst (pc := 79) X 1 dX11_hears_79 (by decide) ?_
    refine r_aload_n (pc := 80) X dX11_hears_80 rfl ?_
    obtain ⟨a14, ea14, hf⟩ := ob hf
    refine r_getR (pc := 81) X dX11_hears_81 fl_X11_68 rfl ea14 ?_
    obtain ⟨a15, ea15, hf⟩ := ob hf
    refine r_getR (pc := 84) X dX11_hears_84 fl_X11_154 rfl ea15 ?_
    refine r_iload (pc := 87) X dX11_hears_87 rfl ?_
    obtain ⟨x16, ex16, hf⟩ := ob hf
    refine r_iald (pc := 89) X dX11_hears_89 ex16 ?_
    refine r_ishl (pc := 90) X dX11_hears_90 ?_
    refine r_ior (pc := 91) X dX11_hears_91 ?_
    obtain ⟨h17, eh17, hf⟩ := ob hf
    refine r_iast (pc := 92) X dX11_hears_92 eh17 ?_
    obtain ⟨x18, ex18, hf⟩ := ob hf
    refine r_iinc2 (pc := 93) X 1 [some (.ref v0), some (.int v1), some (.int v2), some (.int v3), some (.int x18), j5] dX11_hears_93 (by decide) rfl (by decide) ex18 rfl ?_
    refine r_goto (pc := 96) X 59 dX11_hears_96 (by decide) ?_
    obtain rfl := Option.some.inj hf
    exact hk _
def lb_X11_hears_43 (v0 : Nat) (v1 : Int32) (v2 : Int32) (s : Int32 × aH) : Option ((Int32 × aH) ⊕ ((aH))) :=
  if s.1 ≤ 9 then
    (ck s.2 v0 10).bind fun u8 =>
    (fn_X11_runWithLevel s.2 v0 v1 s.1 v2).bind fun h9 =>
    (lp (lb_X11_hears_59 v0 v1 v2 s.1) lpN (0, h9)).bind fun o20 =>
    (some (s.1 + 1)).bind fun x23 =>
    some (.inl (x23, o20))
  else
    some (.inr s.2)
def hd_X11_hears_43 (Γ : aC) (v0 : Nat) (v1 : Int32) (v2 : Int32) (s : Int32 × aH) : Prop := ∀ (j4 : Option Value) (j5 : Option Value), Jd Γ (0, 0) 43 [some (.ref v0), some (.int v1), some (.int v2), some (.int s.1), j4, j5] [] s.2
def ex_X11_hears_43 (Γ : aC) (v0 : Nat) (v1 : Int32) (v2 : Int32) (r : (aH)) : Prop := (fun r => ∀ (j3 : Option Value) (j4 : Option Value) (j5 : Option Value), Jd Γ (0, 0) 105 [some (.ref v0), some (.int v1), some (.int v2), j3, j4, j5] [] r) r
set_option maxRecDepth 20000 in
set_option maxHeartbeats 4000000 in
theorem lw_X11_hears_43 {Γ : aC} {d : Nat} (X : Cx Γ RX11 cX11_hears 6 (some .int) (d, 0, 0)) (hd : 6 ≤ d) (v0 : Nat) (v1 : Int32) (v2 : Int32) : ∀ n s o, lp (lb_X11_hears_43 v0 v1 v2) n s = some o → ex_X11_hears_43 Γ v0 v1 v2 o → hd_X11_hears_43 Γ v0 v1 v2 s := by
  have hd1 : 1 ≤ d := by omega
  refine J_lp _ _ _ ?_
  intro s o hf hk j4 j5
  unfold lb_X11_hears_43 at hf
  refine r_iload_n (pc := 43) X dX11_hears_43 rfl ?_
  refine r_bipush (pc := 44) X 9 dX11_hears_44 (by decide) ?_
  refine r_icmp_gt (pc := 46) X 105 dX11_hears_46 (by decide) (fun c24 => ?_) (fun c24 => ?_)
  · rw [if_neg c24] at hf
    obtain rfl := Option.some.inj hf
    exact hk _ _ _
  · rw [if_pos c24] at hf
    refine r_aload_n (pc := 49) X dX11_hears_49 rfl ?_
    refine r_iload_n (pc := 50) X dX11_hears_50 rfl ?_
    refine r_iload_n (pc := 51) X dX11_hears_51 rfl ?_
    refine r_iload_n (pc := 52) X dX11_hears_52 rfl ?_
    obtain ⟨u8, eu8, hf⟩ := ob hf
    obtain ⟨h9, eh9, hf⟩ := ob hf
    refine r_callVV (pc := 53) X [.int v1, .int s.1, .int v2] dX11_hears_53 ml_X11_363 vo_X11_runWithLevel ⟨Nat.le_refl _, Nat.le_refl _⟩ eu8 (ev_X11_runWithLevel (d := d - 1) (by omega) _ _ _ _ _ _ eh9) hd1 rfl (Nat.le_of_ble_eq_true rfl) rfl ?_
    refine r_iconst (pc := 56) X 0 dX11_hears_56 (by decide) ?_
    refine r_istore (pc := 57) X [some (.ref v0), some (.int v1), some (.int v2), some (.int s.1), some (.int 0), j5] dX11_hears_57 (by decide) rfl ?_
    obtain ⟨o20, eo20, hf⟩ := ob hf
    refine (lw_X11_hears_59 X hd _ _ _ _ lpN _ o20 eo20 ?_) _
    intro j21 j22
    obtain ⟨x23, ex23, hf⟩ := ob hf
    refine r_iinc2 (pc := 99) X 1 [some (.ref v0), some (.int v1), some (.int v2), some (.int x23), j21, j22] dX11_hears_99 (by decide) rfl (by decide) ex23 rfl ?_
    refine r_goto (pc := 102) X 43 dX11_hears_102 (by decide) ?_
    obtain rfl := Option.some.inj hf
    exact hk _ _
def lb_X11_hears_120 (hh : aH) (v0 : Nat) (v1 : Int32) (s : Int32 × Int32) : Option ((Int32 × Int32) ⊕ ((Int32))) :=
  (gR hh v0 10 1).bind fun a31 =>
  (gI hh a31 0 0).bind fun x32 =>
  if s.2 < x32 then
    (gR hh v0 10 14).bind fun a33 =>
    (aI hh a33 14 s.2).bind fun x34 =>
    (fn_J6_bitCount_0f7a4 hh x34).bind fun x35 =>
    (gR hh v0 10 14).bind fun a36 =>
    (aI hh a36 14 s.1).bind fun x37 =>
    (fn_J6_bitCount_0f7a4 hh x37).bind fun x38 =>
    ((
      if x35 ≤ x38 then
        some 0
      else
        some 1
    ) : Option (Int32)).bind fun t39 =>
    if s.2 = v1 then
      (some (s.2 + 1)).bind fun x40 =>
      some (.inl (s.1, x40))
    else
      if t39 = 0 then
        (some (s.2 + 1)).bind fun x41 =>
        some (.inl (s.1, x41))
      else
        (some (s.2 + 1)).bind fun x42 =>
        some (.inl (s.2, x42))
  else
    some (.inr s.1)
def hd_X11_hears_120 (Γ : aC) (hh : aH) (v0 : Nat) (v1 : Int32) (s : Int32 × Int32) : Prop := ∀ (j2 : Option Value) (j5 : Option Value), Jd Γ (0, 0) 120 [some (.ref v0), some (.int v1), j2, some (.int s.1), some (.int s.2), j5] [] hh
def ex_X11_hears_120 (Γ : aC) (hh : aH) (v0 : Nat) (v1 : Int32) (r : (Int32)) : Prop := (fun r => ∀ (j2 : Option Value) (j4 : Option Value) (j5 : Option Value), Jd Γ (0, 0) 185 [some (.ref v0), some (.int v1), j2, some (.int r), j4, j5] [] hh) r
set_option maxRecDepth 20000 in
set_option maxHeartbeats 4000000 in
theorem lw_X11_hears_120 {Γ : aC} {d : Nat} (X : Cx Γ RX11 cX11_hears 6 (some .int) (d, 0, 0)) (hd : 6 ≤ d) (hh : aH) (v0 : Nat) (v1 : Int32) : ∀ n s o, lp (lb_X11_hears_120 hh v0 v1) n s = some o → ex_X11_hears_120 Γ hh v0 v1 o → hd_X11_hears_120 Γ hh v0 v1 s := by
  have hd1 : 1 ≤ d := by omega
  refine J_lp _ _ _ ?_
  intro s o hf hk j2 j5
  unfold lb_X11_hears_120 at hf
  refine r_iload (pc := 120) X dX11_hears_120 rfl ?_
  refine r_aload_n (pc := 122) X dX11_hears_122 rfl ?_
  obtain ⟨a31, ea31, hf⟩ := ob hf
  refine r_getR (pc := 123) X dX11_hears_123 fl_X11_19 rfl ea31 ?_
  obtain ⟨x32, ex32, hf⟩ := ob hf
  refine r_getI (pc := 126) X dX11_hears_126 fl_X11_113 rfl ex32 ?_
  refine r_icmp_ge (pc := 129) X 185 dX11_hears_129 (by decide) (fun c46 => ?_) (fun c46 => ?_)
  · rw [if_neg c46] at hf
    obtain rfl := Option.some.inj hf
    exact hk _ _ _
  · rw [if_pos c46] at hf
    refine r_aload_n (pc := 132) X dX11_hears_132 rfl ?_
    obtain ⟨a33, ea33, hf⟩ := ob hf
    refine r_getR (pc := 133) X dX11_hears_133 fl_X11_96 rfl ea33 ?_
    refine r_iload (pc := 136) X dX11_hears_136 rfl ?_
    obtain ⟨x34, ex34, hf⟩ := ob hf
    refine r_iald (pc := 138) X dX11_hears_138 ex34 ?_
    obtain ⟨x35, ex35, hf⟩ := ob hf
    refine r_callSI (pc := 139) X [.int x34] dX11_hears_139 ml_X11_366 so_J6_bitCount_0f7a4 ⟨Nat.le_refl _, Nat.le_refl _⟩ (ev_J6_bitCount_0f7a4 (d := d - 1) (by omega) _ _ _ ex35) hd1 rfl (Nat.le_of_ble_eq_true rfl) rfl ?_
    refine r_aload_n (pc := 142) X dX11_hears_142 rfl ?_
    obtain ⟨a36, ea36, hf⟩ := ob hf
    refine r_getR (pc := 143) X dX11_hears_143 fl_X11_96 rfl ea36 ?_
    refine r_iload_n (pc := 146) X dX11_hears_146 rfl ?_
    obtain ⟨x37, ex37, hf⟩ := ob hf
    refine r_iald (pc := 147) X dX11_hears_147 ex37 ?_
    obtain ⟨x38, ex38, hf⟩ := ob hf
    refine r_callSI (pc := 148) X [.int x37] dX11_hears_148 ml_X11_366 so_J6_bitCount_0f7a4 ⟨Nat.le_refl _, Nat.le_refl _⟩ (ev_J6_bitCount_0f7a4 (d := d - 1) (by omega) _ _ _ ex38) hd1 rfl (Nat.le_of_ble_eq_true rfl) rfl ?_
    obtain ⟨t39, et39, hf⟩ := ob hf
    have Jt39 : Jd Γ (0, 0) 159 [some (.ref v0), some (.int v1), j2, some (.int s.1), some (.int s.2), j5] [.int t39] hh := by
      refine r_istore (pc := 159) X [some (.ref v0), some (.int v1), j2, some (.int s.1), some (.int s.2), some (.int t39)] dX11_hears_159 (by decide) rfl ?_
      refine r_iload (pc := 161) X dX11_hears_161 rfl ?_
      refine r_iload_n (pc := 163) X dX11_hears_163 rfl ?_
      refine r_icmp_eq (pc := 164) X 177 dX11_hears_164 (by decide) (fun c44 => ?_) (fun c44 => ?_)
      · rw [if_pos c44] at hf
        refine r_iload_n (pc := 177) X dX11_hears_177 rfl ?_
        refine r_fg 2 [some (.ref v0), some (.int v1), none, some (.int s.1), some (.int s.2), some (.int t39)] rfl ?_
        refine r_istore_n (pc := 178) X [some (.ref v0), some (.int v1), none, some (.int s.1), some (.int s.2), some (.int t39)] dX11_hears_178 (by decide) rfl ?_
        obtain ⟨x40, ex40, hf⟩ := ob hf
        refine r_iinc2 (pc := 179) X 1 [some (.ref v0), some (.int v1), none, some (.int s.1), some (.int x40), some (.int t39)] dX11_hears_179 (by decide) rfl (by decide) ex40 rfl ?_
        refine r_goto (pc := 182) X 120 dX11_hears_182 (by decide) ?_
        obtain rfl := Option.some.inj hf
        exact hk _ _
      · rw [if_neg c44] at hf
        refine r_iload (pc := 167) X dX11_hears_167 rfl ?_
        refine r_if_eq (pc := 169) X 177 dX11_hears_169 (by decide) (fun c43 => ?_) (fun c43 => ?_)
        · rw [if_pos c43] at hf
          refine r_iload_n (pc := 177) X dX11_hears_177 rfl ?_
          refine r_fg 2 [some (.ref v0), some (.int v1), none, some (.int s.1), some (.int s.2), some (.int t39)] rfl ?_
          refine r_istore_n (pc := 178) X [some (.ref v0), some (.int v1), none, some (.int s.1), some (.int s.2), some (.int t39)] dX11_hears_178 (by decide) rfl ?_
          obtain ⟨x41, ex41, hf⟩ := ob hf
          refine r_iinc2 (pc := 179) X 1 [some (.ref v0), some (.int v1), none, some (.int s.1), some (.int x41), some (.int t39)] dX11_hears_179 (by decide) rfl (by decide) ex41 rfl ?_
          refine r_goto (pc := 182) X 120 dX11_hears_182 (by decide) ?_
          obtain rfl := Option.some.inj hf
          exact hk _ _
        · rw [if_neg c43] at hf
          refine r_iload (pc := 172) X dX11_hears_172 rfl ?_
          refine r_goto (pc := 174) X 178 dX11_hears_174 (by decide) ?_
          refine r_fg 2 [some (.ref v0), some (.int v1), none, some (.int s.1), some (.int s.2), some (.int t39)] rfl ?_
          refine r_istore_n (pc := 178) X [some (.ref v0), some (.int v1), none, some (.int s.2), some (.int s.2), some (.int t39)] dX11_hears_178 (by decide) rfl ?_
          obtain ⟨x42, ex42, hf⟩ := ob hf
          refine r_iinc2 (pc := 179) X 1 [some (.ref v0), some (.int v1), none, some (.int s.2), some (.int x42), some (.int t39)] dX11_hears_179 (by decide) rfl (by decide) ex42 rfl ?_
          refine r_goto (pc := 182) X 120 dX11_hears_182 (by decide) ?_
          obtain rfl := Option.some.inj hf
          exact hk _ _
    refine r_icmp_le (pc := 151) X 158 dX11_hears_151 (by decide) (fun c45 => ?_) (fun c45 => ?_)
    · rw [if_pos c45] at et39
      refine r_iconst (pc := 158) X 0 dX11_hears_158 (by decide) ?_
      obtain rfl := Option.some.inj et39
      exact Jt39
    · rw [if_neg c45] at et39
      refine r_iconst (pc := 154) X 1 dX11_hears_154 (by decide) ?_
      refine r_goto (pc := 155) X 159 dX11_hears_155 (by decide) ?_
      obtain rfl := Option.some.inj et39
      exact Jt39
def fn_X11_hears (h : aH) (p0 : Nat) (p1 : Int32) (p2 : Int32) : Option (Int32 × aH) :=
  (gR h p0 10 1).bind fun a1 =>
  (ck h a1 0).bind fun u2 =>
  (fn_X0_hasBasin h a1 p1).bind fun x3 =>
  if x3 = 0 then
    some ((-1), h)
  else
    if p2 < 0 then
      some ((-1), h)
    else
      if p2 ≤ 40 then
        (gR h p0 10 1).bind fun a4 =>
        (gI h a4 0 0).bind fun x5 =>
        if x5 = 1 then
          some ((-2), h)
        else
          (ck h p0 10).bind fun u6 =>
          (fn_X11_clearMasks h p0).bind fun h7 =>
          (lp (lb_X11_hears_43 p0 p1 p2) lpN (0, h7)).bind fun o25 =>
          ((
            if p1 = 0 then
              some 1
            else
              some 0
          ) : Option (Int32)).bind fun t29 =>
          (some (t29 + 1)).bind fun x30 =>
          (lp (lb_X11_hears_120 o25 p0 p1) lpN (t29, x30)).bind fun o47 =>
          (gR o25 p0 10 11).bind fun a51 =>
          (ck o25 a51 2).bind fun u52 =>
          (fn_X3_begin o25 a51).bind fun h53 =>
          (gR h53 p0 10 11).bind fun a54 =>
          (gR h53 p0 10 14).bind fun a55 =>
          (aI h53 a55 14 o47).bind fun x56 =>
          (fn_J6_bitCount_0f7a4 h53 x56).bind fun x57 =>
          (ck h53 a54 2).bind fun u58 =>
          (fn_X3_add h53 a54 (Int32.toInt64 x57)).bind fun h59 =>
          some (o47, h59)
      else
        some ((-1), h)
set_option maxRecDepth 20000 in
set_option maxHeartbeats 4000000 in
theorem ev_X11_hears {l : Launch} {g : aG} {d : Nat} (hd : 6 ≤ d) (h : aH) (p0 : Nat) (p1 : Int32) (p2 : Int32) (o : Int32 × aH) (hf : fn_X11_hears h p0 p1 p2 = some o) : EvM l g d yX11_hears cX11_hears 6 (some .int) [.ref p0, .int p1, .int p2] h (some (.int o.1), o.2) := by
  refine EvM.of mk_X11_hears (Nat.le_of_ble_eq_true rfl) ?_
  intro Γ hl hg hq X
  have hd1 : 1 ≤ d := by omega
  have hk : RqI Γ o := hq
  unfold fn_X11_hears at hf
  show Jd Γ (0, 0) 0 [some (.ref p0), some (.int p1), some (.int p2), none, none, none] [] h
  refine r_aload_n (pc := 0) X dX11_hears_0 rfl ?_
  obtain ⟨a1, ea1, hf⟩ := ob hf
  refine r_getR (pc := 1) X dX11_hears_1 fl_X11_19 rfl ea1 ?_
  refine r_iload_n (pc := 4) X dX11_hears_4 rfl ?_
  obtain ⟨u2, eu2, hf⟩ := ob hf
  obtain ⟨x3, ex3, hf⟩ := ob hf
  refine r_callVI (pc := 5) X [.int p1] dX11_hears_5 ml_X11_172 vo_X0_hasBasin ⟨Nat.le_refl _, Nat.le_refl _⟩ eu2 (ev_X0_hasBasin (d := d - 1) (by omega) _ _ _ _ ex3) hd1 rfl (Nat.le_of_ble_eq_true rfl) rfl ?_
  refine r_if_eq (pc := 8) X 21 dX11_hears_8 (by decide) (fun c64 => ?_) (fun c64 => ?_)
  · rw [if_pos c64] at hf
    refine r_iconst (pc := 21) X (-1) dX11_hears_21 (by decide) ?_
    obtain rfl := Option.some.inj hf
    exact r_iret (pc := 22) X dX11_hears_22 hk
  · rw [if_neg c64] at hf
    refine r_iload_n (pc := 11) X dX11_hears_11 rfl ?_
    refine r_if_lt (pc := 12) X 21 dX11_hears_12 (by decide) (fun c63 => ?_) (fun c63 => ?_)
    · rw [if_pos c63] at hf
      refine r_iconst (pc := 21) X (-1) dX11_hears_21 (by decide) ?_
      obtain rfl := Option.some.inj hf
      exact r_iret (pc := 22) X dX11_hears_22 hk
    · rw [if_neg c63] at hf
      refine r_iload_n (pc := 15) X dX11_hears_15 rfl ?_
      refine r_bipush (pc := 16) X 40 dX11_hears_16 (by decide) ?_
      refine r_icmp_le (pc := 18) X 23 dX11_hears_18 (by decide) (fun c62 => ?_) (fun c62 => ?_)
      · rw [if_pos c62] at hf
        refine r_aload_n (pc := 23) X dX11_hears_23 rfl ?_
        obtain ⟨a4, ea4, hf⟩ := ob hf
        refine r_getR (pc := 24) X dX11_hears_24 fl_X11_19 rfl ea4 ?_
        obtain ⟨x5, ex5, hf⟩ := ob hf
        refine r_getI (pc := 27) X dX11_hears_27 fl_X11_113 rfl ex5 ?_
        refine r_iconst (pc := 30) X 1 dX11_hears_30 (by decide) ?_
        refine r_icmp_ne (pc := 31) X 37 dX11_hears_31 (by decide) (fun c61 => ?_) (fun c61 => ?_)
        · rw [if_neg c61] at hf
          refine r_aload_n (pc := 37) X dX11_hears_37 rfl ?_
          obtain ⟨u6, eu6, hf⟩ := ob hf
          obtain ⟨h7, eh7, hf⟩ := ob hf
          refine r_callVV (pc := 38) X [] dX11_hears_38 ml_X11_357 vo_X11_clearMasks ⟨Nat.le_refl _, Nat.le_refl _⟩ eu6 (ev_X11_clearMasks (d := d - 1) (by omega) _ _ _ eh7) hd1 rfl (Nat.le_of_ble_eq_true rfl) rfl ?_
          refine r_iconst (pc := 41) X 0 dX11_hears_41 (by decide) ?_
          refine r_istore_n (pc := 42) X [some (.ref p0), some (.int p1), some (.int p2), some (.int 0), none, none] dX11_hears_42 (by decide) rfl ?_
          obtain ⟨o25, eo25, hf⟩ := ob hf
          refine (lw_X11_hears_43 X hd _ _ _ lpN _ o25 eo25 ?_) _ _
          intro j26 j27 j28
          refine r_iload_n (pc := 105) X dX11_hears_105 rfl ?_
          obtain ⟨t29, et29, hf⟩ := ob hf
          have Jt29 : Jd Γ (0, 0) 114 [some (.ref p0), some (.int p1), some (.int p2), j26, j27, j28] [.int t29] o25 := by
            refine r_istore_n (pc := 114) X [some (.ref p0), some (.int p1), some (.int p2), some (.int t29), j27, j28] dX11_hears_114 (by decide) rfl ?_
            refine r_iload_n (pc := 115) X dX11_hears_115 rfl ?_
            refine r_iconst (pc := 116) X 1 dX11_hears_116 (by decide) ?_
            refine r_iadd (pc := 117) X dX11_hears_117 ?_
            obtain ⟨x30, ex30, hf⟩ := ob hf
            refine r_nmI ex30 ?_
            refine r_istore (pc := 118) X [some (.ref p0), some (.int p1), some (.int p2), some (.int t29), some (.int x30), j28] dX11_hears_118 (by decide) rfl ?_
            obtain ⟨o47, eo47, hf⟩ := ob hf
            refine (lw_X11_hears_120 X hd _ _ _ lpN _ o47 eo47 ?_) _ _
            intro j48 j49 j50
            refine r_aload_n (pc := 185) X dX11_hears_185 rfl ?_
            obtain ⟨a51, ea51, hf⟩ := ob hf
            refine r_getR (pc := 186) X dX11_hears_186 fl_X11_81 rfl ea51 ?_
            obtain ⟨u52, eu52, hf⟩ := ob hf
            obtain ⟨h53, eh53, hf⟩ := ob hf
            refine r_callVV (pc := 189) X [] dX11_hears_189 ml_X11_242 vo_X3_begin ⟨Nat.le_refl _, Nat.le_refl _⟩ eu52 (ev_X3_begin (d := d - 1) (by omega) _ _ _ eh53) hd1 rfl (Nat.le_of_ble_eq_true rfl) rfl ?_
            refine r_aload_n (pc := 192) X dX11_hears_192 rfl ?_
            obtain ⟨a54, ea54, hf⟩ := ob hf
            refine r_getR (pc := 193) X dX11_hears_193 fl_X11_81 rfl ea54 ?_
            refine r_aload_n (pc := 196) X dX11_hears_196 rfl ?_
            obtain ⟨a55, ea55, hf⟩ := ob hf
            refine r_getR (pc := 197) X dX11_hears_197 fl_X11_96 rfl ea55 ?_
            refine r_iload_n (pc := 200) X dX11_hears_200 rfl ?_
            obtain ⟨x56, ex56, hf⟩ := ob hf
            refine r_iald (pc := 201) X dX11_hears_201 ex56 ?_
            obtain ⟨x57, ex57, hf⟩ := ob hf
            refine r_callSI (pc := 202) X [.int x56] dX11_hears_202 ml_X11_366 so_J6_bitCount_0f7a4 ⟨Nat.le_refl _, Nat.le_refl _⟩ (ev_J6_bitCount_0f7a4 (d := d - 1) (by omega) _ _ _ ex57) hd1 rfl (Nat.le_of_ble_eq_true rfl) rfl ?_
            refine r_i2l (pc := 205) X dX11_hears_205 ?_
            obtain ⟨u58, eu58, hf⟩ := ob hf
            obtain ⟨h59, eh59, hf⟩ := ob hf
            refine r_callVV (pc := 206) X [.long (Int32.toInt64 x57)] dX11_hears_206 ml_X11_248 vo_X3_add ⟨Nat.le_refl _, Nat.le_refl _⟩ eu58 (ev_X3_add (d := d - 1) (by omega) _ _ _ _ eh59) hd1 rfl (Nat.le_of_ble_eq_true rfl) rfl ?_
            refine r_iload_n (pc := 209) X dX11_hears_209 rfl ?_
            obtain rfl := Option.some.inj hf
            exact r_iret (pc := 210) X dX11_hears_210 hk
          refine r_if_ne (pc := 106) X 113 dX11_hears_106 (by decide) (fun c60 => ?_) (fun c60 => ?_)
          · rw [if_neg c60] at et29
            refine r_iconst (pc := 113) X 0 dX11_hears_113 (by decide) ?_
            obtain rfl := Option.some.inj et29
            exact Jt29
          · rw [if_pos c60] at et29
            refine r_iconst (pc := 109) X 1 dX11_hears_109 (by decide) ?_
            refine r_goto (pc := 110) X 114 dX11_hears_110 (by decide) ?_
            obtain rfl := Option.some.inj et29
            exact Jt29
        · rw [if_pos c61] at hf
          refine r_bipush (pc := 34) X (-2) dX11_hears_34 (by decide) ?_
          obtain rfl := Option.some.inj hf
          exact r_iret (pc := 36) X dX11_hears_36 hk
      · rw [if_neg c62] at hf
        refine r_iconst (pc := 21) X (-1) dX11_hears_21 (by decide) ?_
        obtain rfl := Option.some.inj hf
        exact r_iret (pc := 22) X dX11_hears_22 hk

theorem dX11_drought_0 : decode cX11_drought 0 = .ok (.aload_n 0, 1) := by decide +kernel
theorem dX11_drought_1 : decode cX11_drought 1 = .ok (.getfield 19, 3) := by decide +kernel
theorem dX11_drought_4 : decode cX11_drought 4 = .ok (.iload_n 1, 1) := by decide +kernel
theorem dX11_drought_5 : decode cX11_drought 5 = .ok (.invokevirtual 172, 3) := by decide +kernel
theorem dX11_drought_8 : decode cX11_drought 8 = .ok (.ifCond .eq 24, 3) := by decide +kernel
theorem dX11_drought_11 : decode cX11_drought 11 = .ok (.aload_n 0, 1) := by decide +kernel
theorem dX11_drought_12 : decode cX11_drought 12 = .ok (.getfield 19, 3) := by decide +kernel
theorem dX11_drought_15 : decode cX11_drought 15 = .ok (.iload_n 2, 1) := by decide +kernel
theorem dX11_drought_16 : decode cX11_drought 16 = .ok (.invokevirtual 172, 3) := by decide +kernel
theorem dX11_drought_19 : decode cX11_drought 19 = .ok (.ifCond .eq 13, 3) := by decide +kernel
theorem dX11_drought_22 : decode cX11_drought 22 = .ok (.iload_n 3, 1) := by decide +kernel
theorem dX11_drought_23 : decode cX11_drought 23 = .ok (.ifCond .lt 9, 3) := by decide +kernel
theorem dX11_drought_26 : decode cX11_drought 26 = .ok (.iload_n 3, 1) := by decide +kernel
theorem dX11_drought_27 : decode cX11_drought 27 = .ok (.bipush 40, 2) := by decide +kernel
theorem dX11_drought_29 : decode cX11_drought 29 = .ok (.if_icmp .le 5, 3) := by decide +kernel
theorem dX11_drought_32 : decode cX11_drought 32 = .ok (.iconst (-1), 1) := by decide +kernel
theorem dX11_drought_33 : decode cX11_drought 33 = .ok (.ireturn, 1) := by decide +kernel
theorem dX11_drought_34 : decode cX11_drought 34 = .ok (.bipush (-2), 2) := by decide +kernel
theorem dX11_drought_36 : decode cX11_drought 36 = .ok (.istore 4, 2) := by decide +kernel
theorem dX11_drought_38 : decode cX11_drought 38 = .ok (.iconst 0, 1) := by decide +kernel
theorem dX11_drought_39 : decode cX11_drought 39 = .ok (.istore 5, 2) := by decide +kernel
theorem dX11_drought_41 : decode cX11_drought 41 = .ok (.iconst 0, 1) := by decide +kernel
theorem dX11_drought_42 : decode cX11_drought 42 = .ok (.istore 6, 2) := by decide +kernel
theorem dX11_drought_44 : decode cX11_drought 44 = .ok (.iload 6, 2) := by decide +kernel
theorem dX11_drought_46 : decode cX11_drought 46 = .ok (.bipush 9, 2) := by decide +kernel
theorem dX11_drought_48 : decode cX11_drought 48 = .ok (.if_icmp .gt 47, 3) := by decide +kernel
theorem dX11_drought_51 : decode cX11_drought 51 = .ok (.aload_n 0, 1) := by decide +kernel
theorem dX11_drought_52 : decode cX11_drought 52 = .ok (.iload_n 1, 1) := by decide +kernel
theorem dX11_drought_53 : decode cX11_drought 53 = .ok (.iload 6, 2) := by decide +kernel
theorem dX11_drought_55 : decode cX11_drought 55 = .ok (.iload_n 3, 1) := by decide +kernel
theorem dX11_drought_56 : decode cX11_drought 56 = .ok (.invokevirtual 363, 3) := by decide +kernel
theorem dX11_drought_59 : decode cX11_drought 59 = .ok (.aload_n 0, 1) := by decide +kernel
theorem dX11_drought_60 : decode cX11_drought 60 = .ok (.getfield 68, 3) := by decide +kernel
theorem dX11_drought_63 : decode cX11_drought 63 = .ok (.iload_n 2, 1) := by decide +kernel
theorem dX11_drought_64 : decode cX11_drought 64 = .ok (.invokevirtual 316, 3) := by decide +kernel
theorem dX11_drought_67 : decode cX11_drought 67 = .ok (.ifCond .eq 22, 3) := by decide +kernel
theorem dX11_drought_70 : decode cX11_drought 70 = .ok (.iload 4, 2) := by decide +kernel
theorem dX11_drought_72 : decode cX11_drought 72 = .ok (.bipush (-2), 2) := by decide +kernel
theorem dX11_drought_74 : decode cX11_drought 74 = .ok (.if_icmp .ne 8, 3) := by decide +kernel
theorem dX11_drought_77 : decode cX11_drought 77 = .ok (.iload 6, 2) := by decide +kernel
theorem dX11_drought_79 : decode cX11_drought 79 = .ok (.goto 5, 3) := by decide +kernel
theorem dX11_drought_82 : decode cX11_drought 82 = .ok (.iload 4, 2) := by decide +kernel
theorem dX11_drought_84 : decode cX11_drought 84 = .ok (.istore 4, 2) := by decide +kernel
theorem dX11_drought_86 : decode cX11_drought 86 = .ok (.iinc 5 1, 3) := by decide +kernel
theorem dX11_drought_89 : decode cX11_drought 89 = .ok (.iinc 6 1, 3) := by decide +kernel
theorem dX11_drought_92 : decode cX11_drought 92 = .ok (.goto (-48), 3) := by decide +kernel
theorem dX11_drought_95 : decode cX11_drought 95 = .ok (.iload 4, 2) := by decide +kernel
theorem dX11_drought_97 : decode cX11_drought 97 = .ok (.bipush (-2), 2) := by decide +kernel
theorem dX11_drought_99 : decode cX11_drought 99 = .ok (.if_icmp .eq 20, 3) := by decide +kernel
theorem dX11_drought_102 : decode cX11_drought 102 = .ok (.aload_n 0, 1) := by decide +kernel
theorem dX11_drought_103 : decode cX11_drought 103 = .ok (.getfield 81, 3) := by decide +kernel
theorem dX11_drought_106 : decode cX11_drought 106 = .ok (.invokevirtual 242, 3) := by decide +kernel
theorem dX11_drought_109 : decode cX11_drought 109 = .ok (.aload_n 0, 1) := by decide +kernel
theorem dX11_drought_110 : decode cX11_drought 110 = .ok (.getfield 81, 3) := by decide +kernel
theorem dX11_drought_113 : decode cX11_drought 113 = .ok (.iload 5, 2) := by decide +kernel
theorem dX11_drought_115 : decode cX11_drought 115 = .ok (.i2l, 1) := by decide +kernel
theorem dX11_drought_116 : decode cX11_drought 116 = .ok (.invokevirtual 248, 3) := by decide +kernel
theorem dX11_drought_119 : decode cX11_drought 119 = .ok (.iload 4, 2) := by decide +kernel
theorem dX11_drought_121 : decode cX11_drought 121 = .ok (.ireturn, 1) := by decide +kernel
def lb_X11_drought_44 (v0 : Nat) (v1 : Int32) (v2 : Int32) (v3 : Int32) (s : Int32 × Int32 × Int32 × aH) : Option ((Int32 × Int32 × Int32 × aH) ⊕ ((Int32 × Int32 × aH))) :=
  if s.2.2.1 ≤ 9 then
    (ck s.2.2.2 v0 10).bind fun u7 =>
    (fn_X11_runWithLevel s.2.2.2 v0 v1 s.2.2.1 v3).bind fun h8 =>
    (gR h8 v0 10 9).bind fun a9 =>
    (ck h8 a9 6).bind fun u10 =>
    (fn_X7_isAtMark h8 a9 v2).bind fun x11 =>
    if x11 = 0 then
      (some (s.2.2.1 + 1)).bind fun x12 =>
      some (.inl (s.1, s.2.1, x12, h8))
    else
      if s.1 = (-2) then
        (some (s.2.1 + 1)).bind fun x15 =>
        (some (s.2.2.1 + 1)).bind fun x16 =>
        some (.inl (s.2.2.1, x15, x16, h8))
      else
        (some (s.2.1 + 1)).bind fun x13 =>
        (some (s.2.2.1 + 1)).bind fun x14 =>
        some (.inl (s.1, x13, x14, h8))
  else
    some (.inr (s.1, s.2.1, s.2.2.2))
def hd_X11_drought_44 (Γ : aC) (v0 : Nat) (v1 : Int32) (v2 : Int32) (v3 : Int32) (s : Int32 × Int32 × Int32 × aH) : Prop := Jd Γ (0, 0) 44 [some (.ref v0), some (.int v1), some (.int v2), some (.int v3), some (.int s.1), some (.int s.2.1), some (.int s.2.2.1)] [] s.2.2.2
def ex_X11_drought_44 (Γ : aC) (v0 : Nat) (v1 : Int32) (v2 : Int32) (v3 : Int32) (r : (Int32 × Int32 × aH)) : Prop := (fun r => ∀ (j6 : Option Value), Jd Γ (0, 0) 95 [some (.ref v0), some (.int v1), some (.int v2), some (.int v3), some (.int r.1), some (.int r.2.1), j6] [] r.2.2) r
set_option maxRecDepth 20000 in
set_option maxHeartbeats 4000000 in
theorem lw_X11_drought_44 {Γ : aC} {d : Nat} (X : Cx Γ RX11 cX11_drought 7 (some .int) (d, 0, 0)) (hd : 6 ≤ d) (v0 : Nat) (v1 : Int32) (v2 : Int32) (v3 : Int32) : ∀ n s o, lp (lb_X11_drought_44 v0 v1 v2 v3) n s = some o → ex_X11_drought_44 Γ v0 v1 v2 v3 o → hd_X11_drought_44 Γ v0 v1 v2 v3 s := by
  have hd1 : 1 ≤ d := by omega
  refine J_lp _ _ _ ?_
  intro s o hf hk
  unfold lb_X11_drought_44 at hf
  refine r_iload (pc := 44) X dX11_drought_44 rfl ?_
  refine r_bipush (pc := 46) X 9 dX11_drought_46 (by decide) ?_
  refine r_icmp_gt (pc := 48) X 95 dX11_drought_48 (by decide) (fun c19 => ?_) (fun c19 => ?_)
  · rw [if_neg c19] at hf
    obtain rfl := Option.some.inj hf
    exact hk _
  · rw [if_pos c19] at hf
    refine r_aload_n (pc := 51) X dX11_drought_51 rfl ?_
    refine r_iload_n (pc := 52) X dX11_drought_52 rfl ?_
    refine r_iload (pc := 53) X dX11_drought_53 rfl ?_
    refine r_iload_n (pc := 55) X dX11_drought_55 rfl ?_
    obtain ⟨u7, eu7, hf⟩ := ob hf
    obtain ⟨h8, eh8, hf⟩ := ob hf
    refine r_callVV (pc := 56) X [.int v1, .int s.2.2.1, .int v3] dX11_drought_56 ml_X11_363 vo_X11_runWithLevel ⟨Nat.le_refl _, Nat.le_refl _⟩ eu7 (ev_X11_runWithLevel (d := d - 1) (by omega) _ _ _ _ _ _ eh8) hd1 rfl (Nat.le_of_ble_eq_true rfl) rfl ?_
    refine r_aload_n (pc := 59) X dX11_drought_59 rfl ?_
    obtain ⟨a9, ea9, hf⟩ := ob hf
    refine r_getR (pc := 60) X dX11_drought_60 fl_X11_68 rfl ea9 ?_
    refine r_iload_n (pc := 63) X dX11_drought_63 rfl ?_
    obtain ⟨u10, eu10, hf⟩ := ob hf
    obtain ⟨x11, ex11, hf⟩ := ob hf
    refine r_callVI (pc := 64) X [.int v2] dX11_drought_64 ml_X11_316 vo_X7_isAtMark ⟨Nat.le_refl _, Nat.le_refl _⟩ eu10 (ev_X7_isAtMark (d := d - 1) (by omega) _ _ _ _ ex11) hd1 rfl (Nat.le_of_ble_eq_true rfl) rfl ?_
    refine r_if_eq (pc := 67) X 89 dX11_drought_67 (by decide) (fun c18 => ?_) (fun c18 => ?_)
    · rw [if_pos c18] at hf
      obtain ⟨x12, ex12, hf⟩ := ob hf
      refine r_iinc2 (pc := 89) X 1 [some (.ref v0), some (.int v1), some (.int v2), some (.int v3), some (.int s.1), some (.int s.2.1), some (.int x12)] dX11_drought_89 (by decide) rfl (by decide) ex12 rfl ?_
      refine r_goto (pc := 92) X 44 dX11_drought_92 (by decide) ?_
      obtain rfl := Option.some.inj hf
      exact hk
    · rw [if_neg c18] at hf
      refine r_iload (pc := 70) X dX11_drought_70 rfl ?_
      refine r_bipush (pc := 72) X (-2) dX11_drought_72 (by decide) ?_
      refine r_icmp_ne (pc := 74) X 82 dX11_drought_74 (by decide) (fun c17 => ?_) (fun c17 => ?_)
      · rw [if_neg c17] at hf
        refine r_iload (pc := 82) X dX11_drought_82 rfl ?_
        refine r_istore (pc := 84) X [some (.ref v0), some (.int v1), some (.int v2), some (.int v3), some (.int s.1), some (.int s.2.1), some (.int s.2.2.1)] dX11_drought_84 (by decide) rfl ?_
        obtain ⟨x13, ex13, hf⟩ := ob hf
        refine r_iinc2 (pc := 86) X 1 [some (.ref v0), some (.int v1), some (.int v2), some (.int v3), some (.int s.1), some (.int x13), some (.int s.2.2.1)] dX11_drought_86 (by decide) rfl (by decide) ex13 rfl ?_
        obtain ⟨x14, ex14, hf⟩ := ob hf
        refine r_iinc2 (pc := 89) X 1 [some (.ref v0), some (.int v1), some (.int v2), some (.int v3), some (.int s.1), some (.int x13), some (.int x14)] dX11_drought_89 (by decide) rfl (by decide) ex14 rfl ?_
        refine r_goto (pc := 92) X 44 dX11_drought_92 (by decide) ?_
        obtain rfl := Option.some.inj hf
        exact hk
      · rw [if_pos c17] at hf
        refine r_iload (pc := 77) X dX11_drought_77 rfl ?_
        refine r_goto (pc := 79) X 84 dX11_drought_79 (by decide) ?_
        refine r_istore (pc := 84) X [some (.ref v0), some (.int v1), some (.int v2), some (.int v3), some (.int s.2.2.1), some (.int s.2.1), some (.int s.2.2.1)] dX11_drought_84 (by decide) rfl ?_
        obtain ⟨x15, ex15, hf⟩ := ob hf
        refine r_iinc2 (pc := 86) X 1 [some (.ref v0), some (.int v1), some (.int v2), some (.int v3), some (.int s.2.2.1), some (.int x15), some (.int s.2.2.1)] dX11_drought_86 (by decide) rfl (by decide) ex15 rfl ?_
        obtain ⟨x16, ex16, hf⟩ := ob hf
        refine r_iinc2 (pc := 89) X 1 [some (.ref v0), some (.int v1), some (.int v2), some (.int v3), some (.int s.2.2.1), some (.int x15), some (.int x16)] dX11_drought_89 (by decide) rfl (by decide) ex16 rfl ?_
        refine r_goto (pc := 92) X 44 dX11_drought_92 (by decide) ?_
        obtain rfl := Option.some.inj hf
        exact hk
def fn_X11_drought (h : aH) (p0 : Nat) (p1 : Int32) (p2 : Int32) (p3 : Int32) : Option (Int32 × aH) :=
  (gR h p0 10 1).bind fun a1 =>
  (ck h a1 0).bind fun u2 =>
  (fn_X0_hasBasin h a1 p1).bind fun x3 =>
  if x3 = 0 then
    some ((-1), h)
  else
    (gR h p0 10 1).bind fun a4 =>
    (ck h a4 0).bind fun u5 =>
    (fn_X0_hasBasin h a4 p2).bind fun x6 =>
    if x6 = 0 then
      some ((-1), h)
    else
      if p3 < 0 then
        some ((-1), h)
      else
        if p3 ≤ 40 then
          (lp (lb_X11_drought_44 p0 p1 p2 p3) lpN ((-2), 0, 0, h)).bind fun o20 =>
          if o20.1 = (-2) then
            some (o20.1, o20.2.2)
          else
            (gR o20.2.2 p0 10 11).bind fun a22 =>
            (ck o20.2.2 a22 2).bind fun u23 =>
            (fn_X3_begin o20.2.2 a22).bind fun h24 =>
            (gR h24 p0 10 11).bind fun a25 =>
            (ck h24 a25 2).bind fun u26 =>
            (fn_X3_add h24 a25 (Int32.toInt64 o20.2.1)).bind fun h27 =>
            some (o20.1, h27)
        else
          some ((-1), h)
set_option maxRecDepth 20000 in
set_option maxHeartbeats 4000000 in
theorem ev_X11_drought {l : Launch} {g : aG} {d : Nat} (hd : 6 ≤ d) (h : aH) (p0 : Nat) (p1 : Int32) (p2 : Int32) (p3 : Int32) (o : Int32 × aH) (hf : fn_X11_drought h p0 p1 p2 p3 = some o) : EvM l g d yX11_drought cX11_drought 7 (some .int) [.ref p0, .int p1, .int p2, .int p3] h (some (.int o.1), o.2) := by
  refine EvM.of mk_X11_drought (Nat.le_of_ble_eq_true rfl) ?_
  intro Γ hl hg hq X
  have hd1 : 1 ≤ d := by omega
  have hk : RqI Γ o := hq
  unfold fn_X11_drought at hf
  show Jd Γ (0, 0) 0 [some (.ref p0), some (.int p1), some (.int p2), some (.int p3), none, none, none] [] h
  refine r_aload_n (pc := 0) X dX11_drought_0 rfl ?_
  obtain ⟨a1, ea1, hf⟩ := ob hf
  refine r_getR (pc := 1) X dX11_drought_1 fl_X11_19 rfl ea1 ?_
  refine r_iload_n (pc := 4) X dX11_drought_4 rfl ?_
  obtain ⟨u2, eu2, hf⟩ := ob hf
  obtain ⟨x3, ex3, hf⟩ := ob hf
  refine r_callVI (pc := 5) X [.int p1] dX11_drought_5 ml_X11_172 vo_X0_hasBasin ⟨Nat.le_refl _, Nat.le_refl _⟩ eu2 (ev_X0_hasBasin (d := d - 1) (by omega) _ _ _ _ ex3) hd1 rfl (Nat.le_of_ble_eq_true rfl) rfl ?_
  refine r_if_eq (pc := 8) X 32 dX11_drought_8 (by decide) (fun c32 => ?_) (fun c32 => ?_)
  · rw [if_pos c32] at hf
    refine r_iconst (pc := 32) X (-1) dX11_drought_32 (by decide) ?_
    obtain rfl := Option.some.inj hf
    exact r_iret (pc := 33) X dX11_drought_33 hk
  · rw [if_neg c32] at hf
    refine r_aload_n (pc := 11) X dX11_drought_11 rfl ?_
    obtain ⟨a4, ea4, hf⟩ := ob hf
    refine r_getR (pc := 12) X dX11_drought_12 fl_X11_19 rfl ea4 ?_
    refine r_iload_n (pc := 15) X dX11_drought_15 rfl ?_
    obtain ⟨u5, eu5, hf⟩ := ob hf
    obtain ⟨x6, ex6, hf⟩ := ob hf
    refine r_callVI (pc := 16) X [.int p2] dX11_drought_16 ml_X11_172 vo_X0_hasBasin ⟨Nat.le_refl _, Nat.le_refl _⟩ eu5 (ev_X0_hasBasin (d := d - 1) (by omega) _ _ _ _ ex6) hd1 rfl (Nat.le_of_ble_eq_true rfl) rfl ?_
    refine r_if_eq (pc := 19) X 32 dX11_drought_19 (by decide) (fun c31 => ?_) (fun c31 => ?_)
    · rw [if_pos c31] at hf
      refine r_iconst (pc := 32) X (-1) dX11_drought_32 (by decide) ?_
      obtain rfl := Option.some.inj hf
      exact r_iret (pc := 33) X dX11_drought_33 hk
    · rw [if_neg c31] at hf
      refine r_iload_n (pc := 22) X dX11_drought_22 rfl ?_
      refine r_if_lt (pc := 23) X 32 dX11_drought_23 (by decide) (fun c30 => ?_) (fun c30 => ?_)
      · rw [if_pos c30] at hf
        refine r_iconst (pc := 32) X (-1) dX11_drought_32 (by decide) ?_
        obtain rfl := Option.some.inj hf
        exact r_iret (pc := 33) X dX11_drought_33 hk
      · rw [if_neg c30] at hf
        refine r_iload_n (pc := 26) X dX11_drought_26 rfl ?_
        refine r_bipush (pc := 27) X 40 dX11_drought_27 (by decide) ?_
        refine r_icmp_le (pc := 29) X 34 dX11_drought_29 (by decide) (fun c29 => ?_) (fun c29 => ?_)
        · rw [if_pos c29] at hf
          refine r_bipush (pc := 34) X (-2) dX11_drought_34 (by decide) ?_
          refine r_istore (pc := 36) X [some (.ref p0), some (.int p1), some (.int p2), some (.int p3), some (.int (-2)), none, none] dX11_drought_36 (by decide) rfl ?_
          refine r_iconst (pc := 38) X 0 dX11_drought_38 (by decide) ?_
          refine r_istore (pc := 39) X [some (.ref p0), some (.int p1), some (.int p2), some (.int p3), some (.int (-2)), some (.int 0), none] dX11_drought_39 (by decide) rfl ?_
          refine r_iconst (pc := 41) X 0 dX11_drought_41 (by decide) ?_
          refine r_istore (pc := 42) X [some (.ref p0), some (.int p1), some (.int p2), some (.int p3), some (.int (-2)), some (.int 0), some (.int 0)] dX11_drought_42 (by decide) rfl ?_
          obtain ⟨o20, eo20, hf⟩ := ob hf
          refine (lw_X11_drought_44 X hd _ _ _ _ lpN _ o20 eo20 ?_)
          intro j21
          refine r_iload (pc := 95) X dX11_drought_95 rfl ?_
          refine r_bipush (pc := 97) X (-2) dX11_drought_97 (by decide) ?_
          refine r_icmp_eq (pc := 99) X 119 dX11_drought_99 (by decide) (fun c28 => ?_) (fun c28 => ?_)
          · rw [if_pos c28] at hf
            refine r_iload (pc := 119) X dX11_drought_119 rfl ?_
            obtain rfl := Option.some.inj hf
            exact r_iret (pc := 121) X dX11_drought_121 hk
          · rw [if_neg c28] at hf
            refine r_aload_n (pc := 102) X dX11_drought_102 rfl ?_
            obtain ⟨a22, ea22, hf⟩ := ob hf
            refine r_getR (pc := 103) X dX11_drought_103 fl_X11_81 rfl ea22 ?_
            obtain ⟨u23, eu23, hf⟩ := ob hf
            obtain ⟨h24, eh24, hf⟩ := ob hf
            refine r_callVV (pc := 106) X [] dX11_drought_106 ml_X11_242 vo_X3_begin ⟨Nat.le_refl _, Nat.le_refl _⟩ eu23 (ev_X3_begin (d := d - 1) (by omega) _ _ _ eh24) hd1 rfl (Nat.le_of_ble_eq_true rfl) rfl ?_
            refine r_aload_n (pc := 109) X dX11_drought_109 rfl ?_
            obtain ⟨a25, ea25, hf⟩ := ob hf
            refine r_getR (pc := 110) X dX11_drought_110 fl_X11_81 rfl ea25 ?_
            refine r_iload (pc := 113) X dX11_drought_113 rfl ?_
            refine r_i2l (pc := 115) X dX11_drought_115 ?_
            obtain ⟨u26, eu26, hf⟩ := ob hf
            obtain ⟨h27, eh27, hf⟩ := ob hf
            refine r_callVV (pc := 116) X [.long (Int32.toInt64 o20.2.1)] dX11_drought_116 ml_X11_248 vo_X3_add ⟨Nat.le_refl _, Nat.le_refl _⟩ eu26 (ev_X3_add (d := d - 1) (by omega) _ _ _ _ eh27) hd1 rfl (Nat.le_of_ble_eq_true rfl) rfl ?_
            refine r_iload (pc := 119) X dX11_drought_119 rfl ?_
            obtain rfl := Option.some.inj hf
            exact r_iret (pc := 121) X dX11_drought_121 hk
        · rw [if_neg c29] at hf
          refine r_iconst (pc := 32) X (-1) dX11_drought_32 (by decide) ?_
          obtain rfl := Option.some.inj hf
          exact r_iret (pc := 33) X dX11_drought_33 hk
