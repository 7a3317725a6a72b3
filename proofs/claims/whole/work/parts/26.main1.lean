theorem dX11_sign_0 : decode cX11_sign 0 = .ok (.aload_n 0, 1) := by decide +kernel
theorem dX11_sign_1 : decode cX11_sign 1 = .ok (.getfield 12, 3) := by decide +kernel
theorem dX11_sign_4 : decode cX11_sign 4 = .ok (.iload_n 1, 1) := by decide +kernel
theorem dX11_sign_5 : decode cX11_sign 5 = .ok (.invokevirtual 105, 3) := by decide +kernel
theorem dX11_sign_8 : decode cX11_sign 8 = .ok (.ireturn, 1) := by decide +kernel
def fn_X11_sign (h : aH) (p0 : Nat) (p1 : Int32) : Option (Int32 × aH) :=
  (gR h p0 10 0).bind fun a1 =>
  (ck h a1 7).bind fun u2 =>
  (fn_X8_append h a1 p1).bind fun o3 =>
  some (o3.1, o3.2)
set_option maxRecDepth 20000 in
set_option maxHeartbeats 4000000 in
theorem ev_X11_sign {l : Launch} {g : aG} {d : Nat} (hd : 1 ≤ d) (h : aH) (p0 : Nat) (p1 : Int32) (o : Int32 × aH) (hf : fn_X11_sign h p0 p1 = some o) : EvM l g d yX11_sign cX11_sign 2 (some .int) [.ref p0, .int p1] h (some (.int o.1), o.2) := by
  refine EvM.of mk_X11_sign (Nat.le_of_ble_eq_true rfl) ?_
  intro Γ hl hg hq X
  have hd1 : 1 ≤ d := by omega
  have hk : RqI Γ o := hq
  unfold fn_X11_sign at hf
  show Jd Γ (0, 0) 0 [some (.ref p0), some (.int p1)] [] h
  refine r_aload_n (pc := 0) X dX11_sign_0 rfl ?_
  obtain ⟨a1, ea1, hf⟩ := ob hf
  refine r_getR (pc := 1) X dX11_sign_1 fl_X11_12 rfl ea1 ?_
  refine r_iload_n (pc := 4) X dX11_sign_4 rfl ?_
  obtain ⟨u2, eu2, hf⟩ := ob hf
  obtain ⟨o3, eo3, hf⟩ := ob hf
  refine r_callVI (pc := 5) X [.int p1] dX11_sign_5 ml_X11_105 vo_X8_append ⟨Nat.le_refl _, Nat.le_refl _⟩ eu2 (ev_X8_append (d := d - 1) (by omega) _ _ _ _ eo3) hd1 rfl (Nat.le_of_ble_eq_true rfl) rfl ?_
  obtain rfl := Option.some.inj hf
  exact r_iret (pc := 8) X dX11_sign_8 hk

theorem dX11_end_0 : decode cX11_end 0 = .ok (.aload_n 0, 1) := by decide +kernel
theorem dX11_end_1 : decode cX11_end 1 = .ok (.getfield 12, 3) := by decide +kernel
theorem dX11_end_4 : decode cX11_end 4 = .ok (.iload_n 1, 1) := by decide +kernel
theorem dX11_end_5 : decode cX11_end 5 = .ok (.invokevirtual 109, 3) := by decide +kernel
theorem dX11_end_8 : decode cX11_end 8 = .ok (.ireturn, 1) := by decide +kernel
def fn_X11_end (h : aH) (p0 : Nat) (p1 : Int32) : Option (Int32 × aH) :=
  (gR h p0 10 0).bind fun a1 =>
  (ck h a1 7).bind fun u2 =>
  (fn_X8_shorten h a1 p1).bind fun o3 =>
  (bz o3.1).bind fun x4 =>
  some (x4, o3.2)
set_option maxRecDepth 20000 in
set_option maxHeartbeats 4000000 in
theorem ev_X11_end {l : Launch} {g : aG} {d : Nat} (hd : 1 ≤ d) (h : aH) (p0 : Nat) (p1 : Int32) (o : Int32 × aH) (hf : fn_X11_end h p0 p1 = some o) : EvM l g d yX11_end cX11_end 2 (some .boolean) [.ref p0, .int p1] h (some (.int o.1), o.2) := by
  refine EvM.of mk_X11_end (Nat.le_of_ble_eq_true rfl) ?_
  intro Γ hl hg hq X
  have hd1 : 1 ≤ d := by omega
  have hk : RqI Γ o := hq
  unfold fn_X11_end at hf
  show Jd Γ (0, 0) 0 [some (.ref p0), some (.int p1)] [] h
  refine r_aload_n (pc := 0) X dX11_end_0 rfl ?_
  obtain ⟨a1, ea1, hf⟩ := ob hf
  refine r_getR (pc := 1) X dX11_end_1 fl_X11_12 rfl ea1 ?_
  refine r_iload_n (pc := 4) X dX11_end_4 rfl ?_
  obtain ⟨u2, eu2, hf⟩ := ob hf
  obtain ⟨o3, eo3, hf⟩ := ob hf
  refine r_callVI (pc := 5) X [.int p1] dX11_end_5 ml_X11_109 vo_X8_shorten ⟨Nat.le_refl _, Nat.le_refl _⟩ eu2 (ev_X8_shorten (d := d - 1) (by omega) _ _ _ _ eo3) hd1 rfl (Nat.le_of_ble_eq_true rfl) rfl ?_
  obtain ⟨x4, ex4, hf⟩ := ob hf
  obtain rfl := Option.some.inj hf
  exact r_zretB (pc := 8) X dX11_end_8 ex4 hk

theorem dX11_kindOf_0 : decode cX11_kindOf 0 = .ok (.iload_n 0, 1) := by decide +kernel
theorem dX11_kindOf_1 : decode cX11_kindOf 1 = .ok (.lookupswitch 41 #[(103, 35), (115, 39), (119, 37)], 35) := by decide +kernel
theorem dX11_kindOf_36 : decode cX11_kindOf 36 = .ok (.iconst 0, 1) := by decide +kernel
theorem dX11_kindOf_37 : decode cX11_kindOf 37 = .ok (.ireturn, 1) := by decide +kernel
theorem dX11_kindOf_38 : decode cX11_kindOf 38 = .ok (.iconst 1, 1) := by decide +kernel
theorem dX11_kindOf_39 : decode cX11_kindOf 39 = .ok (.ireturn, 1) := by decide +kernel
theorem dX11_kindOf_40 : decode cX11_kindOf 40 = .ok (.iconst 2, 1) := by decide +kernel
theorem dX11_kindOf_41 : decode cX11_kindOf 41 = .ok (.ireturn, 1) := by decide +kernel
theorem dX11_kindOf_42 : decode cX11_kindOf 42 = .ok (.iconst (-1), 1) := by decide +kernel
theorem dX11_kindOf_43 : decode cX11_kindOf 43 = .ok (.ireturn, 1) := by decide +kernel
def fn_X11_kindOf (h : aH) (p0 : Int32) : Option (Int32) :=
  if p0 = 103 then
    some 0
  else
  if p0 = 115 then
    some 2
  else
  if p0 = 119 then
    some 1
  else
  some (-1)
set_option maxRecDepth 20000 in
set_option maxHeartbeats 4000000 in
theorem ev_X11_kindOf {l : Launch} {g : aG} {d : Nat} (hd : 0 ≤ d) (h : aH) (p0 : Int32) (o : Int32) (hf : fn_X11_kindOf h p0 = some o) : EvM l g d yX11_kindOf cX11_kindOf 1 (some .int) [.int p0] h (some (.int o), h) := by
  refine EvM.of mk_X11_kindOf (Nat.le_of_ble_eq_true rfl) ?_
  intro Γ hl hg hq X
  have hd1 : 0 ≤ d := by omega
  have hk : RpI h Γ o := hq
  unfold fn_X11_kindOf at hf
  show Jd Γ (0, 0) 0 [some (.int p0)] [] h
  refine r_iload_n (pc := 0) X dX11_kindOf_0 rfl ?_
  by_cases c1 : p0 = 103
  · rw [if_pos c1] at hf
    refine r_lookup (pc := 1) X 36 dX11_kindOf_1 (by decide) (by rw [c1] <;> rfl) (by decide) ?_
    refine r_iconst (pc := 36) X 0 dX11_kindOf_36 (by decide) ?_
    obtain rfl := Option.some.inj hf
    exact r_iret (pc := 37) X dX11_kindOf_37 hk
  rw [if_neg c1] at hf
  by_cases c2 : p0 = 115
  · rw [if_pos c2] at hf
    refine r_lookup (pc := 1) X 40 dX11_kindOf_1 (by decide) (by rw [c2] <;> rfl) (by decide) ?_
    refine r_iconst (pc := 40) X 2 dX11_kindOf_40 (by decide) ?_
    obtain rfl := Option.some.inj hf
    exact r_iret (pc := 41) X dX11_kindOf_41 hk
  rw [if_neg c2] at hf
  by_cases c3 : p0 = 119
  · rw [if_pos c3] at hf
    refine r_lookup (pc := 1) X 38 dX11_kindOf_1 (by decide) (by rw [c3] <;> rfl) (by decide) ?_
    refine r_iconst (pc := 38) X 1 dX11_kindOf_38 (by decide) ?_
    obtain rfl := Option.some.inj hf
    exact r_iret (pc := 39) X dX11_kindOf_39 hk
  rw [if_neg c3] at hf
  refine r_lookup (off := (41 : Int)) (pc := 1) X 42 dX11_kindOf_1 (by decide) ((lv_osw c1 (by decide)).trans ((lv_osw c2 (by decide)).trans ((lv_osw c3 (by decide)).trans rfl))) (by decide) ?_
  refine r_iconst (pc := 42) X (-1) dX11_kindOf_42 (by decide) ?_
  obtain rfl := Option.some.inj hf
  exact r_iret (pc := 43) X dX11_kindOf_43 hk

theorem dX11_standsInSluice_0 : decode cX11_standsInSluice 0 = .ok (.aload_n 0, 1) := by decide +kernel
theorem dX11_standsInSluice_1 : decode cX11_standsInSluice 1 = .ok (.getfield 12, 3) := by decide +kernel
theorem dX11_standsInSluice_4 : decode cX11_standsInSluice 4 = .ok (.iload_n 1, 1) := by decide +kernel
theorem dX11_standsInSluice_5 : decode cX11_standsInSluice 5 = .ok (.invokevirtual 138, 3) := by decide +kernel
theorem dX11_standsInSluice_8 : decode cX11_standsInSluice 8 = .ok (.istore_n 2, 1) := by decide +kernel
theorem dX11_standsInSluice_9 : decode cX11_standsInSluice 9 = .ok (.iload_n 1, 1) := by decide +kernel
theorem dX11_standsInSluice_10 : decode cX11_standsInSluice 10 = .ok (.iconst 4, 1) := by decide +kernel
theorem dX11_standsInSluice_11 : decode cX11_standsInSluice 11 = .ok (.irem, 1) := by decide +kernel
theorem dX11_standsInSluice_12 : decode cX11_standsInSluice 12 = .ok (.tableswitch 126 0 2 #[28, 63, 112], 28) := by decide +kernel
theorem dX11_standsInSluice_40 : decode cX11_standsInSluice 40 = .ok (.aload_n 0, 1) := by decide +kernel
theorem dX11_standsInSluice_41 : decode cX11_standsInSluice 41 = .ok (.getfield 12, 3) := by decide +kernel
theorem dX11_standsInSluice_44 : decode cX11_standsInSluice 44 = .ok (.iload_n 1, 1) := by decide +kernel
theorem dX11_standsInSluice_45 : decode cX11_standsInSluice 45 = .ok (.invokevirtual 169, 3) := by decide +kernel
theorem dX11_standsInSluice_48 : decode cX11_standsInSluice 48 = .ok (.ifCond .eq 25, 3) := by decide +kernel
theorem dX11_standsInSluice_51 : decode cX11_standsInSluice 51 = .ok (.aload_n 0, 1) := by decide +kernel
theorem dX11_standsInSluice_52 : decode cX11_standsInSluice 52 = .ok (.getfield 19, 3) := by decide +kernel
theorem dX11_standsInSluice_55 : decode cX11_standsInSluice 55 = .ok (.aload_n 0, 1) := by decide +kernel
theorem dX11_standsInSluice_56 : decode cX11_standsInSluice 56 = .ok (.getfield 12, 3) := by decide +kernel
theorem dX11_standsInSluice_59 : decode cX11_standsInSluice 59 = .ok (.iload_n 1, 1) := by decide +kernel
theorem dX11_standsInSluice_60 : decode cX11_standsInSluice 60 = .ok (.invokevirtual 135, 3) := by decide +kernel
theorem dX11_standsInSluice_63 : decode cX11_standsInSluice 63 = .ok (.invokevirtual 172, 3) := by decide +kernel
theorem dX11_standsInSluice_66 : decode cX11_standsInSluice 66 = .ok (.ifCond .eq 7, 3) := by decide +kernel
theorem dX11_standsInSluice_69 : decode cX11_standsInSluice 69 = .ok (.iconst 1, 1) := by decide +kernel
theorem dX11_standsInSluice_70 : decode cX11_standsInSluice 70 = .ok (.goto 4, 3) := by decide +kernel
theorem dX11_standsInSluice_73 : decode cX11_standsInSluice 73 = .ok (.iconst 0, 1) := by decide +kernel
theorem dX11_standsInSluice_74 : decode cX11_standsInSluice 74 = .ok (.ireturn, 1) := by decide +kernel
theorem dX11_standsInSluice_75 : decode cX11_standsInSluice 75 = .ok (.aload_n 0, 1) := by decide +kernel
theorem dX11_standsInSluice_76 : decode cX11_standsInSluice 76 = .ok (.getfield 12, 3) := by decide +kernel
theorem dX11_standsInSluice_79 : decode cX11_standsInSluice 79 = .ok (.iload_n 1, 1) := by decide +kernel
theorem dX11_standsInSluice_80 : decode cX11_standsInSluice 80 = .ok (.invokevirtual 169, 3) := by decide +kernel
theorem dX11_standsInSluice_83 : decode cX11_standsInSluice 83 = .ok (.ifCond .eq 39, 3) := by decide +kernel
theorem dX11_standsInSluice_86 : decode cX11_standsInSluice 86 = .ok (.aload_n 0, 1) := by decide +kernel
theorem dX11_standsInSluice_87 : decode cX11_standsInSluice 87 = .ok (.getfield 19, 3) := by decide +kernel
theorem dX11_standsInSluice_90 : decode cX11_standsInSluice 90 = .ok (.aload_n 0, 1) := by decide +kernel
theorem dX11_standsInSluice_91 : decode cX11_standsInSluice 91 = .ok (.getfield 12, 3) := by decide +kernel
theorem dX11_standsInSluice_94 : decode cX11_standsInSluice 94 = .ok (.iload_n 1, 1) := by decide +kernel
theorem dX11_standsInSluice_95 : decode cX11_standsInSluice 95 = .ok (.invokevirtual 135, 3) := by decide +kernel
theorem dX11_standsInSluice_98 : decode cX11_standsInSluice 98 = .ok (.invokevirtual 172, 3) := by decide +kernel
theorem dX11_standsInSluice_101 : decode cX11_standsInSluice 101 = .ok (.ifCond .eq 21, 3) := by decide +kernel
theorem dX11_standsInSluice_104 : decode cX11_standsInSluice 104 = .ok (.iload_n 2, 1) := by decide +kernel
theorem dX11_standsInSluice_105 : decode cX11_standsInSluice 105 = .ok (.aload_n 0, 1) := by decide +kernel
theorem dX11_standsInSluice_106 : decode cX11_standsInSluice 106 = .ok (.getfield 12, 3) := by decide +kernel
theorem dX11_standsInSluice_109 : decode cX11_standsInSluice 109 = .ok (.iload_n 1, 1) := by decide +kernel
theorem dX11_standsInSluice_110 : decode cX11_standsInSluice 110 = .ok (.iconst 1, 1) := by decide +kernel
theorem dX11_standsInSluice_111 : decode cX11_standsInSluice 111 = .ok (.isub, 1) := by decide +kernel
theorem dX11_standsInSluice_112 : decode cX11_standsInSluice 112 = .ok (.invokevirtual 138, 3) := by decide +kernel
theorem dX11_standsInSluice_115 : decode cX11_standsInSluice 115 = .ok (.if_icmp .eq 7, 3) := by decide +kernel
theorem dX11_standsInSluice_118 : decode cX11_standsInSluice 118 = .ok (.iconst 1, 1) := by decide +kernel
theorem dX11_standsInSluice_119 : decode cX11_standsInSluice 119 = .ok (.goto 4, 3) := by decide +kernel
theorem dX11_standsInSluice_122 : decode cX11_standsInSluice 122 = .ok (.iconst 0, 1) := by decide +kernel
theorem dX11_standsInSluice_123 : decode cX11_standsInSluice 123 = .ok (.ireturn, 1) := by decide +kernel
theorem dX11_standsInSluice_124 : decode cX11_standsInSluice 124 = .ok (.iload_n 2, 1) := by decide +kernel
theorem dX11_standsInSluice_125 : decode cX11_standsInSluice 125 = .ok (.invokestatic 141, 3) := by decide +kernel
theorem dX11_standsInSluice_128 : decode cX11_standsInSluice 128 = .ok (.iconst (-1), 1) := by decide +kernel
theorem dX11_standsInSluice_129 : decode cX11_standsInSluice 129 = .ok (.if_icmp .eq 7, 3) := by decide +kernel
theorem dX11_standsInSluice_132 : decode cX11_standsInSluice 132 = .ok (.iconst 1, 1) := by decide +kernel
theorem dX11_standsInSluice_133 : decode cX11_standsInSluice 133 = .ok (.goto 4, 3) := by decide +kernel
theorem dX11_standsInSluice_136 : decode cX11_standsInSluice 136 = .ok (.iconst 0, 1) := by decide +kernel
theorem dX11_standsInSluice_137 : decode cX11_standsInSluice 137 = .ok (.ireturn, 1) := by decide +kernel
theorem dX11_standsInSluice_138 : decode cX11_standsInSluice 138 = .ok (.iload_n 2, 1) := by decide +kernel
theorem dX11_standsInSluice_139 : decode cX11_standsInSluice 139 = .ok (.bipush 59, 2) := by decide +kernel
theorem dX11_standsInSluice_141 : decode cX11_standsInSluice 141 = .ok (.if_icmp .ne 7, 3) := by decide +kernel
theorem dX11_standsInSluice_144 : decode cX11_standsInSluice 144 = .ok (.iconst 1, 1) := by decide +kernel
theorem dX11_standsInSluice_145 : decode cX11_standsInSluice 145 = .ok (.goto 4, 3) := by decide +kernel
theorem dX11_standsInSluice_148 : decode cX11_standsInSluice 148 = .ok (.iconst 0, 1) := by decide +kernel
theorem dX11_standsInSluice_149 : decode cX11_standsInSluice 149 = .ok (.ireturn, 1) := by decide +kernel
def fn_X11_standsInSluice (h : aH) (p0 : Nat) (p1 : Int32) : Option (Int32) :=
  (gR h p0 10 0).bind fun a1 =>
  (ck h a1 7).bind fun u2 =>
  (fn_X8_at h a1 p1).bind fun x3 =>
  (irm p1 4).bind fun x4 =>
  if x4 = 0 then
    (gR h p0 10 0).bind fun a6 =>
    (ck h a6 7).bind fun u7 =>
    (fn_X8_isDigit h a6 p1).bind fun x8 =>
    if x8 = 0 then
      some 0
    else
      (gR h p0 10 1).bind fun a9 =>
      (gR h p0 10 0).bind fun a10 =>
      (ck h a10 7).bind fun u11 =>
      (fn_X8_digit h a10 p1).bind fun x12 =>
      (ck h a9 0).bind fun u13 =>
      (fn_X0_hasBasin h a9 x12).bind fun x14 =>
      if x14 = 0 then
        some 0
      else
        some 1
  else
  if x4 = 1 then
    (gR h p0 10 0).bind fun a18 =>
    (ck h a18 7).bind fun u19 =>
    (fn_X8_isDigit h a18 p1).bind fun x20 =>
    if x20 = 0 then
      some 0
    else
      (gR h p0 10 1).bind fun a21 =>
      (gR h p0 10 0).bind fun a22 =>
      (ck h a22 7).bind fun u23 =>
      (fn_X8_digit h a22 p1).bind fun x24 =>
      (ck h a21 0).bind fun u25 =>
      (fn_X0_hasBasin h a21 x24).bind fun x26 =>
      if x26 = 0 then
        some 0
      else
        (gR h p0 10 0).bind fun a27 =>
        (ck h a27 7).bind fun u28 =>
        (fn_X8_at h a27 (p1 - 1)).bind fun x29 =>
        if x3 = x29 then
          some 0
        else
          some 1
  else
  if x4 = 2 then
    (fn_X11_kindOf h x3).bind fun x34 =>
    if x34 = (-1) then
      some 0
    else
      some 1
  else
  if x3 = 59 then
    some 1
  else
    some 0
set_option maxRecDepth 20000 in
set_option maxHeartbeats 4000000 in
theorem ev_X11_standsInSluice {l : Launch} {g : aG} {d : Nat} (hd : 3 ≤ d) (h : aH) (p0 : Nat) (p1 : Int32) (o : Int32) (hf : fn_X11_standsInSluice h p0 p1 = some o) : EvM l g d yX11_standsInSluice cX11_standsInSluice 3 (some .boolean) [.ref p0, .int p1] h (some (.int o), h) := by
  refine EvM.of mk_X11_standsInSluice (Nat.le_of_ble_eq_true rfl) ?_
  intro Γ hl hg hq X
  have hd1 : 1 ≤ d := by omega
  have hk : RpI h Γ o := hq
  unfold fn_X11_standsInSluice at hf
  show Jd Γ (0, 0) 0 [some (.ref p0), some (.int p1), none] [] h
  refine r_aload_n (pc := 0) X dX11_standsInSluice_0 rfl ?_
  obtain ⟨a1, ea1, hf⟩ := ob hf
  refine r_getR (pc := 1) X dX11_standsInSluice_1 fl_X11_12 rfl ea1 ?_
  refine r_iload_n (pc := 4) X dX11_standsInSluice_4 rfl ?_
  obtain ⟨u2, eu2, hf⟩ := ob hf
  obtain ⟨x3, ex3, hf⟩ := ob hf
  refine r_callVI (pc := 5) X [.int p1] dX11_standsInSluice_5 ml_X11_138 vo_X8_at ⟨Nat.le_refl _, Nat.le_refl _⟩ eu2 (ev_X8_at (d := d - 1) (by omega) _ _ _ _ ex3) hd1 rfl (Nat.le_of_ble_eq_true rfl) rfl ?_
  refine r_istore_n (pc := 8) X [some (.ref p0), some (.int p1), some (.int x3)] dX11_standsInSluice_8 (by decide) rfl ?_
  refine r_iload_n (pc := 9) X dX11_standsInSluice_9 rfl ?_
  refine r_iconst (pc := 10) X 4 dX11_standsInSluice_10 (by decide) ?_
  obtain ⟨x4, ex4, hf⟩ := ob hf
  refine r_irem (pc := 11) X dX11_standsInSluice_11 ex4 ?_
  by_cases c5 : x4 = 0
  · rw [if_pos c5] at hf
    refine r_tableIn (pc := 12) X 40 dX11_standsInSluice_12 (by rw [c5] <;> decide) (by rw [c5] <;> decide) (by rw [c5] <;> rfl) (by decide) ?_
    refine r_aload_n (pc := 40) X dX11_standsInSluice_40 rfl ?_
    obtain ⟨a6, ea6, hf⟩ := ob hf
    refine r_getR (pc := 41) X dX11_standsInSluice_41 fl_X11_12 rfl ea6 ?_
    refine r_iload_n (pc := 44) X dX11_standsInSluice_44 rfl ?_
    obtain ⟨u7, eu7, hf⟩ := ob hf
    obtain ⟨x8, ex8, hf⟩ := ob hf
    refine r_callVI (pc := 45) X [.int p1] dX11_standsInSluice_45 ml_X11_169 vo_X8_isDigit ⟨Nat.le_refl _, Nat.le_refl _⟩ eu7 (ev_X8_isDigit (d := d - 1) (by omega) _ _ _ _ ex8) hd1 rfl (Nat.le_of_ble_eq_true rfl) rfl ?_
    refine r_if_eq (pc := 48) X 73 dX11_standsInSluice_48 (by decide) (fun c16 => ?_) (fun c16 => ?_)
    · rw [if_pos c16] at hf
      refine r_iconst (pc := 73) X 0 dX11_standsInSluice_73 (by decide) ?_
      obtain rfl := Option.some.inj hf
      exact r_zret (pc := 74) X dX11_standsInSluice_74 (Or.inl rfl) hk
    · rw [if_neg c16] at hf
      refine r_aload_n (pc := 51) X dX11_standsInSluice_51 rfl ?_
      obtain ⟨a9, ea9, hf⟩ := ob hf
      refine r_getR (pc := 52) X dX11_standsInSluice_52 fl_X11_19 rfl ea9 ?_
      refine r_aload_n (pc := 55) X dX11_standsInSluice_55 rfl ?_
      obtain ⟨a10, ea10, hf⟩ := ob hf
      refine r_getR (pc := 56) X dX11_standsInSluice_56 fl_X11_12 rfl ea10 ?_
      refine r_iload_n (pc := 59) X dX11_standsInSluice_59 rfl ?_
      obtain ⟨u11, eu11, hf⟩ := ob hf
      obtain ⟨x12, ex12, hf⟩ := ob hf
      refine r_callVI (pc := 60) X [.int p1] dX11_standsInSluice_60 ml_X11_135 vo_X8_digit ⟨Nat.le_refl _, Nat.le_refl _⟩ eu11 (ev_X8_digit (d := d - 1) (by omega) _ _ _ _ ex12) hd1 rfl (Nat.le_of_ble_eq_true rfl) rfl ?_
      obtain ⟨u13, eu13, hf⟩ := ob hf
      obtain ⟨x14, ex14, hf⟩ := ob hf
      refine r_callVI (pc := 63) X [.int x12] dX11_standsInSluice_63 ml_X11_172 vo_X0_hasBasin ⟨Nat.le_refl _, Nat.le_refl _⟩ eu13 (ev_X0_hasBasin (d := d - 1) (by omega) _ _ _ _ ex14) hd1 rfl (Nat.le_of_ble_eq_true rfl) rfl ?_
      refine r_if_eq (pc := 66) X 73 dX11_standsInSluice_66 (by decide) (fun c15 => ?_) (fun c15 => ?_)
      · rw [if_pos c15] at hf
        refine r_iconst (pc := 73) X 0 dX11_standsInSluice_73 (by decide) ?_
        obtain rfl := Option.some.inj hf
        exact r_zret (pc := 74) X dX11_standsInSluice_74 (Or.inl rfl) hk
      · rw [if_neg c15] at hf
        refine r_iconst (pc := 69) X 1 dX11_standsInSluice_69 (by decide) ?_
        refine r_goto (pc := 70) X 74 dX11_standsInSluice_70 (by decide) ?_
        obtain rfl := Option.some.inj hf
        exact r_zret (pc := 74) X dX11_standsInSluice_74 (Or.inr rfl) hk
  rw [if_neg c5] at hf
  by_cases c17 : x4 = 1
  · rw [if_pos c17] at hf
    refine r_tableIn (pc := 12) X 75 dX11_standsInSluice_12 (by rw [c17] <;> decide) (by rw [c17] <;> decide) (by rw [c17] <;> rfl) (by decide) ?_
    refine r_aload_n (pc := 75) X dX11_standsInSluice_75 rfl ?_
    obtain ⟨a18, ea18, hf⟩ := ob hf
    refine r_getR (pc := 76) X dX11_standsInSluice_76 fl_X11_12 rfl ea18 ?_
    refine r_iload_n (pc := 79) X dX11_standsInSluice_79 rfl ?_
    obtain ⟨u19, eu19, hf⟩ := ob hf
    obtain ⟨x20, ex20, hf⟩ := ob hf
    refine r_callVI (pc := 80) X [.int p1] dX11_standsInSluice_80 ml_X11_169 vo_X8_isDigit ⟨Nat.le_refl _, Nat.le_refl _⟩ eu19 (ev_X8_isDigit (d := d - 1) (by omega) _ _ _ _ ex20) hd1 rfl (Nat.le_of_ble_eq_true rfl) rfl ?_
    refine r_if_eq (pc := 83) X 122 dX11_standsInSluice_83 (by decide) (fun c32 => ?_) (fun c32 => ?_)
    · rw [if_pos c32] at hf
      refine r_iconst (pc := 122) X 0 dX11_standsInSluice_122 (by decide) ?_
      obtain rfl := Option.some.inj hf
      exact r_zret (pc := 123) X dX11_standsInSluice_123 (Or.inl rfl) hk
    · rw [if_neg c32] at hf
      refine r_aload_n (pc := 86) X dX11_standsInSluice_86 rfl ?_
      obtain ⟨a21, ea21, hf⟩ := ob hf
      refine r_getR (pc := 87) X dX11_standsInSluice_87 fl_X11_19 rfl ea21 ?_
      refine r_aload_n (pc := 90) X dX11_standsInSluice_90 rfl ?_
      obtain ⟨a22, ea22, hf⟩ := ob hf
      refine r_getR (pc := 91) X dX11_standsInSluice_91 fl_X11_12 rfl ea22 ?_
      refine r_iload_n (pc := 94) X dX11_standsInSluice_94 rfl ?_
      obtain ⟨u23, eu23, hf⟩ := ob hf
      obtain ⟨x24, ex24, hf⟩ := ob hf
      refine r_callVI (pc := 95) X [.int p1] dX11_standsInSluice_95 ml_X11_135 vo_X8_digit ⟨Nat.le_refl _, Nat.le_refl _⟩ eu23 (ev_X8_digit (d := d - 1) (by omega) _ _ _ _ ex24) hd1 rfl (Nat.le_of_ble_eq_true rfl) rfl ?_
      obtain ⟨u25, eu25, hf⟩ := ob hf
      obtain ⟨x26, ex26, hf⟩ := ob hf
      refine r_callVI (pc := 98) X [.int x24] dX11_standsInSluice_98 ml_X11_172 vo_X0_hasBasin ⟨Nat.le_refl _, Nat.le_refl _⟩ eu25 (ev_X0_hasBasin (d := d - 1) (by omega) _ _ _ _ ex26) hd1 rfl (Nat.le_of_ble_eq_true rfl) rfl ?_
      refine r_if_eq (pc := 101) X 122 dX11_standsInSluice_101 (by decide) (fun c31 => ?_) (fun c31 => ?_)
      · rw [if_pos c31] at hf
        refine r_iconst (pc := 122) X 0 dX11_standsInSluice_122 (by decide) ?_
        obtain rfl := Option.some.inj hf
        exact r_zret (pc := 123) X dX11_standsInSluice_123 (Or.inl rfl) hk
      · rw [if_neg c31] at hf
        refine r_iload_n (pc := 104) X dX11_standsInSluice_104 rfl ?_
        refine r_aload_n (pc := 105) X dX11_standsInSluice_105 rfl ?_
        obtain ⟨a27, ea27, hf⟩ := ob hf
        refine r_getR (pc := 106) X dX11_standsInSluice_106 fl_X11_12 rfl ea27 ?_
        refine r_iload_n (pc := 109) X dX11_standsInSluice_109 rfl ?_
        refine r_iconst (pc := 110) X 1 dX11_standsInSluice_110 (by decide) ?_
        refine r_isub (pc := 111) X dX11_standsInSluice_111 ?_
        obtain ⟨u28, eu28, hf⟩ := ob hf
        obtain ⟨x29, ex29, hf⟩ := ob hf
        refine r_callVI (pc := 112) X [.int (p1 - 1)] dX11_standsInSluice_112 ml_X11_138 vo_X8_at ⟨Nat.le_refl _, Nat.le_refl _⟩ eu28 (ev_X8_at (d := d - 1) (by omega) _ _ _ _ ex29) hd1 rfl (Nat.le_of_ble_eq_true rfl) rfl ?_
        refine r_icmp_eq (pc := 115) X 122 dX11_standsInSluice_115 (by decide) (fun c30 => ?_) (fun c30 => ?_)
        · rw [if_pos c30] at hf
          refine r_iconst (pc := 122) X 0 dX11_standsInSluice_122 (by decide) ?_
          obtain rfl := Option.some.inj hf
          exact r_zret (pc := 123) X dX11_standsInSluice_123 (Or.inl rfl) hk
        · rw [if_neg c30] at hf
          refine r_iconst (pc := 118) X 1 dX11_standsInSluice_118 (by decide) ?_
          refine r_goto (pc := 119) X 123 dX11_standsInSluice_119 (by decide) ?_
          obtain rfl := Option.some.inj hf
          exact r_zret (pc := 123) X dX11_standsInSluice_123 (Or.inr rfl) hk
  rw [if_neg c17] at hf
  by_cases c33 : x4 = 2
  · rw [if_pos c33] at hf
    refine r_tableIn (pc := 12) X 124 dX11_standsInSluice_12 (by rw [c33] <;> decide) (by rw [c33] <;> decide) (by rw [c33] <;> rfl) (by decide) ?_
    refine r_iload_n (pc := 124) X dX11_standsInSluice_124 rfl ?_
    obtain ⟨x34, ex34, hf⟩ := ob hf
    refine r_callSI (pc := 125) X [.int x3] dX11_standsInSluice_125 ml_X11_141 so_X11_kindOf ⟨Nat.le_refl _, Nat.le_refl _⟩ (ev_X11_kindOf (d := d - 1) (by omega) _ _ _ ex34) hd1 rfl (Nat.le_of_ble_eq_true rfl) rfl ?_
    refine r_iconst (pc := 128) X (-1) dX11_standsInSluice_128 (by decide) ?_
    refine r_icmp_eq (pc := 129) X 136 dX11_standsInSluice_129 (by decide) (fun c35 => ?_) (fun c35 => ?_)
    · rw [if_pos c35] at hf
      refine r_iconst (pc := 136) X 0 dX11_standsInSluice_136 (by decide) ?_
      obtain rfl := Option.some.inj hf
      exact r_zret (pc := 137) X dX11_standsInSluice_137 (Or.inl rfl) hk
    · rw [if_neg c35] at hf
      refine r_iconst (pc := 132) X 1 dX11_standsInSluice_132 (by decide) ?_
      refine r_goto (pc := 133) X 137 dX11_standsInSluice_133 (by decide) ?_
      obtain rfl := Option.some.inj hf
      exact r_zret (pc := 137) X dX11_standsInSluice_137 (Or.inr rfl) hk
  rw [if_neg c33] at hf
  have nc5 := lv_neT c5 (show (0 : Int32).toInt = 0 from by decide)
  have nc17 := lv_neT c17 (show (1 : Int32).toInt = 1 from by decide)
  have nc33 := lv_neT c33 (show (2 : Int32).toInt = 2 from by decide)
  refine r_tableOut (pc := 12) X 138 dX11_standsInSluice_12 (by omega) (by decide) ?_
  refine r_iload_n (pc := 138) X dX11_standsInSluice_138 rfl ?_
  refine r_bipush (pc := 139) X 59 dX11_standsInSluice_139 (by decide) ?_
  refine r_icmp_ne (pc := 141) X 148 dX11_standsInSluice_141 (by decide) (fun c36 => ?_) (fun c36 => ?_)
  · rw [if_neg c36] at hf
    refine r_iconst (pc := 148) X 0 dX11_standsInSluice_148 (by decide) ?_
    obtain rfl := Option.some.inj hf
    exact r_zret (pc := 149) X dX11_standsInSluice_149 (Or.inl rfl) hk
  · rw [if_pos c36] at hf
    refine r_iconst (pc := 144) X 1 dX11_standsInSluice_144 (by decide) ?_
    refine r_goto (pc := 145) X 149 dX11_standsInSluice_145 (by decide) ?_
    obtain rfl := Option.some.inj hf
    exact r_zret (pc := 149) X dX11_standsInSluice_149 (Or.inr rfl) hk

theorem dX11_standsInBasin_0 : decode cX11_standsInBasin 0 = .ok (.aload_n 0, 1) := by decide +kernel
theorem dX11_standsInBasin_1 : decode cX11_standsInBasin 1 = .ok (.getfield 12, 3) := by decide +kernel
theorem dX11_standsInBasin_4 : decode cX11_standsInBasin 4 = .ok (.iload_n 1, 1) := by decide +kernel
theorem dX11_standsInBasin_5 : decode cX11_standsInBasin 5 = .ok (.invokevirtual 138, 3) := by decide +kernel
theorem dX11_standsInBasin_8 : decode cX11_standsInBasin 8 = .ok (.istore_n 2, 1) := by decide +kernel
theorem dX11_standsInBasin_9 : decode cX11_standsInBasin 9 = .ok (.iload_n 1, 1) := by decide +kernel
theorem dX11_standsInBasin_10 : decode cX11_standsInBasin 10 = .ok (.iconst 4, 1) := by decide +kernel
theorem dX11_standsInBasin_11 : decode cX11_standsInBasin 11 = .ok (.irem, 1) := by decide +kernel
theorem dX11_standsInBasin_12 : decode cX11_standsInBasin 12 = .ok (.tableswitch 55 0 2 #[28, 28, 37], 28) := by decide +kernel
theorem dX11_standsInBasin_40 : decode cX11_standsInBasin 40 = .ok (.aload_n 0, 1) := by decide +kernel
theorem dX11_standsInBasin_41 : decode cX11_standsInBasin 41 = .ok (.getfield 12, 3) := by decide +kernel
theorem dX11_standsInBasin_44 : decode cX11_standsInBasin 44 = .ok (.iload_n 1, 1) := by decide +kernel
theorem dX11_standsInBasin_45 : decode cX11_standsInBasin 45 = .ok (.invokevirtual 169, 3) := by decide +kernel
theorem dX11_standsInBasin_48 : decode cX11_standsInBasin 48 = .ok (.ireturn, 1) := by decide +kernel
theorem dX11_standsInBasin_49 : decode cX11_standsInBasin 49 = .ok (.iload_n 2, 1) := by decide +kernel
theorem dX11_standsInBasin_50 : decode cX11_standsInBasin 50 = .ok (.bipush 46, 2) := by decide +kernel
theorem dX11_standsInBasin_52 : decode cX11_standsInBasin 52 = .ok (.if_icmp .eq 9, 3) := by decide +kernel
theorem dX11_standsInBasin_55 : decode cX11_standsInBasin 55 = .ok (.iload_n 2, 1) := by decide +kernel
theorem dX11_standsInBasin_56 : decode cX11_standsInBasin 56 = .ok (.bipush 33, 2) := by decide +kernel
theorem dX11_standsInBasin_58 : decode cX11_standsInBasin 58 = .ok (.if_icmp .ne 7, 3) := by decide +kernel
theorem dX11_standsInBasin_61 : decode cX11_standsInBasin 61 = .ok (.iconst 1, 1) := by decide +kernel
theorem dX11_standsInBasin_62 : decode cX11_standsInBasin 62 = .ok (.goto 4, 3) := by decide +kernel
theorem dX11_standsInBasin_65 : decode cX11_standsInBasin 65 = .ok (.iconst 0, 1) := by decide +kernel
theorem dX11_standsInBasin_66 : decode cX11_standsInBasin 66 = .ok (.ireturn, 1) := by decide +kernel
theorem dX11_standsInBasin_67 : decode cX11_standsInBasin 67 = .ok (.iload_n 2, 1) := by decide +kernel
theorem dX11_standsInBasin_68 : decode cX11_standsInBasin 68 = .ok (.bipush 59, 2) := by decide +kernel
theorem dX11_standsInBasin_70 : decode cX11_standsInBasin 70 = .ok (.if_icmp .ne 7, 3) := by decide +kernel
theorem dX11_standsInBasin_73 : decode cX11_standsInBasin 73 = .ok (.iconst 1, 1) := by decide +kernel
theorem dX11_standsInBasin_74 : decode cX11_standsInBasin 74 = .ok (.goto 4, 3) := by decide +kernel
theorem dX11_standsInBasin_77 : decode cX11_standsInBasin 77 = .ok (.iconst 0, 1) := by decide +kernel
theorem dX11_standsInBasin_78 : decode cX11_standsInBasin 78 = .ok (.ireturn, 1) := by decide +kernel
def fn_X11_standsInBasin (h : aH) (p0 : Nat) (p1 : Int32) : Option (Int32) :=
  (gR h p0 10 0).bind fun a1 =>
  (ck h a1 7).bind fun u2 =>
  (fn_X8_at h a1 p1).bind fun x3 =>
  (irm p1 4).bind fun x4 =>
  if x4 = 0 then
    (gR h p0 10 0).bind fun a6 =>
    (ck h a6 7).bind fun u7 =>
    (fn_X8_isDigit h a6 p1).bind fun x8 =>
    (bz x8).bind fun x9 =>
    some x9
  else
  if x4 = 1 then
    (gR h p0 10 0).bind fun a11 =>
    (ck h a11 7).bind fun u12 =>
    (fn_X8_isDigit h a11 p1).bind fun x13 =>
    (bz x13).bind fun x14 =>
    some x14
  else
  if x4 = 2 then
    if x3 = 46 then
      some 1
    else
      if x3 = 33 then
        some 1
      else
        some 0
  else
  if x3 = 59 then
    some 1
  else
    some 0
set_option maxRecDepth 20000 in
set_option maxHeartbeats 4000000 in
theorem ev_X11_standsInBasin {l : Launch} {g : aG} {d : Nat} (hd : 2 ≤ d) (h : aH) (p0 : Nat) (p1 : Int32) (o : Int32) (hf : fn_X11_standsInBasin h p0 p1 = some o) : EvM l g d yX11_standsInBasin cX11_standsInBasin 3 (some .boolean) [.ref p0, .int p1] h (some (.int o), h) := by
  refine EvM.of mk_X11_standsInBasin (Nat.le_of_ble_eq_true rfl) ?_
  intro Γ hl hg hq X
  have hd1 : 1 ≤ d := by omega
  have hk : RpI h Γ o := hq
  unfold fn_X11_standsInBasin at hf
  show Jd Γ (0, 0) 0 [some (.ref p0), some (.int p1), none] [] h
  refine r_aload_n (pc := 0) X dX11_standsInBasin_0 rfl ?_
  obtain ⟨a1, ea1, hf⟩ := ob hf
  refine r_getR (pc := 1) X dX11_standsInBasin_1 fl_X11_12 rfl ea1 ?_
  refine r_iload_n (pc := 4) X dX11_standsInBasin_4 rfl ?_
  obtain ⟨u2, eu2, hf⟩ := ob hf
  obtain ⟨x3, ex3, hf⟩ := ob hf
  refine r_callVI (pc := 5) X [.int p1] dX11_standsInBasin_5 ml_X11_138 vo_X8_at ⟨Nat.le_refl _, Nat.le_refl _⟩ eu2 (ev_X8_at (d := d - 1) (by omega) _ _ _ _ ex3) hd1 rfl (Nat.le_of_ble_eq_true rfl) rfl ?_
  refine r_istore_n (pc := 8) X [some (.ref p0), some (.int p1), some (.int x3)] dX11_standsInBasin_8 (by decide) rfl ?_
  refine r_iload_n (pc := 9) X dX11_standsInBasin_9 rfl ?_
  refine r_iconst (pc := 10) X 4 dX11_standsInBasin_10 (by decide) ?_
  obtain ⟨x4, ex4, hf⟩ := ob hf
  refine r_irem (pc := 11) X dX11_standsInBasin_11 ex4 ?_
  by_cases c5 : x4 = 0
  · rw [if_pos c5] at hf
    refine r_tableIn (pc := 12) X 40 dX11_standsInBasin_12 (by rw [c5] <;> decide) (by rw [c5] <;> decide) (by rw [c5] <;> rfl) (by decide) ?_
    refine r_aload_n (pc := 40) X dX11_standsInBasin_40 rfl ?_
    obtain ⟨a6, ea6, hf⟩ := ob hf
    refine r_getR (pc := 41) X dX11_standsInBasin_41 fl_X11_12 rfl ea6 ?_
    refine r_iload_n (pc := 44) X dX11_standsInBasin_44 rfl ?_
    obtain ⟨u7, eu7, hf⟩ := ob hf
    obtain ⟨x8, ex8, hf⟩ := ob hf
    refine r_callVI (pc := 45) X [.int p1] dX11_standsInBasin_45 ml_X11_169 vo_X8_isDigit ⟨Nat.le_refl _, Nat.le_refl _⟩ eu7 (ev_X8_isDigit (d := d - 1) (by omega) _ _ _ _ ex8) hd1 rfl (Nat.le_of_ble_eq_true rfl) rfl ?_
    obtain ⟨x9, ex9, hf⟩ := ob hf
    obtain rfl := Option.some.inj hf
    exact r_zretB (pc := 48) X dX11_standsInBasin_48 ex9 hk
  rw [if_neg c5] at hf
  by_cases c10 : x4 = 1
  · rw [if_pos c10] at hf
    refine r_tableIn (pc := 12) X 40 dX11_standsInBasin_12 (by rw [c10] <;> decide) (by rw [c10] <;> decide) (by rw [c10] <;> rfl) (by decide) ?_
    refine r_aload_n (pc := 40) X dX11_standsInBasin_40 rfl ?_
    obtain ⟨a11, ea11, hf⟩ := ob hf
    refine r_getR (pc := 41) X dX11_standsInBasin_41 fl_X11_12 rfl ea11 ?_
    refine r_iload_n (pc := 44) X dX11_standsInBasin_44 rfl ?_
    obtain ⟨u12, eu12, hf⟩ := ob hf
    obtain ⟨x13, ex13, hf⟩ := ob hf
    refine r_callVI (pc := 45) X [.int p1] dX11_standsInBasin_45 ml_X11_169 vo_X8_isDigit ⟨Nat.le_refl _, Nat.le_refl _⟩ eu12 (ev_X8_isDigit (d := d - 1) (by omega) _ _ _ _ ex13) hd1 rfl (Nat.le_of_ble_eq_true rfl) rfl ?_
    obtain ⟨x14, ex14, hf⟩ := ob hf
    obtain rfl := Option.some.inj hf
    exact r_zretB (pc := 48) X dX11_standsInBasin_48 ex14 hk
  rw [if_neg c10] at hf
  by_cases c15 : x4 = 2
  · rw [if_pos c15] at hf
    refine r_tableIn (pc := 12) X 49 dX11_standsInBasin_12 (by rw [c15] <;> decide) (by rw [c15] <;> decide) (by rw [c15] <;> rfl) (by decide) ?_
    refine r_iload_n (pc := 49) X dX11_standsInBasin_49 rfl ?_
    refine r_bipush (pc := 50) X 46 dX11_standsInBasin_50 (by decide) ?_
    refine r_icmp_eq (pc := 52) X 61 dX11_standsInBasin_52 (by decide) (fun c17 => ?_) (fun c17 => ?_)
    · rw [if_pos c17] at hf
      refine r_iconst (pc := 61) X 1 dX11_standsInBasin_61 (by decide) ?_
      refine r_goto (pc := 62) X 66 dX11_standsInBasin_62 (by decide) ?_
      obtain rfl := Option.some.inj hf
      exact r_zret (pc := 66) X dX11_standsInBasin_66 (Or.inr rfl) hk
    · rw [if_neg c17] at hf
      refine r_iload_n (pc := 55) X dX11_standsInBasin_55 rfl ?_
      refine r_bipush (pc := 56) X 33 dX11_standsInBasin_56 (by decide) ?_
      refine r_icmp_ne (pc := 58) X 65 dX11_standsInBasin_58 (by decide) (fun c16 => ?_) (fun c16 => ?_)
      · rw [if_neg c16] at hf
        refine r_iconst (pc := 65) X 0 dX11_standsInBasin_65 (by decide) ?_
        obtain rfl := Option.some.inj hf
        exact r_zret (pc := 66) X dX11_standsInBasin_66 (Or.inl rfl) hk
      · rw [if_pos c16] at hf
        refine r_iconst (pc := 61) X 1 dX11_standsInBasin_61 (by decide) ?_
        refine r_goto (pc := 62) X 66 dX11_standsInBasin_62 (by decide) ?_
        obtain rfl := Option.some.inj hf
        exact r_zret (pc := 66) X dX11_standsInBasin_66 (Or.inr rfl) hk
  rw [if_neg c15] at hf
  have nc5 := lv_neT c5 (show (0 : Int32).toInt = 0 from by decide)
  have nc10 := lv_neT c10 (show (1 : Int32).toInt = 1 from by decide)
  have nc15 := lv_neT c15 (show (2 : Int32).toInt = 2 from by decide)
  refine r_tableOut (pc := 12) X 67 dX11_standsInBasin_12 (by omega) (by decide) ?_
  refine r_iload_n (pc := 67) X dX11_standsInBasin_67 rfl ?_
  refine r_bipush (pc := 68) X 59 dX11_standsInBasin_68 (by decide) ?_
  refine r_icmp_ne (pc := 70) X 77 dX11_standsInBasin_70 (by decide) (fun c18 => ?_) (fun c18 => ?_)
  · rw [if_neg c18] at hf
    refine r_iconst (pc := 77) X 0 dX11_standsInBasin_77 (by decide) ?_
    obtain rfl := Option.some.inj hf
    exact r_zret (pc := 78) X dX11_standsInBasin_78 (Or.inl rfl) hk
  · rw [if_pos c18] at hf
    refine r_iconst (pc := 73) X 1 dX11_standsInBasin_73 (by decide) ?_
    refine r_goto (pc := 74) X 78 dX11_standsInBasin_74 (by decide) ?_
    obtain rfl := Option.some.inj hf
    exact r_zret (pc := 78) X dX11_standsInBasin_78 (Or.inr rfl) hk

theorem dX11_wrongSignOfLines_0 : decode cX11_wrongSignOfLines 0 = .ok (.aload_n 0, 1) := by decide +kernel
theorem dX11_wrongSignOfLines_1 : decode cX11_wrongSignOfLines 1 = .ok (.getfield 12, 3) := by decide +kernel
theorem dX11_wrongSignOfLines_4 : decode cX11_wrongSignOfLines 4 = .ok (.getfield 121, 3) := by decide +kernel
theorem dX11_wrongSignOfLines_7 : decode cX11_wrongSignOfLines 7 = .ok (.ifCond .ne 5, 3) := by decide +kernel
theorem dX11_wrongSignOfLines_10 : decode cX11_wrongSignOfLines 10 = .ok (.iconst (-1), 1) := by decide +kernel
theorem dX11_wrongSignOfLines_11 : decode cX11_wrongSignOfLines 11 = .ok (.ireturn, 1) := by decide +kernel
theorem dX11_wrongSignOfLines_12 : decode cX11_wrongSignOfLines 12 = .ok (.iconst 0, 1) := by decide +kernel
theorem dX11_wrongSignOfLines_13 : decode cX11_wrongSignOfLines 13 = .ok (.istore 4, 2) := by decide +kernel
theorem dX11_wrongSignOfLines_15 : decode cX11_wrongSignOfLines 15 = .ok (.iload 4, 2) := by decide +kernel
theorem dX11_wrongSignOfLines_17 : decode cX11_wrongSignOfLines 17 = .ok (.aload_n 0, 1) := by decide +kernel
theorem dX11_wrongSignOfLines_18 : decode cX11_wrongSignOfLines 18 = .ok (.getfield 12, 3) := by decide +kernel
theorem dX11_wrongSignOfLines_21 : decode cX11_wrongSignOfLines 21 = .ok (.getfield 121, 3) := by decide +kernel
theorem dX11_wrongSignOfLines_24 : decode cX11_wrongSignOfLines 24 = .ok (.if_icmp .ge 73, 3) := by decide +kernel
theorem dX11_wrongSignOfLines_27 : decode cX11_wrongSignOfLines 27 = .ok (.iload 4, 2) := by decide +kernel
theorem dX11_wrongSignOfLines_29 : decode cX11_wrongSignOfLines 29 = .ok (.iconst 4, 1) := by decide +kernel
theorem dX11_wrongSignOfLines_30 : decode cX11_wrongSignOfLines 30 = .ok (.irem, 1) := by decide +kernel
theorem dX11_wrongSignOfLines_31 : decode cX11_wrongSignOfLines 31 = .ok (.ifCond .ne 15, 3) := by decide +kernel
theorem dX11_wrongSignOfLines_34 : decode cX11_wrongSignOfLines 34 = .ok (.iload 4, 2) := by decide +kernel
theorem dX11_wrongSignOfLines_36 : decode cX11_wrongSignOfLines 36 = .ok (.iconst 4, 1) := by decide +kernel
theorem dX11_wrongSignOfLines_37 : decode cX11_wrongSignOfLines 37 = .ok (.idiv, 1) := by decide +kernel
theorem dX11_wrongSignOfLines_38 : decode cX11_wrongSignOfLines 38 = .ok (.iload_n 2, 1) := by decide +kernel
theorem dX11_wrongSignOfLines_39 : decode cX11_wrongSignOfLines 39 = .ok (.if_icmp .lt 7, 3) := by decide +kernel
theorem dX11_wrongSignOfLines_42 : decode cX11_wrongSignOfLines 42 = .ok (.iconst 1, 1) := by decide +kernel
theorem dX11_wrongSignOfLines_43 : decode cX11_wrongSignOfLines 43 = .ok (.goto 4, 3) := by decide +kernel
theorem dX11_wrongSignOfLines_46 : decode cX11_wrongSignOfLines 46 = .ok (.iconst 0, 1) := by decide +kernel
theorem dX11_wrongSignOfLines_47 : decode cX11_wrongSignOfLines 47 = .ok (.istore 5, 2) := by decide +kernel
theorem dX11_wrongSignOfLines_49 : decode cX11_wrongSignOfLines 49 = .ok (.iload 4, 2) := by decide +kernel
theorem dX11_wrongSignOfLines_51 : decode cX11_wrongSignOfLines 51 = .ok (.iload_n 1, 1) := by decide +kernel
theorem dX11_wrongSignOfLines_52 : decode cX11_wrongSignOfLines 52 = .ok (.if_icmp .eq 8, 3) := by decide +kernel
theorem dX11_wrongSignOfLines_55 : decode cX11_wrongSignOfLines 55 = .ok (.iload 5, 2) := by decide +kernel
theorem dX11_wrongSignOfLines_57 : decode cX11_wrongSignOfLines 57 = .ok (.ifCond .eq 6, 3) := by decide +kernel
theorem dX11_wrongSignOfLines_60 : decode cX11_wrongSignOfLines 60 = .ok (.iload 4, 2) := by decide +kernel
theorem dX11_wrongSignOfLines_62 : decode cX11_wrongSignOfLines 62 = .ok (.ireturn, 1) := by decide +kernel
theorem dX11_wrongSignOfLines_63 : decode cX11_wrongSignOfLines 63 = .ok (.iload_n 3, 1) := by decide +kernel
theorem dX11_wrongSignOfLines_64 : decode cX11_wrongSignOfLines 64 = .ok (.ifCond .eq 15, 3) := by decide +kernel
theorem dX11_wrongSignOfLines_67 : decode cX11_wrongSignOfLines 67 = .ok (.aload_n 0, 1) := by decide +kernel
theorem dX11_wrongSignOfLines_68 : decode cX11_wrongSignOfLines 68 = .ok (.iload 4, 2) := by decide +kernel
theorem dX11_wrongSignOfLines_70 : decode cX11_wrongSignOfLines 70 = .ok (.invokevirtual 163, 3) := by decide +kernel
theorem dX11_wrongSignOfLines_73 : decode cX11_wrongSignOfLines 73 = .ok (.ifCond .eq 15, 3) := by decide +kernel
theorem dX11_wrongSignOfLines_76 : decode cX11_wrongSignOfLines 76 = .ok (.goto 15, 3) := by decide +kernel
theorem dX11_wrongSignOfLines_79 : decode cX11_wrongSignOfLines 79 = .ok (.aload_n 0, 1) := by decide +kernel
theorem dX11_wrongSignOfLines_80 : decode cX11_wrongSignOfLines 80 = .ok (.iload 4, 2) := by decide +kernel
theorem dX11_wrongSignOfLines_82 : decode cX11_wrongSignOfLines 82 = .ok (.invokevirtual 166, 3) := by decide +kernel
theorem dX11_wrongSignOfLines_85 : decode cX11_wrongSignOfLines 85 = .ok (.ifCond .ne 6, 3) := by decide +kernel
theorem dX11_wrongSignOfLines_88 : decode cX11_wrongSignOfLines 88 = .ok (.iload 4, 2) := by decide +kernel
theorem dX11_wrongSignOfLines_90 : decode cX11_wrongSignOfLines 90 = .ok (.ireturn, 1) := by decide +kernel
theorem dX11_wrongSignOfLines_91 : decode cX11_wrongSignOfLines 91 = .ok (.iinc 4 1, 3) := by decide +kernel
theorem dX11_wrongSignOfLines_94 : decode cX11_wrongSignOfLines 94 = .ok (.goto (-79), 3) := by decide +kernel
theorem dX11_wrongSignOfLines_97 : decode cX11_wrongSignOfLines 97 = .ok (.aload_n 0, 1) := by decide +kernel
theorem dX11_wrongSignOfLines_98 : decode cX11_wrongSignOfLines 98 = .ok (.getfield 12, 3) := by decide +kernel
theorem dX11_wrongSignOfLines_101 : decode cX11_wrongSignOfLines 101 = .ok (.getfield 121, 3) := by decide +kernel
theorem dX11_wrongSignOfLines_104 : decode cX11_wrongSignOfLines 104 = .ok (.iconst 4, 1) := by decide +kernel
theorem dX11_wrongSignOfLines_105 : decode cX11_wrongSignOfLines 105 = .ok (.irem, 1) := by decide +kernel
theorem dX11_wrongSignOfLines_106 : decode cX11_wrongSignOfLines 106 = .ok (.iconst 3, 1) := by decide +kernel
theorem dX11_wrongSignOfLines_107 : decode cX11_wrongSignOfLines 107 = .ok (.if_icmp .ne 7, 3) := by decide +kernel
theorem dX11_wrongSignOfLines_110 : decode cX11_wrongSignOfLines 110 = .ok (.iconst (-1), 1) := by decide +kernel
theorem dX11_wrongSignOfLines_111 : decode cX11_wrongSignOfLines 111 = .ok (.goto 10, 3) := by decide +kernel
theorem dX11_wrongSignOfLines_114 : decode cX11_wrongSignOfLines 114 = .ok (.aload_n 0, 1) := by decide +kernel
theorem dX11_wrongSignOfLines_115 : decode cX11_wrongSignOfLines 115 = .ok (.getfield 12, 3) := by decide +kernel
theorem dX11_wrongSignOfLines_118 : decode cX11_wrongSignOfLines 118 = .ok (.getfield 121, 3) := by decide +kernel
theorem dX11_wrongSignOfLines_121 : decode cX11_wrongSignOfLines 121 = .ok (.ireturn, 1) := by decide +kernel
def lb_X11_wrongSignOfLines_15 (hh : aH) (v0 : Nat) (v1 : Int32) (v2 : Int32) (v3 : Int32) (s : Int32) : Option ((Int32) ⊕ ((Unit) ⊕ (Int32))) :=
  (gR hh v0 10 0).bind fun a3 =>
  (gI hh a3 7 1).bind fun x4 =>
  if s < x4 then
    (irm s 4).bind fun x5 =>
    ((
      if x5 = 0 then
        (idv s 4).bind fun x18 =>
        if x18 < v2 then
          some 0
        else
          some 1
      else
        some 0
    ) : Option (Int32)).bind fun t6 =>
    if s = v1 then
      some (.inr (.inr s))
    else
      if t6 = 0 then
        if v3 = 0 then
          (ck hh v0 10).bind fun u7 =>
          (fn_X11_standsInBasin hh v0 s).bind fun x8 =>
          if x8 = 0 then
            some (.inr (.inr s))
          else
            (some (s + 1)).bind fun x9 =>
            some (.inl x9)
        else
          (ck hh v0 10).bind fun u11 =>
          (fn_X11_standsInSluice hh v0 s).bind fun x12 =>
          if x12 = 0 then
            some (.inr (.inr s))
          else
            (some (s + 1)).bind fun x13 =>
            some (.inl x13)
      else
        some (.inr (.inr s))
  else
    some (.inr (.inl ()))
def hd_X11_wrongSignOfLines_15 (Γ : aC) (hh : aH) (v0 : Nat) (v1 : Int32) (v2 : Int32) (v3 : Int32) (s : Int32) : Prop := ∀ (j5 : Option Value), Jd Γ (0, 0) 15 [some (.ref v0), some (.int v1), some (.int v2), some (.int v3), some (.int s), j5] [] hh
def ex_X11_wrongSignOfLines_15 (Γ : aC) (hh : aH) (v0 : Nat) (v1 : Int32) (v2 : Int32) (v3 : Int32) (r : (Unit) ⊕ (Int32)) : Prop := (Sum.elim (fun r => ∀ (j4 : Option Value) (j5 : Option Value), Jd Γ (0, 0) 97 [some (.ref v0), some (.int v1), some (.int v2), some (.int v3), j4, j5] [] hh) (fun r => RpI hh Γ r)) r
set_option maxRecDepth 20000 in
set_option maxHeartbeats 4000000 in
theorem lw_X11_wrongSignOfLines_15 {Γ : aC} {d : Nat} (X : Cx Γ RX11 cX11_wrongSignOfLines 6 (some .int) (d, 0, 0)) (hd : 4 ≤ d) (hh : aH) (v0 : Nat) (v1 : Int32) (v2 : Int32) (v3 : Int32) : ∀ n s o, lp (lb_X11_wrongSignOfLines_15 hh v0 v1 v2 v3) n s = some o → ex_X11_wrongSignOfLines_15 Γ hh v0 v1 v2 v3 o → hd_X11_wrongSignOfLines_15 Γ hh v0 v1 v2 v3 s := by
  have hd1 : 1 ≤ d := by omega
  refine J_lp _ _ _ ?_
  intro s o hf hk j5
  unfold lb_X11_wrongSignOfLines_15 at hf
  refine r_iload (pc := 15) X dX11_wrongSignOfLines_15 rfl ?_
  refine r_aload_n (pc := 17) X dX11_wrongSignOfLines_17 rfl ?_
  obtain ⟨a3, ea3, hf⟩ := ob hf
  refine r_getR (pc := 18) X dX11_wrongSignOfLines_18 fl_X11_12 rfl ea3 ?_
  obtain ⟨x4, ex4, hf⟩ := ob hf
  refine r_getI (pc := 21) X dX11_wrongSignOfLines_21 fl_X11_121 rfl ex4 ?_
  refine r_icmp_ge (pc := 24) X 97 dX11_wrongSignOfLines_24 (by decide) (fun c21 => ?_) (fun c21 => ?_)
  · rw [if_neg c21] at hf
    obtain rfl := Option.some.inj hf
    exact hk _ _
  · rw [if_pos c21] at hf
    refine r_iload (pc := 27) X dX11_wrongSignOfLines_27 rfl ?_
    refine r_iconst (pc := 29) X 4 dX11_wrongSignOfLines_29 (by decide) ?_
    obtain ⟨x5, ex5, hf⟩ := ob hf
    refine r_irem (pc := 30) X dX11_wrongSignOfLines_30 ex5 ?_
    obtain ⟨t6, et6, hf⟩ := ob hf
    have Jt6 : Jd Γ (0, 0) 47 [some (.ref v0), some (.int v1), some (.int v2), some (.int v3), some (.int s), j5] [.int t6] hh := by
      refine r_istore (pc := 47) X [some (.ref v0), some (.int v1), some (.int v2), some (.int v3), some (.int s), some (.int t6)] dX11_wrongSignOfLines_47 (by decide) rfl ?_
      refine r_iload (pc := 49) X dX11_wrongSignOfLines_49 rfl ?_
      refine r_iload_n (pc := 51) X dX11_wrongSignOfLines_51 rfl ?_
      refine r_icmp_eq (pc := 52) X 60 dX11_wrongSignOfLines_52 (by decide) (fun c17 => ?_) (fun c17 => ?_)
      · rw [if_pos c17] at hf
        refine r_iload (pc := 60) X dX11_wrongSignOfLines_60 rfl ?_
        obtain rfl := Option.some.inj hf
        exact r_iret (pc := 62) X dX11_wrongSignOfLines_62 hk
      · rw [if_neg c17] at hf
        refine r_iload (pc := 55) X dX11_wrongSignOfLines_55 rfl ?_
        refine r_if_eq (pc := 57) X 63 dX11_wrongSignOfLines_57 (by decide) (fun c16 => ?_) (fun c16 => ?_)
        · rw [if_pos c16] at hf
          refine r_iload_n (pc := 63) X dX11_wrongSignOfLines_63 rfl ?_
          refine r_if_eq (pc := 64) X 79 dX11_wrongSignOfLines_64 (by decide) (fun c15 => ?_) (fun c15 => ?_)
          · rw [if_pos c15] at hf
            refine r_aload_n (pc := 79) X dX11_wrongSignOfLines_79 rfl ?_
            refine r_iload (pc := 80) X dX11_wrongSignOfLines_80 rfl ?_
            obtain ⟨u7, eu7, hf⟩ := ob hf
            obtain ⟨x8, ex8, hf⟩ := ob hf
            refine r_callVI (pc := 82) X [.int s] dX11_wrongSignOfLines_82 ml_X11_166 vo_X11_standsInBasin ⟨Nat.le_refl _, Nat.le_refl _⟩ eu7 (ev_X11_standsInBasin (d := d - 1) (by omega) _ _ _ _ ex8) hd1 rfl (Nat.le_of_ble_eq_true rfl) rfl ?_
            refine r_if_ne (pc := 85) X 91 dX11_wrongSignOfLines_85 (by decide) (fun c10 => ?_) (fun c10 => ?_)
            · rw [if_neg c10] at hf
              obtain ⟨x9, ex9, hf⟩ := ob hf
              refine r_iinc2 (pc := 91) X 1 [some (.ref v0), some (.int v1), some (.int v2), some (.int v3), some (.int x9), some (.int t6)] dX11_wrongSignOfLines_91 (by decide) rfl (by decide) ex9 rfl ?_
              refine r_goto (pc := 94) X 15 dX11_wrongSignOfLines_94 (by decide) ?_
              obtain rfl := Option.some.inj hf
              exact hk _
            · rw [if_pos c10] at hf
              refine r_iload (pc := 88) X dX11_wrongSignOfLines_88 rfl ?_
              obtain rfl := Option.some.inj hf
              exact r_iret (pc := 90) X dX11_wrongSignOfLines_90 hk
          · rw [if_neg c15] at hf
            refine r_aload_n (pc := 67) X dX11_wrongSignOfLines_67 rfl ?_
            refine r_iload (pc := 68) X dX11_wrongSignOfLines_68 rfl ?_
            obtain ⟨u11, eu11, hf⟩ := ob hf
            obtain ⟨x12, ex12, hf⟩ := ob hf
            refine r_callVI (pc := 70) X [.int s] dX11_wrongSignOfLines_70 ml_X11_163 vo_X11_standsInSluice ⟨Nat.le_refl _, Nat.le_refl _⟩ eu11 (ev_X11_standsInSluice (d := d - 1) (by omega) _ _ _ _ ex12) hd1 rfl (Nat.le_of_ble_eq_true rfl) rfl ?_
            refine r_if_eq (pc := 73) X 88 dX11_wrongSignOfLines_73 (by decide) (fun c14 => ?_) (fun c14 => ?_)
            · rw [if_pos c14] at hf
              refine r_iload (pc := 88) X dX11_wrongSignOfLines_88 rfl ?_
              obtain rfl := Option.some.inj hf
              exact r_iret (pc := 90) X dX11_wrongSignOfLines_90 hk
            · rw [if_neg c14] at hf
              refine r_goto (pc := 76) X 91 dX11_wrongSignOfLines_76 (by decide) ?_
              obtain ⟨x13, ex13, hf⟩ := ob hf
              refine r_iinc2 (pc := 91) X 1 [some (.ref v0), some (.int v1), some (.int v2), some (.int v3), some (.int x13), some (.int t6)] dX11_wrongSignOfLines_91 (by decide) rfl (by decide) ex13 rfl ?_
              refine r_goto (pc := 94) X 15 dX11_wrongSignOfLines_94 (by decide) ?_
              obtain rfl := Option.some.inj hf
              exact hk _
        · rw [if_neg c16] at hf
          refine r_iload (pc := 60) X dX11_wrongSignOfLines_60 rfl ?_
          obtain rfl := Option.some.inj hf
          exact r_iret (pc := 62) X dX11_wrongSignOfLines_62 hk
    refine r_if_ne (pc := 31) X 46 dX11_wrongSignOfLines_31 (by decide) (fun c20 => ?_) (fun c20 => ?_)
    · rw [if_neg c20] at et6
      refine r_iconst (pc := 46) X 0 dX11_wrongSignOfLines_46 (by decide) ?_
      obtain rfl := Option.some.inj et6
      exact Jt6
    · rw [if_pos c20] at et6
      refine r_iload (pc := 34) X dX11_wrongSignOfLines_34 rfl ?_
      refine r_iconst (pc := 36) X 4 dX11_wrongSignOfLines_36 (by decide) ?_
      obtain ⟨x18, ex18, et6⟩ := ob et6
      refine r_idiv (pc := 37) X dX11_wrongSignOfLines_37 ex18 ?_
      refine r_iload_n (pc := 38) X dX11_wrongSignOfLines_38 rfl ?_
      refine r_icmp_lt (pc := 39) X 46 dX11_wrongSignOfLines_39 (by decide) (fun c19 => ?_) (fun c19 => ?_)
      · rw [if_pos c19] at et6
        refine r_iconst (pc := 46) X 0 dX11_wrongSignOfLines_46 (by decide) ?_
        obtain rfl := Option.some.inj et6
        exact Jt6
      · rw [if_neg c19] at et6
        refine r_iconst (pc := 42) X 1 dX11_wrongSignOfLines_42 (by decide) ?_
        refine r_goto (pc := 43) X 47 dX11_wrongSignOfLines_43 (by decide) ?_
        obtain rfl := Option.some.inj et6
        exact Jt6
def fn_X11_wrongSignOfLines (h : aH) (p0 : Nat) (p1 : Int32) (p2 : Int32) (p3 : Int32) : Option (Int32) :=
  (gR h p0 10 0).bind fun a1 =>
  (gI h a1 7 1).bind fun x2 =>
  if x2 = 0 then
    some (-1)
  else
    (lp (lb_X11_wrongSignOfLines_15 h p0 p1 p2 p3) lpN 0).bind fun o22 =>
    Sum.elim (fun o23 =>
      (gR h p0 10 0).bind fun a27 =>
      (gI h a27 7 1).bind fun x28 =>
      (irm x28 4).bind fun x29 =>
      if x29 = 3 then
        some (-1)
      else
        (gR h p0 10 0).bind fun a30 =>
        (gI h a30 7 1).bind fun x31 =>
        some x31
    ) (fun o24 =>
      some o24
    ) o22
set_option maxRecDepth 20000 in
set_option maxHeartbeats 4000000 in
theorem ev_X11_wrongSignOfLines {l : Launch} {g : aG} {d : Nat} (hd : 4 ≤ d) (h : aH) (p0 : Nat) (p1 : Int32) (p2 : Int32) (p3 : Int32) (o : Int32) (hf : fn_X11_wrongSignOfLines h p0 p1 p2 p3 = some o) : EvM l g d yX11_wrongSignOfLines cX11_wrongSignOfLines 6 (some .int) [.ref p0, .int p1, .int p2, .int p3] h (some (.int o), h) := by
  refine EvM.of mk_X11_wrongSignOfLines (Nat.le_of_ble_eq_true rfl) ?_
  intro Γ hl hg hq X
  have hd1 : 1 ≤ d := by omega
  have hk : RpI h Γ o := hq
  unfold fn_X11_wrongSignOfLines at hf
  show Jd Γ (0, 0) 0 [some (.ref p0), some (.int p1), some (.int p2), some (.int p3), none, none] [] h
  refine r_aload_n (pc := 0) X dX11_wrongSignOfLines_0 rfl ?_
  obtain ⟨a1, ea1, hf⟩ := ob hf
  refine r_getR (pc := 1) X dX11_wrongSignOfLines_1 fl_X11_12 rfl ea1 ?_
  obtain ⟨x2, ex2, hf⟩ := ob hf
  refine r_getI (pc := 4) X dX11_wrongSignOfLines_4 fl_X11_121 rfl ex2 ?_
  refine r_if_ne (pc := 7) X 12 dX11_wrongSignOfLines_7 (by decide) (fun c33 => ?_) (fun c33 => ?_)
  · rw [if_neg c33] at hf
    refine r_iconst (pc := 12) X 0 dX11_wrongSignOfLines_12 (by decide) ?_
    refine r_istore (pc := 13) X [some (.ref p0), some (.int p1), some (.int p2), some (.int p3), some (.int 0), none] dX11_wrongSignOfLines_13 (by decide) rfl ?_
    obtain ⟨o22, eo22, hf⟩ := ob hf
    refine (lw_X11_wrongSignOfLines_15 X hd _ _ _ _ _ lpN _ o22 eo22 ?_) _
    rcases o22 with o23 | o24
    · simp only [Sum.elim_inl] at hf
      intro j25 j26
      refine r_aload_n (pc := 97) X dX11_wrongSignOfLines_97 rfl ?_
      obtain ⟨a27, ea27, hf⟩ := ob hf
      refine r_getR (pc := 98) X dX11_wrongSignOfLines_98 fl_X11_12 rfl ea27 ?_
      obtain ⟨x28, ex28, hf⟩ := ob hf
      refine r_getI (pc := 101) X dX11_wrongSignOfLines_101 fl_X11_121 rfl ex28 ?_
      refine r_iconst (pc := 104) X 4 dX11_wrongSignOfLines_104 (by decide) ?_
      obtain ⟨x29, ex29, hf⟩ := ob hf
      refine r_irem (pc := 105) X dX11_wrongSignOfLines_105 ex29 ?_
      refine r_iconst (pc := 106) X 3 dX11_wrongSignOfLines_106 (by decide) ?_
      refine r_icmp_ne (pc := 107) X 114 dX11_wrongSignOfLines_107 (by decide) (fun c32 => ?_) (fun c32 => ?_)
      · rw [if_neg c32] at hf
        refine r_aload_n (pc := 114) X dX11_wrongSignOfLines_114 rfl ?_
        obtain ⟨a30, ea30, hf⟩ := ob hf
        refine r_getR (pc := 115) X dX11_wrongSignOfLines_115 fl_X11_12 rfl ea30 ?_
        obtain ⟨x31, ex31, hf⟩ := ob hf
        refine r_getI (pc := 118) X dX11_wrongSignOfLines_118 fl_X11_121 rfl ex31 ?_
        obtain rfl := Option.some.inj hf
        exact r_iret (pc := 121) X dX11_wrongSignOfLines_121 hk
      · rw [if_pos c32] at hf
        refine r_iconst (pc := 110) X (-1) dX11_wrongSignOfLines_110 (by decide) ?_
        refine r_goto (pc := 111) X 121 dX11_wrongSignOfLines_111 (by decide) ?_
        obtain rfl := Option.some.inj hf
        exact r_iret (pc := 121) X dX11_wrongSignOfLines_121 hk
    · simp only [Sum.elim_inr] at hf
      obtain rfl := Option.some.inj hf
      exact hk
  · rw [if_pos c33] at hf
    refine r_iconst (pc := 10) X (-1) dX11_wrongSignOfLines_10 (by decide) ?_
    obtain rfl := Option.some.inj hf
    exact r_iret (pc := 11) X dX11_wrongSignOfLines_11 hk

theorem dX11_addBasin_0 : decode cX11_addBasin 0 = .ok (.aload_n 0, 1) := by decide +kernel
theorem dX11_addBasin_1 : decode cX11_addBasin 1 = .ok (.getfield 19, 3) := by decide +kernel
theorem dX11_addBasin_4 : decode cX11_addBasin 4 = .ok (.getfield 113, 3) := by decide +kernel
theorem dX11_addBasin_7 : decode cX11_addBasin 7 = .ok (.istore_n 2, 1) := by decide +kernel
theorem dX11_addBasin_8 : decode cX11_addBasin 8 = .ok (.iload_n 2, 1) := by decide +kernel
theorem dX11_addBasin_9 : decode cX11_addBasin 9 = .ok (.bipush 6, 2) := by decide +kernel
theorem dX11_addBasin_11 : decode cX11_addBasin 11 = .ok (.if_icmp .ge 66, 3) := by decide +kernel
theorem dX11_addBasin_14 : decode cX11_addBasin 14 = .ok (.aload_n 0, 1) := by decide +kernel
theorem dX11_addBasin_15 : decode cX11_addBasin 15 = .ok (.getfield 61, 3) := by decide +kernel
theorem dX11_addBasin_18 : decode cX11_addBasin 18 = .ok (.getfield 154, 3) := by decide +kernel
theorem dX11_addBasin_21 : decode cX11_addBasin 21 = .ok (.iload_n 2, 1) := by decide +kernel
theorem dX11_addBasin_22 : decode cX11_addBasin 22 = .ok (.aload_n 0, 1) := by decide +kernel
theorem dX11_addBasin_23 : decode cX11_addBasin 23 = .ok (.getfield 12, 3) := by decide +kernel
theorem dX11_addBasin_26 : decode cX11_addBasin 26 = .ok (.iload_n 1, 1) := by decide +kernel
theorem dX11_addBasin_27 : decode cX11_addBasin 27 = .ok (.invokevirtual 135, 3) := by decide +kernel
theorem dX11_addBasin_30 : decode cX11_addBasin 30 = .ok (.iastore, 1) := by decide +kernel
theorem dX11_addBasin_31 : decode cX11_addBasin 31 = .ok (.aload_n 0, 1) := by decide +kernel
theorem dX11_addBasin_32 : decode cX11_addBasin 32 = .ok (.getfield 61, 3) := by decide +kernel
theorem dX11_addBasin_35 : decode cX11_addBasin 35 = .ok (.getfield 157, 3) := by decide +kernel
theorem dX11_addBasin_38 : decode cX11_addBasin 38 = .ok (.iload_n 2, 1) := by decide +kernel
theorem dX11_addBasin_39 : decode cX11_addBasin 39 = .ok (.aload_n 0, 1) := by decide +kernel
theorem dX11_addBasin_40 : decode cX11_addBasin 40 = .ok (.getfield 12, 3) := by decide +kernel
theorem dX11_addBasin_43 : decode cX11_addBasin 43 = .ok (.iload_n 1, 1) := by decide +kernel
theorem dX11_addBasin_44 : decode cX11_addBasin 44 = .ok (.iconst 1, 1) := by decide +kernel
theorem dX11_addBasin_45 : decode cX11_addBasin 45 = .ok (.iadd, 1) := by decide +kernel
theorem dX11_addBasin_46 : decode cX11_addBasin 46 = .ok (.invokevirtual 135, 3) := by decide +kernel
theorem dX11_addBasin_49 : decode cX11_addBasin 49 = .ok (.iastore, 1) := by decide +kernel
theorem dX11_addBasin_50 : decode cX11_addBasin 50 = .ok (.aload_n 0, 1) := by decide +kernel
theorem dX11_addBasin_51 : decode cX11_addBasin 51 = .ok (.getfield 19, 3) := by decide +kernel
theorem dX11_addBasin_54 : decode cX11_addBasin 54 = .ok (.aload_n 0, 1) := by decide +kernel
theorem dX11_addBasin_55 : decode cX11_addBasin 55 = .ok (.getfield 12, 3) := by decide +kernel
theorem dX11_addBasin_58 : decode cX11_addBasin 58 = .ok (.iload_n 1, 1) := by decide +kernel
theorem dX11_addBasin_59 : decode cX11_addBasin 59 = .ok (.iconst 2, 1) := by decide +kernel
theorem dX11_addBasin_60 : decode cX11_addBasin 60 = .ok (.iadd, 1) := by decide +kernel
theorem dX11_addBasin_61 : decode cX11_addBasin 61 = .ok (.invokevirtual 138, 3) := by decide +kernel
theorem dX11_addBasin_64 : decode cX11_addBasin 64 = .ok (.bipush 33, 2) := by decide +kernel
theorem dX11_addBasin_66 : decode cX11_addBasin 66 = .ok (.if_icmp .ne 7, 3) := by decide +kernel
theorem dX11_addBasin_69 : decode cX11_addBasin 69 = .ok (.iconst 1, 1) := by decide +kernel
theorem dX11_addBasin_70 : decode cX11_addBasin 70 = .ok (.goto 4, 3) := by decide +kernel
theorem dX11_addBasin_73 : decode cX11_addBasin 73 = .ok (.iconst 0, 1) := by decide +kernel
theorem dX11_addBasin_74 : decode cX11_addBasin 74 = .ok (.invokevirtual 160, 3) := by decide +kernel
theorem dX11_addBasin_77 : decode cX11_addBasin 77 = .ok (.return_, 1) := by decide +kernel
def fn_X11_addBasin (h : aH) (p0 : Nat) (p1 : Int32) : Option (aH) :=
  (gR h p0 10 1).bind fun a1 =>
  (gI h a1 0 0).bind fun x2 =>
  if x2 < 6 then
    (gR h p0 10 7).bind fun a3 =>
    (gR h a3 6 0).bind fun a4 =>
    (gR h p0 10 0).bind fun a5 =>
    (ck h a5 7).bind fun u6 =>
    (fn_X8_digit h a5 p1).bind fun x7 =>
    (wI h a4 x2 x7).bind fun h8 =>
    (gR h8 p0 10 7).bind fun a9 =>
    (gR h8 a9 6 1).bind fun a10 =>
    (gR h8 p0 10 0).bind fun a11 =>
    (ck h8 a11 7).bind fun u12 =>
    (fn_X8_digit h8 a11 (p1 + 1)).bind fun x13 =>
    (wI h8 a10 x2 x13).bind fun h14 =>
    (gR h14 p0 10 1).bind fun a15 =>
    (gR h14 p0 10 0).bind fun a16 =>
    (ck h14 a16 7).bind fun u17 =>
    (fn_X8_at h14 a16 (p1 + 2)).bind fun x18 =>
    ((
      if x18 = 33 then
        some 1
      else
        some 0
    ) : Option (Int32)).bind fun t19 =>
    (ck h14 a15 0).bind fun u20 =>
    (fn_X0_addBasin h14 a15 t19).bind fun h21 =>
    some h21
  else
    some h
set_option maxRecDepth 20000 in
set_option maxHeartbeats 4000000 in
theorem ev_X11_addBasin {l : Launch} {g : aG} {d : Nat} (hd : 3 ≤ d) (h : aH) (p0 : Nat) (p1 : Int32) (o : aH) (hf : fn_X11_addBasin h p0 p1 = some o) : EvM l g d yX11_addBasin cX11_addBasin 3 none [.ref p0, .int p1] h (none, o) := by
  refine EvM.of mk_X11_addBasin (Nat.le_of_ble_eq_true rfl) ?_
  intro Γ hl hg hq X
  have hd1 : 1 ≤ d := by omega
  have hk : RqV Γ o := hq
  unfold fn_X11_addBasin at hf
  show Jd Γ (0, 0) 0 [some (.ref p0), some (.int p1), none] [] h
  refine r_aload_n (pc := 0) X dX11_addBasin_0 rfl ?_
  obtain ⟨a1, ea1, hf⟩ := ob hf
  refine r_getR (pc := 1) X dX11_addBasin_1 fl_X11_19 rfl ea1 ?_
  obtain ⟨x2, ex2, hf⟩ := ob hf
  refine r_getI (pc := 4) X dX11_addBasin_4 fl_X11_113 rfl ex2 ?_
  refine r_istore_n (pc := 7) X [some (.ref p0), some (.int p1), some (.int x2)] dX11_addBasin_7 (by decide) rfl ?_
  refine r_iload_n (pc := 8) X dX11_addBasin_8 rfl ?_
  refine r_bipush (pc := 9) X 6 dX11_addBasin_9 (by decide) ?_
  refine r_icmp_ge (pc := 11) X 77 dX11_addBasin_11 (by decide) (fun c23 => ?_) (fun c23 => ?_)
  · rw [if_neg c23] at hf
    obtain rfl := Option.some.inj hf
    exact r_vret (pc := 77) X dX11_addBasin_77 hk
  · rw [if_pos c23] at hf
    refine r_aload_n (pc := 14) X dX11_addBasin_14 rfl ?_
    obtain ⟨a3, ea3, hf⟩ := ob hf
    refine r_getR (pc := 15) X dX11_addBasin_15 fl_X11_61 rfl ea3 ?_
    obtain ⟨a4, ea4, hf⟩ := ob hf
    refine r_getR (pc := 18) X dX11_addBasin_18 fl_X11_154 rfl ea4 ?_
    refine r_iload_n (pc := 21) X dX11_addBasin_21 rfl ?_
    refine r_aload_n (pc := 22) X dX11_addBasin_22 rfl ?_
    obtain ⟨a5, ea5, hf⟩ := ob hf
    refine r_getR (pc := 23) X dX11_addBasin_23 fl_X11_12 rfl ea5 ?_
    refine r_iload_n (pc := 26) X dX11_addBasin_26 rfl ?_
    obtain ⟨u6, eu6, hf⟩ := ob hf
    obtain ⟨x7, ex7, hf⟩ := ob hf
    refine r_callVI (pc := 27) X [.int p1] dX11_addBasin_27 ml_X11_135 vo_X8_digit ⟨Nat.le_refl _, Nat.le_refl _⟩ eu6 (ev_X8_digit (d := d - 1) (by omega) _ _ _ _ ex7) hd1 rfl (Nat.le_of_ble_eq_true rfl) rfl ?_
    obtain ⟨h8, eh8, hf⟩ := ob hf
    refine r_iast (pc := 30) X dX11_addBasin_30 eh8 ?_
    refine r_aload_n (pc := 31) X dX11_addBasin_31 rfl ?_
    obtain ⟨a9, ea9, hf⟩ := ob hf
    refine r_getR (pc := 32) X dX11_addBasin_32 fl_X11_61 rfl ea9 ?_
    obtain ⟨a10, ea10, hf⟩ := ob hf
    refine r_getR (pc := 35) X dX11_addBasin_35 fl_X11_157 rfl ea10 ?_
    refine r_iload_n (pc := 38) X dX11_addBasin_38 rfl ?_
    refine r_aload_n (pc := 39) X dX11_addBasin_39 rfl ?_
    obtain ⟨a11, ea11, hf⟩ := ob hf
    refine r_getR (pc := 40) X dX11_addBasin_40 fl_X11_12 rfl ea11 ?_
    refine r_iload_n (pc := 43) X dX11_addBasin_43 rfl ?_
    refine r_iconst (pc := 44) X 1 dX11_addBasin_44 (by decide) ?_
    refine r_iadd (pc := 45) X dX11_addBasin_45 ?_
    obtain ⟨u12, eu12, hf⟩ := ob hf
    obtain ⟨x13, ex13, hf⟩ := ob hf
    refine r_callVI (pc := 46) X [.int (p1 + 1)] dX11_addBasin_46 ml_X11_135 vo_X8_digit ⟨Nat.le_refl _, Nat.le_refl _⟩ eu12 (ev_X8_digit (d := d - 1) (by omega) _ _ _ _ ex13) hd1 rfl (Nat.le_of_ble_eq_true rfl) rfl ?_
    obtain ⟨h14, eh14, hf⟩ := ob hf
    refine r_iast (pc := 49) X dX11_addBasin_49 eh14 ?_
    refine r_aload_n (pc := 50) X dX11_addBasin_50 rfl ?_
    obtain ⟨a15, ea15, hf⟩ := ob hf
    refine r_getR (pc := 51) X dX11_addBasin_51 fl_X11_19 rfl ea15 ?_
    refine r_aload_n (pc := 54) X dX11_addBasin_54 rfl ?_
    obtain ⟨a16, ea16, hf⟩ := ob hf
    refine r_getR (pc := 55) X dX11_addBasin_55 fl_X11_12 rfl ea16 ?_
    refine r_iload_n (pc := 58) X dX11_addBasin_58 rfl ?_
    refine r_iconst (pc := 59) X 2 dX11_addBasin_59 (by decide) ?_
    refine r_iadd (pc := 60) X dX11_addBasin_60 ?_
    obtain ⟨u17, eu17, hf⟩ := ob hf
    obtain ⟨x18, ex18, hf⟩ := ob hf
    refine r_callVI (pc := 61) X [.int (p1 + 2)] dX11_addBasin_61 ml_X11_138 vo_X8_at ⟨Nat.le_refl _, Nat.le_refl _⟩ eu17 (ev_X8_at (d := d - 1) (by omega) _ _ _ _ ex18) hd1 rfl (Nat.le_of_ble_eq_true rfl) rfl ?_
    refine r_bipush (pc := 64) X 33 dX11_addBasin_64 (by decide) ?_
    obtain ⟨t19, et19, hf⟩ := ob hf
    have Jt19 : Jd Γ (0, 0) 74 [some (.ref p0), some (.int p1), some (.int x2)] [.int t19, .ref a15] h14 := by
      obtain ⟨u20, eu20, hf⟩ := ob hf
      obtain ⟨h21, eh21, hf⟩ := ob hf
      refine r_callVV (pc := 74) X [.int t19] dX11_addBasin_74 ml_X11_160 vo_X0_addBasin ⟨Nat.le_refl _, Nat.le_refl _⟩ eu20 (ev_X0_addBasin (d := d - 1) (by omega) _ _ _ _ eh21) hd1 rfl (Nat.le_of_ble_eq_true rfl) rfl ?_
      obtain rfl := Option.some.inj hf
      exact r_vret (pc := 77) X dX11_addBasin_77 hk
    refine r_icmp_ne (pc := 66) X 73 dX11_addBasin_66 (by decide) (fun c22 => ?_) (fun c22 => ?_)
    · rw [if_neg c22] at et19
      refine r_iconst (pc := 73) X 0 dX11_addBasin_73 (by decide) ?_
      obtain rfl := Option.some.inj et19
      exact Jt19
    · rw [if_pos c22] at et19
      refine r_iconst (pc := 69) X 1 dX11_addBasin_69 (by decide) ?_
      refine r_goto (pc := 70) X 74 dX11_addBasin_70 (by decide) ?_
      obtain rfl := Option.some.inj et19
      exact Jt19

theorem dX11_endOfLines_0 : decode cX11_endOfLines 0 = .ok (.aload_n 0, 1) := by decide +kernel
theorem dX11_endOfLines_1 : decode cX11_endOfLines 1 = .ok (.getfield 12, 3) := by decide +kernel
theorem dX11_endOfLines_4 : decode cX11_endOfLines 4 = .ok (.invokevirtual 148, 3) := by decide +kernel
theorem dX11_endOfLines_7 : decode cX11_endOfLines 7 = .ok (.iload_n 2, 1) := by decide +kernel
theorem dX11_endOfLines_8 : decode cX11_endOfLines 8 = .ok (.ifCond .le 10, 3) := by decide +kernel
theorem dX11_endOfLines_11 : decode cX11_endOfLines 11 = .ok (.aload_n 0, 1) := by decide +kernel
theorem dX11_endOfLines_12 : decode cX11_endOfLines 12 = .ok (.getfield 74, 3) := by decide +kernel
theorem dX11_endOfLines_15 : decode cX11_endOfLines 15 = .ok (.invokevirtual 151, 3) := by decide +kernel
theorem dX11_endOfLines_18 : decode cX11_endOfLines 18 = .ok (.iload_n 1, 1) := by decide +kernel
theorem dX11_endOfLines_19 : decode cX11_endOfLines 19 = .ok (.iconst (-1), 1) := by decide +kernel
theorem dX11_endOfLines_20 : decode cX11_endOfLines 20 = .ok (.if_icmp .ne 7, 3) := by decide +kernel
theorem dX11_endOfLines_23 : decode cX11_endOfLines 23 = .ok (.iload_n 2, 1) := by decide +kernel
theorem dX11_endOfLines_24 : decode cX11_endOfLines 24 = .ok (.goto 6, 3) := by decide +kernel
theorem dX11_endOfLines_27 : decode cX11_endOfLines 27 = .ok (.iconst (-1), 1) := by decide +kernel
theorem dX11_endOfLines_28 : decode cX11_endOfLines 28 = .ok (.iload_n 1, 1) := by decide +kernel
theorem dX11_endOfLines_29 : decode cX11_endOfLines 29 = .ok (.isub, 1) := by decide +kernel
theorem dX11_endOfLines_30 : decode cX11_endOfLines 30 = .ok (.ireturn, 1) := by decide +kernel
def fn_X11_endOfLines (h : aH) (p0 : Nat) (p1 : Int32) (p2 : Int32) : Option (Int32 × aH) :=
  (gR h p0 10 0).bind fun a1 =>
  (ck h a1 7).bind fun u2 =>
  (fn_X8_clear h a1).bind fun h3 =>
  ((
    if p2 ≤ 0 then
      some h3
    else
      (gR h3 p0 10 10).bind fun a6 =>
      (ck h3 a6 1).bind fun u7 =>
      (fn_X2_forgetAll h3 a6).bind fun h8 =>
      some h8
  ) : Option (aH)).bind fun t4 =>
  if p1 = (-1) then
    some (p2, t4)
  else
    some (((-1) - p1), t4)
set_option maxRecDepth 20000 in
set_option maxHeartbeats 4000000 in
theorem ev_X11_endOfLines {l : Launch} {g : aG} {d : Nat} (hd : 1 ≤ d) (h : aH) (p0 : Nat) (p1 : Int32) (p2 : Int32) (o : Int32 × aH) (hf : fn_X11_endOfLines h p0 p1 p2 = some o) : EvM l g d yX11_endOfLines cX11_endOfLines 3 (some .int) [.ref p0, .int p1, .int p2] h (some (.int o.1), o.2) := by
  refine EvM.of mk_X11_endOfLines (Nat.le_of_ble_eq_true rfl) ?_
  intro Γ hl hg hq X
  have hd1 : 1 ≤ d := by omega
  have hk : RqI Γ o := hq
  unfold fn_X11_endOfLines at hf
  show Jd Γ (0, 0) 0 [some (.ref p0), some (.int p1), some (.int p2)] [] h
  refine r_aload_n (pc := 0) X dX11_endOfLines_0 rfl ?_
  obtain ⟨a1, ea1, hf⟩ := ob hf
  refine r_getR (pc := 1) X dX11_endOfLines_1 fl_X11_12 rfl ea1 ?_
  obtain ⟨u2, eu2, hf⟩ := ob hf
  obtain ⟨h3, eh3, hf⟩ := ob hf
  refine r_callVV (pc := 4) X [] dX11_endOfLines_4 ml_X11_148 vo_X8_clear ⟨Nat.le_refl _, Nat.le_refl _⟩ eu2 (ev_X8_clear (d := d - 1) (by omega) _ _ _ eh3) hd1 rfl (Nat.le_of_ble_eq_true rfl) rfl ?_
  refine r_iload_n (pc := 7) X dX11_endOfLines_7 rfl ?_
  obtain ⟨t4, et4, hf⟩ := ob hf
  have Jt4 : Jd Γ (0, 0) 18 [some (.ref p0), some (.int p1), some (.int p2)] [] t4 := by
    refine r_iload_n (pc := 18) X dX11_endOfLines_18 rfl ?_
    refine r_iconst (pc := 19) X (-1) dX11_endOfLines_19 (by decide) ?_
    refine r_icmp_ne (pc := 20) X 27 dX11_endOfLines_20 (by decide) (fun c5 => ?_) (fun c5 => ?_)
    · rw [if_neg c5] at hf
      refine r_iconst (pc := 27) X (-1) dX11_endOfLines_27 (by decide) ?_
      refine r_iload_n (pc := 28) X dX11_endOfLines_28 rfl ?_
      refine r_isub (pc := 29) X dX11_endOfLines_29 ?_
      obtain rfl := Option.some.inj hf
      exact r_iret (pc := 30) X dX11_endOfLines_30 hk
    · rw [if_pos c5] at hf
      refine r_iload_n (pc := 23) X dX11_endOfLines_23 rfl ?_
      refine r_goto (pc := 24) X 30 dX11_endOfLines_24 (by decide) ?_
      obtain rfl := Option.some.inj hf
      exact r_iret (pc := 30) X dX11_endOfLines_30 hk
  refine r_if_le (pc := 8) X 18 dX11_endOfLines_8 (by decide) (fun c9 => ?_) (fun c9 => ?_)
  · rw [if_pos c9] at et4
    obtain rfl := Option.some.inj et4
    exact Jt4
  · rw [if_neg c9] at et4
    refine r_aload_n (pc := 11) X dX11_endOfLines_11 rfl ?_
    obtain ⟨a6, ea6, et4⟩ := ob et4
    refine r_getR (pc := 12) X dX11_endOfLines_12 fl_X11_74 rfl ea6 ?_
    obtain ⟨u7, eu7, et4⟩ := ob et4
    obtain ⟨h8, eh8, et4⟩ := ob et4
    refine r_callVV (pc := 15) X [] dX11_endOfLines_15 ml_X11_151 vo_X2_forgetAll ⟨Nat.le_refl _, Nat.le_refl _⟩ eu7 (ev_X2_forgetAll (d := d - 1) (by omega) _ _ _ eh8) hd1 rfl (Nat.le_of_ble_eq_true rfl) rfl ?_
    obtain rfl := Option.some.inj et4
    exact Jt4

theorem dX11_basins_0 : decode cX11_basins 0 = .ok (.aload_n 0, 1) := by decide +kernel
theorem dX11_basins_1 : decode cX11_basins 1 = .ok (.bipush 23, 2) := by decide +kernel
theorem dX11_basins_3 : decode cX11_basins 3 = .ok (.bipush 6, 2) := by decide +kernel
theorem dX11_basins_5 : decode cX11_basins 5 = .ok (.aload_n 0, 1) := by decide +kernel
theorem dX11_basins_6 : decode cX11_basins 6 = .ok (.getfield 19, 3) := by decide +kernel
theorem dX11_basins_9 : decode cX11_basins 9 = .ok (.getfield 113, 3) := by decide +kernel
theorem dX11_basins_12 : decode cX11_basins 12 = .ok (.isub, 1) := by decide +kernel
theorem dX11_basins_13 : decode cX11_basins 13 = .ok (.iconst 0, 1) := by decide +kernel
theorem dX11_basins_14 : decode cX11_basins 14 = .ok (.invokevirtual 117, 3) := by decide +kernel
theorem dX11_basins_17 : decode cX11_basins 17 = .ok (.istore_n 1, 1) := by decide +kernel
theorem dX11_basins_18 : decode cX11_basins 18 = .ok (.iload_n 1, 1) := by decide +kernel
theorem dX11_basins_19 : decode cX11_basins 19 = .ok (.iconst (-1), 1) := by decide +kernel
theorem dX11_basins_20 : decode cX11_basins 20 = .ok (.if_icmp .ne 17, 3) := by decide +kernel
theorem dX11_basins_23 : decode cX11_basins 23 = .ok (.aload_n 0, 1) := by decide +kernel
theorem dX11_basins_24 : decode cX11_basins 24 = .ok (.getfield 12, 3) := by decide +kernel
theorem dX11_basins_27 : decode cX11_basins 27 = .ok (.getfield 121, 3) := by decide +kernel
theorem dX11_basins_30 : decode cX11_basins 30 = .ok (.iconst 1, 1) := by decide +kernel
theorem dX11_basins_31 : decode cX11_basins 31 = .ok (.iadd, 1) := by decide +kernel
theorem dX11_basins_32 : decode cX11_basins 32 = .ok (.iconst 4, 1) := by decide +kernel
theorem dX11_basins_33 : decode cX11_basins 33 = .ok (.idiv, 1) := by decide +kernel
theorem dX11_basins_34 : decode cX11_basins 34 = .ok (.goto 4, 3) := by decide +kernel
theorem dX11_basins_37 : decode cX11_basins 37 = .ok (.iconst 0, 1) := by decide +kernel
theorem dX11_basins_38 : decode cX11_basins 38 = .ok (.istore_n 2, 1) := by decide +kernel
theorem dX11_basins_39 : decode cX11_basins 39 = .ok (.iconst 0, 1) := by decide +kernel
theorem dX11_basins_40 : decode cX11_basins 40 = .ok (.istore_n 3, 1) := by decide +kernel
theorem dX11_basins_41 : decode cX11_basins 41 = .ok (.iload_n 3, 1) := by decide +kernel
theorem dX11_basins_42 : decode cX11_basins 42 = .ok (.iload_n 2, 1) := by decide +kernel
theorem dX11_basins_43 : decode cX11_basins 43 = .ok (.if_icmp .ge 16, 3) := by decide +kernel
theorem dX11_basins_46 : decode cX11_basins 46 = .ok (.aload_n 0, 1) := by decide +kernel
theorem dX11_basins_47 : decode cX11_basins 47 = .ok (.iload_n 3, 1) := by decide +kernel
theorem dX11_basins_48 : decode cX11_basins 48 = .ok (.iconst 4, 1) := by decide +kernel
theorem dX11_basins_49 : decode cX11_basins 49 = .ok (.imul, 1) := by decide +kernel
theorem dX11_basins_50 : decode cX11_basins 50 = .ok (.invokevirtual 124, 3) := by decide +kernel
theorem dX11_basins_53 : decode cX11_basins 53 = .ok (.iinc 3 1, 3) := by decide +kernel
theorem dX11_basins_56 : decode cX11_basins 56 = .ok (.goto (-15), 3) := by decide +kernel
theorem dX11_basins_59 : decode cX11_basins 59 = .ok (.aload_n 0, 1) := by decide +kernel
theorem dX11_basins_60 : decode cX11_basins 60 = .ok (.iload_n 1, 1) := by decide +kernel
theorem dX11_basins_61 : decode cX11_basins 61 = .ok (.iload_n 2, 1) := by decide +kernel
theorem dX11_basins_62 : decode cX11_basins 62 = .ok (.invokevirtual 128, 3) := by decide +kernel
theorem dX11_basins_65 : decode cX11_basins 65 = .ok (.ireturn, 1) := by decide +kernel
def lb_X11_basins_41 (v0 : Nat) (v1 : Int32) (v2 : Int32) (s : Int32 × aH) : Option ((Int32 × aH) ⊕ ((aH))) :=
  if s.1 < v2 then
    (ck s.2 v0 10).bind fun u6 =>
    (fn_X11_addBasin s.2 v0 (s.1 * 4)).bind fun h7 =>
    (some (s.1 + 1)).bind fun x8 =>
    some (.inl (x8, h7))
  else
    some (.inr s.2)
def hd_X11_basins_41 (Γ : aC) (v0 : Nat) (v1 : Int32) (v2 : Int32) (s : Int32 × aH) : Prop := Jd Γ (0, 0) 41 [some (.ref v0), some (.int v1), some (.int v2), some (.int s.1)] [] s.2
def ex_X11_basins_41 (Γ : aC) (v0 : Nat) (v1 : Int32) (v2 : Int32) (r : (aH)) : Prop := (fun r => ∀ (j3 : Option Value), Jd Γ (0, 0) 59 [some (.ref v0), some (.int v1), some (.int v2), j3] [] r) r
set_option maxRecDepth 20000 in
set_option maxHeartbeats 4000000 in
theorem lw_X11_basins_41 {Γ : aC} {d : Nat} (X : Cx Γ RX11 cX11_basins 4 (some .int) (d, 0, 0)) (hd : 5 ≤ d) (v0 : Nat) (v1 : Int32) (v2 : Int32) : ∀ n s o, lp (lb_X11_basins_41 v0 v1 v2) n s = some o → ex_X11_basins_41 Γ v0 v1 v2 o → hd_X11_basins_41 Γ v0 v1 v2 s := by
  have hd1 : 1 ≤ d := by omega
  refine J_lp _ _ _ ?_
  intro s o hf hk
  unfold lb_X11_basins_41 at hf
  refine r_iload_n (pc := 41) X dX11_basins_41 rfl ?_
  refine r_iload_n (pc := 42) X dX11_basins_42 rfl ?_
  refine r_icmp_ge (pc := 43) X 59 dX11_basins_43 (by decide) (fun c9 => ?_) (fun c9 => ?_)
  · rw [if_neg c9] at hf
    obtain rfl := Option.some.inj hf
    exact hk _
  · rw [if_pos c9] at hf
    refine r_aload_n (pc := 46) X dX11_basins_46 rfl ?_
    refine r_iload_n (pc := 47) X dX11_basins_47 rfl ?_
    refine r_iconst (pc := 48) X 4 dX11_basins_48 (by decide) ?_
    refine r_imul (pc := 49) X dX11_basins_49 ?_
    obtain ⟨u6, eu6, hf⟩ := ob hf
    obtain ⟨h7, eh7, hf⟩ := ob hf
    refine r_callVV (pc := 50) X [.int (s.1 * 4)] dX11_basins_50 ml_X11_124 vo_X11_addBasin ⟨Nat.le_refl _, Nat.le_refl _⟩ eu6 (ev_X11_addBasin (d := d - 1) (by omega) _ _ _ _ eh7) hd1 rfl (Nat.le_of_ble_eq_true rfl) rfl ?_
    obtain ⟨x8, ex8, hf⟩ := ob hf
    refine r_iinc2 (pc := 53) X 1 [some (.ref v0), some (.int v1), some (.int v2), some (.int x8)] dX11_basins_53 (by decide) rfl (by decide) ex8 rfl ?_
    refine r_goto (pc := 56) X 41 dX11_basins_56 (by decide) ?_
    obtain rfl := Option.some.inj hf
    exact hk
def fn_X11_basins (h : aH) (p0 : Nat) : Option (Int32 × aH) :=
  (gR h p0 10 1).bind fun a1 =>
  (gI h a1 0 0).bind fun x2 =>
  (ck h p0 10).bind fun u3 =>
  (fn_X11_wrongSignOfLines h p0 23 (6 - x2) 0).bind fun x4 =>
  ((
    if x4 = (-1) then
      (gR h p0 10 0).bind fun a14 =>
      (gI h a14 7 1).bind fun x15 =>
      (idv (x15 + 1) 4).bind fun x16 =>
      some x16
    else
      some 0
  ) : Option (Int32)).bind fun t5 =>
  (lp (lb_X11_basins_41 p0 x4 t5) lpN (0, h)).bind fun o10 =>
  (ck o10 p0 10).bind fun u12 =>
  (fn_X11_endOfLines o10 p0 x4 t5).bind fun o13 =>
  some (o13.1, o13.2)
set_option maxRecDepth 20000 in
set_option maxHeartbeats 4000000 in
theorem ev_X11_basins {l : Launch} {g : aG} {d : Nat} (hd : 5 ≤ d) (h : aH) (p0 : Nat) (o : Int32 × aH) (hf : fn_X11_basins h p0 = some o) : EvM l g d yX11_basins cX11_basins 4 (some .int) [.ref p0] h (some (.int o.1), o.2) := by
  refine EvM.of mk_X11_basins (Nat.le_of_ble_eq_true rfl) ?_
  intro Γ hl hg hq X
  have hd1 : 1 ≤ d := by omega
  have hk : RqI Γ o := hq
  unfold fn_X11_basins at hf
  show Jd Γ (0, 0) 0 [some (.ref p0), none, none, none] [] h
  refine r_aload_n (pc := 0) X dX11_basins_0 rfl ?_
  refine r_bipush (pc := 1) X 23 dX11_basins_1 (by decide) ?_
  refine r_bipush (pc := 3) X 6 dX11_basins_3 (by decide) ?_
  refine r_aload_n (pc := 5) X dX11_basins_5 rfl ?_
  obtain ⟨a1, ea1, hf⟩ := ob hf
  refine r_getR (pc := 6) X dX11_basins_6 fl_X11_19 rfl ea1 ?_
  obtain ⟨x2, ex2, hf⟩ := ob hf
  refine r_getI (pc := 9) X dX11_basins_9 fl_X11_113 rfl ex2 ?_
  refine r_isub (pc := 12) X dX11_basins_12 ?_
  refine r_iconst (pc := 13) X 0 dX11_basins_13 (by decide) ?_
  obtain ⟨u3, eu3, hf⟩ := ob hf
  obtain ⟨x4, ex4, hf⟩ := ob hf
  refine r_callVI (pc := 14) X [.int 23, .int (6 - x2), .int 0] dX11_basins_14 ml_X11_117 vo_X11_wrongSignOfLines ⟨Nat.le_refl _, Nat.le_refl _⟩ eu3 (ev_X11_wrongSignOfLines (d := d - 1) (by omega) _ _ _ _ _ _ ex4) hd1 rfl (Nat.le_of_ble_eq_true rfl) rfl ?_
  refine r_istore_n (pc := 17) X [some (.ref p0), some (.int x4), none, none] dX11_basins_17 (by decide) rfl ?_
  refine r_iload_n (pc := 18) X dX11_basins_18 rfl ?_
  refine r_iconst (pc := 19) X (-1) dX11_basins_19 (by decide) ?_
  obtain ⟨t5, et5, hf⟩ := ob hf
  have Jt5 : Jd Γ (0, 0) 38 [some (.ref p0), some (.int x4), none, none] [.int t5] h := by
    refine r_istore_n (pc := 38) X [some (.ref p0), some (.int x4), some (.int t5), none] dX11_basins_38 (by decide) rfl ?_
    refine r_iconst (pc := 39) X 0 dX11_basins_39 (by decide) ?_
    refine r_istore_n (pc := 40) X [some (.ref p0), some (.int x4), some (.int t5), some (.int 0)] dX11_basins_40 (by decide) rfl ?_
    obtain ⟨o10, eo10, hf⟩ := ob hf
    refine (lw_X11_basins_41 X hd _ _ _ lpN _ o10 eo10 ?_)
    intro j11
    refine r_aload_n (pc := 59) X dX11_basins_59 rfl ?_
    refine r_iload_n (pc := 60) X dX11_basins_60 rfl ?_
    refine r_iload_n (pc := 61) X dX11_basins_61 rfl ?_
    obtain ⟨u12, eu12, hf⟩ := ob hf
    obtain ⟨o13, eo13, hf⟩ := ob hf
    refine r_callVI (pc := 62) X [.int x4, .int t5] dX11_basins_62 ml_X11_128 vo_X11_endOfLines ⟨Nat.le_refl _, Nat.le_refl _⟩ eu12 (ev_X11_endOfLines (d := d - 1) (by omega) _ _ _ _ _ eo13) hd1 rfl (Nat.le_of_ble_eq_true rfl) rfl ?_
    obtain rfl := Option.some.inj hf
    exact r_iret (pc := 65) X dX11_basins_65 hk
  refine r_icmp_ne (pc := 20) X 37 dX11_basins_20 (by decide) (fun c17 => ?_) (fun c17 => ?_)
  · rw [if_neg c17] at et5
    refine r_iconst (pc := 37) X 0 dX11_basins_37 (by decide) ?_
    obtain rfl := Option.some.inj et5
    exact Jt5
  · rw [if_pos c17] at et5
    refine r_aload_n (pc := 23) X dX11_basins_23 rfl ?_
    obtain ⟨a14, ea14, et5⟩ := ob et5
    refine r_getR (pc := 24) X dX11_basins_24 fl_X11_12 rfl ea14 ?_
    obtain ⟨x15, ex15, et5⟩ := ob et5
    refine r_getI (pc := 27) X dX11_basins_27 fl_X11_121 rfl ex15 ?_
    refine r_iconst (pc := 30) X 1 dX11_basins_30 (by decide) ?_
    refine r_iadd (pc := 31) X dX11_basins_31 ?_
    refine r_iconst (pc := 32) X 4 dX11_basins_32 (by decide) ?_
    obtain ⟨x16, ex16, et5⟩ := ob et5
    refine r_idiv (pc := 33) X dX11_basins_33 ex16 ?_
    refine r_goto (pc := 34) X 38 dX11_basins_34 (by decide) ?_
    obtain rfl := Option.some.inj et5
    exact Jt5

theorem dX11_sluices_0 : decode cX11_sluices 0 = .ok (.aload_n 0, 1) := by decide +kernel
theorem dX11_sluices_1 : decode cX11_sluices 1 = .ok (.bipush 31, 2) := by decide +kernel
theorem dX11_sluices_3 : decode cX11_sluices 3 = .ok (.bipush 8, 2) := by decide +kernel
theorem dX11_sluices_5 : decode cX11_sluices 5 = .ok (.aload_n 0, 1) := by decide +kernel
theorem dX11_sluices_6 : decode cX11_sluices 6 = .ok (.getfield 19, 3) := by decide +kernel
theorem dX11_sluices_9 : decode cX11_sluices 9 = .ok (.getfield 132, 3) := by decide +kernel
theorem dX11_sluices_12 : decode cX11_sluices 12 = .ok (.isub, 1) := by decide +kernel
theorem dX11_sluices_13 : decode cX11_sluices 13 = .ok (.iconst 1, 1) := by decide +kernel
theorem dX11_sluices_14 : decode cX11_sluices 14 = .ok (.invokevirtual 117, 3) := by decide +kernel
theorem dX11_sluices_17 : decode cX11_sluices 17 = .ok (.istore_n 1, 1) := by decide +kernel
theorem dX11_sluices_18 : decode cX11_sluices 18 = .ok (.iload_n 1, 1) := by decide +kernel
theorem dX11_sluices_19 : decode cX11_sluices 19 = .ok (.iconst (-1), 1) := by decide +kernel
theorem dX11_sluices_20 : decode cX11_sluices 20 = .ok (.if_icmp .ne 17, 3) := by decide +kernel
theorem dX11_sluices_23 : decode cX11_sluices 23 = .ok (.aload_n 0, 1) := by decide +kernel
theorem dX11_sluices_24 : decode cX11_sluices 24 = .ok (.getfield 12, 3) := by decide +kernel
theorem dX11_sluices_27 : decode cX11_sluices 27 = .ok (.getfield 121, 3) := by decide +kernel
theorem dX11_sluices_30 : decode cX11_sluices 30 = .ok (.iconst 1, 1) := by decide +kernel
theorem dX11_sluices_31 : decode cX11_sluices 31 = .ok (.iadd, 1) := by decide +kernel
theorem dX11_sluices_32 : decode cX11_sluices 32 = .ok (.iconst 4, 1) := by decide +kernel
theorem dX11_sluices_33 : decode cX11_sluices 33 = .ok (.idiv, 1) := by decide +kernel
theorem dX11_sluices_34 : decode cX11_sluices 34 = .ok (.goto 4, 3) := by decide +kernel
theorem dX11_sluices_37 : decode cX11_sluices 37 = .ok (.iconst 0, 1) := by decide +kernel
theorem dX11_sluices_38 : decode cX11_sluices 38 = .ok (.istore_n 2, 1) := by decide +kernel
theorem dX11_sluices_39 : decode cX11_sluices 39 = .ok (.iconst 0, 1) := by decide +kernel
theorem dX11_sluices_40 : decode cX11_sluices 40 = .ok (.istore_n 3, 1) := by decide +kernel
theorem dX11_sluices_41 : decode cX11_sluices 41 = .ok (.iload_n 3, 1) := by decide +kernel
theorem dX11_sluices_42 : decode cX11_sluices 42 = .ok (.iload_n 2, 1) := by decide +kernel
theorem dX11_sluices_43 : decode cX11_sluices 43 = .ok (.if_icmp .ge 55, 3) := by decide +kernel
theorem dX11_sluices_46 : decode cX11_sluices 46 = .ok (.iload_n 3, 1) := by decide +kernel
theorem dX11_sluices_47 : decode cX11_sluices 47 = .ok (.iconst 4, 1) := by decide +kernel
theorem dX11_sluices_48 : decode cX11_sluices 48 = .ok (.imul, 1) := by decide +kernel
theorem dX11_sluices_49 : decode cX11_sluices 49 = .ok (.istore 4, 2) := by decide +kernel
theorem dX11_sluices_51 : decode cX11_sluices 51 = .ok (.aload_n 0, 1) := by decide +kernel
theorem dX11_sluices_52 : decode cX11_sluices 52 = .ok (.getfield 19, 3) := by decide +kernel
theorem dX11_sluices_55 : decode cX11_sluices 55 = .ok (.aload_n 0, 1) := by decide +kernel
theorem dX11_sluices_56 : decode cX11_sluices 56 = .ok (.getfield 12, 3) := by decide +kernel
theorem dX11_sluices_59 : decode cX11_sluices 59 = .ok (.iload 4, 2) := by decide +kernel
theorem dX11_sluices_61 : decode cX11_sluices 61 = .ok (.invokevirtual 135, 3) := by decide +kernel
theorem dX11_sluices_64 : decode cX11_sluices 64 = .ok (.aload_n 0, 1) := by decide +kernel
theorem dX11_sluices_65 : decode cX11_sluices 65 = .ok (.getfield 12, 3) := by decide +kernel
theorem dX11_sluices_68 : decode cX11_sluices 68 = .ok (.iload 4, 2) := by decide +kernel
theorem dX11_sluices_70 : decode cX11_sluices 70 = .ok (.iconst 1, 1) := by decide +kernel
theorem dX11_sluices_71 : decode cX11_sluices 71 = .ok (.iadd, 1) := by decide +kernel
theorem dX11_sluices_72 : decode cX11_sluices 72 = .ok (.invokevirtual 135, 3) := by decide +kernel
theorem dX11_sluices_75 : decode cX11_sluices 75 = .ok (.aload_n 0, 1) := by decide +kernel
theorem dX11_sluices_76 : decode cX11_sluices 76 = .ok (.getfield 12, 3) := by decide +kernel
theorem dX11_sluices_79 : decode cX11_sluices 79 = .ok (.iload 4, 2) := by decide +kernel
theorem dX11_sluices_81 : decode cX11_sluices 81 = .ok (.iconst 2, 1) := by decide +kernel
theorem dX11_sluices_82 : decode cX11_sluices 82 = .ok (.iadd, 1) := by decide +kernel
theorem dX11_sluices_83 : decode cX11_sluices 83 = .ok (.invokevirtual 138, 3) := by decide +kernel
theorem dX11_sluices_86 : decode cX11_sluices 86 = .ok (.invokestatic 141, 3) := by decide +kernel
theorem dX11_sluices_89 : decode cX11_sluices 89 = .ok (.invokevirtual 144, 3) := by decide +kernel
theorem dX11_sluices_92 : decode cX11_sluices 92 = .ok (.iinc 3 1, 3) := by decide +kernel
theorem dX11_sluices_95 : decode cX11_sluices 95 = .ok (.goto (-54), 3) := by decide +kernel
theorem dX11_sluices_98 : decode cX11_sluices 98 = .ok (.aload_n 0, 1) := by decide +kernel
theorem dX11_sluices_99 : decode cX11_sluices 99 = .ok (.iload_n 1, 1) := by decide +kernel
theorem dX11_sluices_100 : decode cX11_sluices 100 = .ok (.iload_n 2, 1) := by decide +kernel
theorem dX11_sluices_101 : decode cX11_sluices 101 = .ok (.invokevirtual 128, 3) := by decide +kernel
theorem dX11_sluices_104 : decode cX11_sluices 104 = .ok (.ireturn, 1) := by decide +kernel
def lb_X11_sluices_41 (v0 : Nat) (v1 : Int32) (v2 : Int32) (s : Int32 × aH) : Option ((Int32 × aH) ⊕ ((aH))) :=
  if s.1 < v2 then
    (some (s.1 * 4)).bind fun x6 =>
    (gR s.2 v0 10 1).bind fun a7 =>
    (gR s.2 v0 10 0).bind fun a8 =>
    (ck s.2 a8 7).bind fun u9 =>
    (fn_X8_digit s.2 a8 x6).bind fun x10 =>
    (gR s.2 v0 10 0).bind fun a11 =>
    (ck s.2 a11 7).bind fun u12 =>
    (fn_X8_digit s.2 a11 (x6 + 1)).bind fun x13 =>
    (gR s.2 v0 10 0).bind fun a14 =>
    (ck s.2 a14 7).bind fun u15 =>
    (fn_X8_at s.2 a14 (x6 + 2)).bind fun x16 =>
    (fn_X11_kindOf s.2 x16).bind fun x17 =>
    (ck s.2 a7 0).bind fun u18 =>
    (fn_X0_addSluice s.2 a7 x10 x13 x17).bind fun h19 =>
    (some (s.1 + 1)).bind fun x20 =>
    some (.inl (x20, h19))
  else
    some (.inr s.2)
def hd_X11_sluices_41 (Γ : aC) (v0 : Nat) (v1 : Int32) (v2 : Int32) (s : Int32 × aH) : Prop := ∀ (j4 : Option Value), Jd Γ (0, 0) 41 [some (.ref v0), some (.int v1), some (.int v2), some (.int s.1), j4] [] s.2
def ex_X11_sluices_41 (Γ : aC) (v0 : Nat) (v1 : Int32) (v2 : Int32) (r : (aH)) : Prop := (fun r => ∀ (j3 : Option Value) (j4 : Option Value), Jd Γ (0, 0) 98 [some (.ref v0), some (.int v1), some (.int v2), j3, j4] [] r) r
set_option maxRecDepth 20000 in
set_option maxHeartbeats 4000000 in
theorem lw_X11_sluices_41 {Γ : aC} {d : Nat} (X : Cx Γ RX11 cX11_sluices 5 (some .int) (d, 0, 0)) (hd : 5 ≤ d) (v0 : Nat) (v1 : Int32) (v2 : Int32) : ∀ n s o, lp (lb_X11_sluices_41 v0 v1 v2) n s = some o → ex_X11_sluices_41 Γ v0 v1 v2 o → hd_X11_sluices_41 Γ v0 v1 v2 s := by
  have hd1 : 1 ≤ d := by omega
  refine J_lp _ _ _ ?_
  intro s o hf hk j4
  unfold lb_X11_sluices_41 at hf
  refine r_iload_n (pc := 41) X dX11_sluices_41 rfl ?_
  refine r_iload_n (pc := 42) X dX11_sluices_42 rfl ?_
  refine r_icmp_ge (pc := 43) X 98 dX11_sluices_43 (by decide) (fun c21 => ?_) (fun c21 => ?_)
  · rw [if_neg c21] at hf
    obtain rfl := Option.some.inj hf
    exact hk _ _
  · rw [if_pos c21] at hf
    refine r_iload_n (pc := 46) X dX11_sluices_46 rfl ?_
    refine r_iconst (pc := 47) X 4 dX11_sluices_47 (by decide) ?_
    refine r_imul (pc := 48) X dX11_sluices_48 ?_
    obtain ⟨x6, ex6, hf⟩ := ob hf
    refine r_nmI ex6 ?_
    refine r_istore (pc := 49) X [some (.ref v0), some (.int v1), some (.int v2), some (.int s.1), some (.int x6)] dX11_sluices_49 (by decide) rfl ?_
    refine r_aload_n (pc := 51) X dX11_sluices_51 rfl ?_
    obtain ⟨a7, ea7, hf⟩ := ob hf
    refine r_getR (pc := 52) X dX11_sluices_52 fl_X11_19 rfl ea7 ?_
    refine r_aload_n (pc := 55) X dX11_sluices_55 rfl ?_
    obtain ⟨a8, ea8, hf⟩ := ob hf
    refine r_getR (pc := 56) X dX11_sluices_56 fl_X11_12 rfl ea8 ?_
    refine r_iload (pc := 59) X dX11_sluices_59 rfl ?_
    obtain ⟨u9, eu9, hf⟩ := ob hf
    obtain ⟨x10, ex10, hf⟩ := ob hf
    refine r_callVI (pc := 61) X [.int x6] dX11_sluices_61 ml_X11_135 vo_X8_digit ⟨Nat.le_refl _, Nat.le_refl _⟩ eu9 (ev_X8_digit (d := d - 1) (by omega) _ _ _ _ ex10) hd1 rfl (Nat.le_of_ble_eq_true rfl) rfl ?_
    refine r_aload_n (pc := 64) X dX11_sluices_64 rfl ?_
    obtain ⟨a11, ea11, hf⟩ := ob hf
    refine r_getR (pc := 65) X dX11_sluices_65 fl_X11_12 rfl ea11 ?_
    refine r_iload (pc := 68) X dX11_sluices_68 rfl ?_
    refine r_iconst (pc := 70) X 1 dX11_sluices_70 (by decide) ?_
    refine r_iadd (pc := 71) X dX11_sluices_71 ?_
    obtain ⟨u12, eu12, hf⟩ := ob hf
    obtain ⟨x13, ex13, hf⟩ := ob hf
    refine r_callVI (pc := 72) X [.int (x6 + 1)] dX11_sluices_72 ml_X11_135 vo_X8_digit ⟨Nat.le_refl _, Nat.le_refl _⟩ eu12 (ev_X8_digit (d := d - 1) (by omega) _ _ _ _ ex13) hd1 rfl (Nat.le_of_ble_eq_true rfl) rfl ?_
    refine r_aload_n (pc := 75) X dX11_sluices_75 rfl ?_
    obtain ⟨a14, ea14, hf⟩ := ob hf
    refine r_getR (pc := 76) X dX11_sluices_76 fl_X11_12 rfl ea14 ?_
    refine r_iload (pc := 79) X dX11_sluices_79 rfl ?_
    refine r_iconst (pc := 81) X 2 dX11_sluices_81 (by decide) ?_
    refine r_iadd (pc := 82) X dX11_sluices_82 ?_
    obtain ⟨u15, eu15, hf⟩ := ob hf
    obtain ⟨x16, ex16, hf⟩ := ob hf
    refine r_callVI (pc := 83) X [.int (x6 + 2)] dX11_sluices_83 ml_X11_138 vo_X8_at ⟨Nat.le_refl _, Nat.le_refl _⟩ eu15 (ev_X8_at (d := d - 1) (by omega) _ _ _ _ ex16) hd1 rfl (Nat.le_of_ble_eq_true rfl) rfl ?_
    obtain ⟨x17, ex17, hf⟩ := ob hf
    refine r_callSI (pc := 86) X [.int x16] dX11_sluices_86 ml_X11_141 so_X11_kindOf ⟨Nat.le_refl _, Nat.le_refl _⟩ (ev_X11_kindOf (d := d - 1) (by omega) _ _ _ ex17) hd1 rfl (Nat.le_of_ble_eq_true rfl) rfl ?_
    obtain ⟨u18, eu18, hf⟩ := ob hf
    obtain ⟨h19, eh19, hf⟩ := ob hf
    refine r_callVV (pc := 89) X [.int x10, .int x13, .int x17] dX11_sluices_89 ml_X11_144 vo_X0_addSluice ⟨Nat.le_refl _, Nat.le_refl _⟩ eu18 (ev_X0_addSluice (d := d - 1) (by omega) _ _ _ _ _ _ eh19) hd1 rfl (Nat.le_of_ble_eq_true rfl) rfl ?_
    obtain ⟨x20, ex20, hf⟩ := ob hf
    refine r_iinc2 (pc := 92) X 1 [some (.ref v0), some (.int v1), some (.int v2), some (.int x20), some (.int x6)] dX11_sluices_92 (by decide) rfl (by decide) ex20 rfl ?_
    refine r_goto (pc := 95) X 41 dX11_sluices_95 (by decide) ?_
    obtain rfl := Option.some.inj hf
    exact hk _
def fn_X11_sluices (h : aH) (p0 : Nat) : Option (Int32 × aH) :=
  (gR h p0 10 1).bind fun a1 =>
  (gI h a1 0 1).bind fun x2 =>
  (ck h p0 10).bind fun u3 =>
  (fn_X11_wrongSignOfLines h p0 31 (8 - x2) 1).bind fun x4 =>
  ((
    if x4 = (-1) then
      (gR h p0 10 0).bind fun a27 =>
      (gI h a27 7 1).bind fun x28 =>
      (idv (x28 + 1) 4).bind fun x29 =>
      some x29
    else
      some 0
  ) : Option (Int32)).bind fun t5 =>
  (lp (lb_X11_sluices_41 p0 x4 t5) lpN (0, h)).bind fun o22 =>
  (ck o22 p0 10).bind fun u25 =>
  (fn_X11_endOfLines o22 p0 x4 t5).bind fun o26 =>
  some (o26.1, o26.2)
set_option maxRecDepth 20000 in
set_option maxHeartbeats 4000000 in
theorem ev_X11_sluices {l : Launch} {g : aG} {d : Nat} (hd : 5 ≤ d) (h : aH) (p0 : Nat) (o : Int32 × aH) (hf : fn_X11_sluices h p0 = some o) : EvM l g d yX11_sluices cX11_sluices 5 (some .int) [.ref p0] h (some (.int o.1), o.2) := by
  refine EvM.of mk_X11_sluices (Nat.le_of_ble_eq_true rfl) ?_
  intro Γ hl hg hq X
  have hd1 : 1 ≤ d := by omega
  have hk : RqI Γ o := hq
  unfold fn_X11_sluices at hf
  show Jd Γ (0, 0) 0 [some (.ref p0), none, none, none, none] [] h
  refine r_aload_n (pc := 0) X dX11_sluices_0 rfl ?_
  refine r_bipush (pc := 1) X 31 dX11_sluices_1 (by decide) ?_
  refine r_bipush (pc := 3) X 8 dX11_sluices_3 (by decide) ?_
  refine r_aload_n (pc := 5) X dX11_sluices_5 rfl ?_
  obtain ⟨a1, ea1, hf⟩ := ob hf
  refine r_getR (pc := 6) X dX11_sluices_6 fl_X11_19 rfl ea1 ?_
  obtain ⟨x2, ex2, hf⟩ := ob hf
  refine r_getI (pc := 9) X dX11_sluices_9 fl_X11_132 rfl ex2 ?_
  refine r_isub (pc := 12) X dX11_sluices_12 ?_
  refine r_iconst (pc := 13) X 1 dX11_sluices_13 (by decide) ?_
  obtain ⟨u3, eu3, hf⟩ := ob hf
  obtain ⟨x4, ex4, hf⟩ := ob hf
  refine r_callVI (pc := 14) X [.int 31, .int (8 - x2), .int 1] dX11_sluices_14 ml_X11_117 vo_X11_wrongSignOfLines ⟨Nat.le_refl _, Nat.le_refl _⟩ eu3 (ev_X11_wrongSignOfLines (d := d - 1) (by omega) _ _ _ _ _ _ ex4) hd1 rfl (Nat.le_of_ble_eq_true rfl) rfl ?_
  refine r_istore_n (pc := 17) X [some (.ref p0), some (.int x4), none, none, none] dX11_sluices_17 (by decide) rfl ?_
  refine r_iload_n (pc := 18) X dX11_sluices_18 rfl ?_
  refine r_iconst (pc := 19) X (-1) dX11_sluices_19 (by decide) ?_
  obtain ⟨t5, et5, hf⟩ := ob hf
  have Jt5 : Jd Γ (0, 0) 38 [some (.ref p0), some (.int x4), none, none, none] [.int t5] h := by
    refine r_istore_n (pc := 38) X [some (.ref p0), some (.int x4), some (.int t5), none, none] dX11_sluices_38 (by decide) rfl ?_
    refine r_iconst (pc := 39) X 0 dX11_sluices_39 (by decide) ?_
    refine r_istore_n (pc := 40) X [some (.ref p0), some (.int x4), some (.int t5), some (.int 0), none] dX11_sluices_40 (by decide) rfl ?_
    obtain ⟨o22, eo22, hf⟩ := ob hf
    refine (lw_X11_sluices_41 X hd _ _ _ lpN _ o22 eo22 ?_) _
    intro j23 j24
    refine r_aload_n (pc := 98) X dX11_sluices_98 rfl ?_
    refine r_iload_n (pc := 99) X dX11_sluices_99 rfl ?_
    refine r_iload_n (pc := 100) X dX11_sluices_100 rfl ?_
    obtain ⟨u25, eu25, hf⟩ := ob hf
    obtain ⟨o26, eo26, hf⟩ := ob hf
    refine r_callVI (pc := 101) X [.int x4, .int t5] dX11_sluices_101 ml_X11_128 vo_X11_endOfLines ⟨Nat.le_refl _, Nat.le_refl _⟩ eu25 (ev_X11_endOfLines (d := d - 1) (by omega) _ _ _ _ _ eo26) hd1 rfl (Nat.le_of_ble_eq_true rfl) rfl ?_
    obtain rfl := Option.some.inj hf
    exact r_iret (pc := 104) X dX11_sluices_104 hk
  refine r_icmp_ne (pc := 20) X 37 dX11_sluices_20 (by decide) (fun c30 => ?_) (fun c30 => ?_)
  · rw [if_neg c30] at et5
    refine r_iconst (pc := 37) X 0 dX11_sluices_37 (by decide) ?_
    obtain rfl := Option.some.inj et5
    exact Jt5
  · rw [if_pos c30] at et5
    refine r_aload_n (pc := 23) X dX11_sluices_23 rfl ?_
    obtain ⟨a27, ea27, et5⟩ := ob et5
    refine r_getR (pc := 24) X dX11_sluices_24 fl_X11_12 rfl ea27 ?_
    obtain ⟨x28, ex28, et5⟩ := ob et5
    refine r_getI (pc := 27) X dX11_sluices_27 fl_X11_121 rfl ex28 ?_
    refine r_iconst (pc := 30) X 1 dX11_sluices_30 (by decide) ?_
    refine r_iadd (pc := 31) X dX11_sluices_31 ?_
    refine r_iconst (pc := 32) X 4 dX11_sluices_32 (by decide) ?_
    obtain ⟨x29, ex29, et5⟩ := ob et5
    refine r_idiv (pc := 33) X dX11_sluices_33 ex29 ?_
    refine r_goto (pc := 34) X 38 dX11_sluices_34 (by decide) ?_
    obtain rfl := Option.some.inj et5
    exact Jt5

theorem dX11_rule_0 : decode cX11_rule 0 = .ok (.aload_n 0, 1) := by decide +kernel
theorem dX11_rule_1 : decode cX11_rule 1 = .ok (.getfield 54, 3) := by decide +kernel
theorem dX11_rule_4 : decode cX11_rule 4 = .ok (.aload_n 0, 1) := by decide +kernel
theorem dX11_rule_5 : decode cX11_rule 5 = .ok (.getfield 46, 3) := by decide +kernel
theorem dX11_rule_8 : decode cX11_rule 8 = .ok (.invokevirtual 175, 3) := by decide +kernel
theorem dX11_rule_11 : decode cX11_rule 11 = .ok (.istore_n 1, 1) := by decide +kernel
theorem dX11_rule_12 : decode cX11_rule 12 = .ok (.aload_n 0, 1) := by decide +kernel
theorem dX11_rule_13 : decode cX11_rule 13 = .ok (.getfield 12, 3) := by decide +kernel
theorem dX11_rule_16 : decode cX11_rule 16 = .ok (.invokevirtual 148, 3) := by decide +kernel
theorem dX11_rule_19 : decode cX11_rule 19 = .ok (.iload_n 1, 1) := by decide +kernel
theorem dX11_rule_20 : decode cX11_rule 20 = .ok (.iconst (-1), 1) := by decide +kernel
theorem dX11_rule_21 : decode cX11_rule 21 = .ok (.if_icmp .eq 7, 3) := by decide +kernel
theorem dX11_rule_24 : decode cX11_rule 24 = .ok (.iconst (-1), 1) := by decide +kernel
theorem dX11_rule_25 : decode cX11_rule 25 = .ok (.iload_n 1, 1) := by decide +kernel
theorem dX11_rule_26 : decode cX11_rule 26 = .ok (.isub, 1) := by decide +kernel
theorem dX11_rule_27 : decode cX11_rule 27 = .ok (.ireturn, 1) := by decide +kernel
theorem dX11_rule_28 : decode cX11_rule 28 = .ok (.aload_n 0, 1) := by decide +kernel
theorem dX11_rule_29 : decode cX11_rule 29 = .ok (.getfield 42, 3) := by decide +kernel
theorem dX11_rule_32 : decode cX11_rule 32 = .ok (.aload_n 0, 1) := by decide +kernel
theorem dX11_rule_33 : decode cX11_rule 33 = .ok (.getfield 46, 3) := by decide +kernel
theorem dX11_rule_36 : decode cX11_rule 36 = .ok (.invokevirtual 179, 3) := by decide +kernel
theorem dX11_rule_39 : decode cX11_rule 39 = .ok (.iconst 0, 1) := by decide +kernel
theorem dX11_rule_40 : decode cX11_rule 40 = .ok (.ireturn, 1) := by decide +kernel
def fn_X11_rule (h : aH) (p0 : Nat) : Option (Int32 × aH) :=
  (gR h p0 10 6).bind fun a1 =>
  (gR h p0 10 5).bind fun a2 =>
  (ck h a1 4).bind fun u3 =>
  (fn_X5_read h a1 a2).bind fun o4 =>
  (gR o4.2 p0 10 0).bind fun a5 =>
  (ck o4.2 a5 7).bind fun u6 =>
  (fn_X8_clear o4.2 a5).bind fun h7 =>
  if o4.1 = (-1) then
    (gR h7 p0 10 4).bind fun a8 =>
    (gR h7 p0 10 5).bind fun a9 =>
    (ck h7 a8 3).bind fun u10 =>
    (fn_X4_takes h7 a8 a9).bind fun h11 =>
    some (0, h11)
  else
    some (((-1) - o4.1), h7)
set_option maxRecDepth 20000 in
set_option maxHeartbeats 4000000 in
theorem ev_X11_rule {l : Launch} {g : aG} {d : Nat} (hd : 6 ≤ d) (h : aH) (p0 : Nat) (o : Int32 × aH) (hf : fn_X11_rule h p0 = some o) : EvM l g d yX11_rule cX11_rule 2 (some .int) [.ref p0] h (some (.int o.1), o.2) := by
  refine EvM.of mk_X11_rule (Nat.le_of_ble_eq_true rfl) ?_
  intro Γ hl hg hq X
  have hd1 : 1 ≤ d := by omega
  have hk : RqI Γ o := hq
  unfold fn_X11_rule at hf
  show Jd Γ (0, 0) 0 [some (.ref p0), none] [] h
  refine r_aload_n (pc := 0) X dX11_rule_0 rfl ?_
  obtain ⟨a1, ea1, hf⟩ := ob hf
  refine r_getR (pc := 1) X dX11_rule_1 fl_X11_54 rfl ea1 ?_
  refine r_aload_n (pc := 4) X dX11_rule_4 rfl ?_
  obtain ⟨a2, ea2, hf⟩ := ob hf
  refine r_getR (pc := 5) X dX11_rule_5 fl_X11_46 rfl ea2 ?_
  obtain ⟨u3, eu3, hf⟩ := ob hf
  obtain ⟨o4, eo4, hf⟩ := ob hf
  refine r_callVI (pc := 8) X [.ref a2] dX11_rule_8 ml_X11_175 vo_X5_read ⟨Nat.le_refl _, Nat.le_refl _⟩ eu3 (ev_X5_read (d := d - 1) (by omega) _ _ _ _ eo4) hd1 rfl (Nat.le_of_ble_eq_true rfl) rfl ?_
  refine r_istore_n (pc := 11) X [some (.ref p0), some (.int o4.1)] dX11_rule_11 (by decide) rfl ?_
  refine r_aload_n (pc := 12) X dX11_rule_12 rfl ?_
  obtain ⟨a5, ea5, hf⟩ := ob hf
  refine r_getR (pc := 13) X dX11_rule_13 fl_X11_12 rfl ea5 ?_
  obtain ⟨u6, eu6, hf⟩ := ob hf
  obtain ⟨h7, eh7, hf⟩ := ob hf
  refine r_callVV (pc := 16) X [] dX11_rule_16 ml_X11_148 vo_X8_clear ⟨Nat.le_refl _, Nat.le_refl _⟩ eu6 (ev_X8_clear (d := d - 1) (by omega) _ _ _ eh7) hd1 rfl (Nat.le_of_ble_eq_true rfl) rfl ?_
  refine r_iload_n (pc := 19) X dX11_rule_19 rfl ?_
  refine r_iconst (pc := 20) X (-1) dX11_rule_20 (by decide) ?_
  refine r_icmp_eq (pc := 21) X 28 dX11_rule_21 (by decide) (fun c12 => ?_) (fun c12 => ?_)
  · rw [if_pos c12] at hf
    refine r_aload_n (pc := 28) X dX11_rule_28 rfl ?_
    obtain ⟨a8, ea8, hf⟩ := ob hf
    refine r_getR (pc := 29) X dX11_rule_29 fl_X11_42 rfl ea8 ?_
    refine r_aload_n (pc := 32) X dX11_rule_32 rfl ?_
    obtain ⟨a9, ea9, hf⟩ := ob hf
    refine r_getR (pc := 33) X dX11_rule_33 fl_X11_46 rfl ea9 ?_
    obtain ⟨u10, eu10, hf⟩ := ob hf
    obtain ⟨h11, eh11, hf⟩ := ob hf
    refine r_callVV (pc := 36) X [.ref a9] dX11_rule_36 ml_X11_179 vo_X4_takes ⟨Nat.le_refl _, Nat.le_refl _⟩ eu10 (ev_X4_takes (d := d - 1) (by omega) _ _ _ _ eh11) hd1 rfl (Nat.le_of_ble_eq_true rfl) rfl ?_
    refine r_iconst (pc := 39) X 0 dX11_rule_39 (by decide) ?_
    obtain rfl := Option.some.inj hf
    exact r_iret (pc := 40) X dX11_rule_40 hk
  · rw [if_neg c12] at hf
    refine r_iconst (pc := 24) X (-1) dX11_rule_24 (by decide) ?_
    refine r_iload_n (pc := 25) X dX11_rule_25 rfl ?_
    refine r_isub (pc := 26) X dX11_rule_26 ?_
    obtain rfl := Option.some.inj hf
    exact r_iret (pc := 27) X dX11_rule_27 hk

theorem dX11_entryOfSheet_0 : decode cX11_entryOfSheet 0 = .ok (.iload_n 0, 1) := by decide +kernel
theorem dX11_entryOfSheet_1 : decode cX11_entryOfSheet 1 = .ok (.ifCond .ne 8, 3) := by decide +kernel
theorem dX11_entryOfSheet_4 : decode cX11_entryOfSheet 4 = .ok (.iload_n 1, 1) := by decide +kernel
theorem dX11_entryOfSheet_5 : decode cX11_entryOfSheet 5 = .ok (.i2b, 1) := by decide +kernel
theorem dX11_entryOfSheet_6 : decode cX11_entryOfSheet 6 = .ok (.goto 14, 3) := by decide +kernel
theorem dX11_entryOfSheet_9 : decode cX11_entryOfSheet 9 = .ok (.iload_n 0, 1) := by decide +kernel
theorem dX11_entryOfSheet_10 : decode cX11_entryOfSheet 10 = .ok (.iconst 1, 1) := by decide +kernel
theorem dX11_entryOfSheet_11 : decode cX11_entryOfSheet 11 = .ok (.if_icmp .ne 8, 3) := by decide +kernel
theorem dX11_entryOfSheet_14 : decode cX11_entryOfSheet 14 = .ok (.iload_n 1, 1) := by decide +kernel
theorem dX11_entryOfSheet_15 : decode cX11_entryOfSheet 15 = .ok (.i2s, 1) := by decide +kernel
theorem dX11_entryOfSheet_16 : decode cX11_entryOfSheet 16 = .ok (.goto 4, 3) := by decide +kernel
theorem dX11_entryOfSheet_19 : decode cX11_entryOfSheet 19 = .ok (.iload_n 1, 1) := by decide +kernel
theorem dX11_entryOfSheet_20 : decode cX11_entryOfSheet 20 = .ok (.istore_n 2, 1) := by decide +kernel
theorem dX11_entryOfSheet_21 : decode cX11_entryOfSheet 21 = .ok (.iconst 0, 1) := by decide +kernel
theorem dX11_entryOfSheet_22 : decode cX11_entryOfSheet 22 = .ok (.bipush 9, 2) := by decide +kernel
theorem dX11_entryOfSheet_24 : decode cX11_entryOfSheet 24 = .ok (.iload_n 2, 1) := by decide +kernel
theorem dX11_entryOfSheet_25 : decode cX11_entryOfSheet 25 = .ok (.invokestatic 230, 3) := by decide +kernel
theorem dX11_entryOfSheet_28 : decode cX11_entryOfSheet 28 = .ok (.invokestatic 235, 3) := by decide +kernel
theorem dX11_entryOfSheet_31 : decode cX11_entryOfSheet 31 = .ok (.ireturn, 1) := by decide +kernel
def fn_X11_entryOfSheet (h : aH) (p0 : Int32) (p1 : Int32) : Option (Int32) :=
  ((
    if p0 = 0 then
      some (Int8.toInt32 (Int32.toInt8 p1))
    else
      if p0 = 1 then
        some (Int16.toInt32 (Int32.toInt16 p1))
      else
        some p1
  ) : Option (Int32)).bind fun t1 =>
  some (mx 0 (mn 9 t1))
set_option maxRecDepth 20000 in
set_option maxHeartbeats 4000000 in
theorem ev_X11_entryOfSheet {l : Launch} {g : aG} {d : Nat} (hd : 1 ≤ d) (h : aH) (p0 : Int32) (p1 : Int32) (o : Int32) (hf : fn_X11_entryOfSheet h p0 p1 = some o) : EvM l g d yX11_entryOfSheet cX11_entryOfSheet 3 (some .int) [.int p0, .int p1] h (some (.int o), h) := by
  refine EvM.of mk_X11_entryOfSheet (Nat.le_of_ble_eq_true rfl) ?_
  intro Γ hl hg hq X
  have hd1 : 1 ≤ d := by omega
  have hk : RpI h Γ o := hq
  unfold fn_X11_entryOfSheet at hf
  show Jd Γ (0, 0) 0 [some (.int p0), some (.int p1), none] [] h
  refine r_iload_n (pc := 0) X dX11_entryOfSheet_0 rfl ?_
  obtain ⟨t1, et1, hf⟩ := ob hf
  have Jt1 : Jd Γ (0, 0) 20 [some (.int p0), some (.int p1), none] [.int t1] h := by
    refine r_istore_n (pc := 20) X [some (.int p0), some (.int p1), some (.int t1)] dX11_entryOfSheet_20 (by decide) rfl ?_
    refine r_iconst (pc := 21) X 0 dX11_entryOfSheet_21 (by decide) ?_
    refine r_bipush (pc := 22) X 9 dX11_entryOfSheet_22 (by decide) ?_
    refine r_iload_n (pc := 24) X dX11_entryOfSheet_24 rfl ?_
    refine r_min (pc := 25) X dX11_entryOfSheet_25 ml_X11_230 ⟨Nat.le_refl _, Nat.le_refl _⟩ hd1 (Nat.le_of_ble_eq_true rfl) ?_
    refine r_max (pc := 28) X dX11_entryOfSheet_28 ml_X11_235 ⟨Nat.le_refl _, Nat.le_refl _⟩ hd1 (Nat.le_of_ble_eq_true rfl) ?_
    obtain rfl := Option.some.inj hf
    exact r_iret (pc := 31) X dX11_entryOfSheet_31 hk
  refine r_if_ne (pc := 1) X 9 dX11_entryOfSheet_1 (by decide) (fun c3 => ?_) (fun c3 => ?_)
  · rw [if_neg c3] at et1
    refine r_iload_n (pc := 9) X dX11_entryOfSheet_9 rfl ?_
    refine r_iconst (pc := 10) X 1 dX11_entryOfSheet_10 (by decide) ?_
    refine r_icmp_ne (pc := 11) X 19 dX11_entryOfSheet_11 (by decide) (fun c2 => ?_) (fun c2 => ?_)
    · rw [if_neg c2] at et1
      refine r_iload_n (pc := 19) X dX11_entryOfSheet_19 rfl ?_
      obtain rfl := Option.some.inj et1
      exact Jt1
    · rw [if_pos c2] at et1
      refine r_iload_n (pc := 14) X dX11_entryOfSheet_14 rfl ?_
      refine r_i2s (pc := 15) X dX11_entryOfSheet_15 ?_
      refine r_goto (pc := 16) X 20 dX11_entryOfSheet_16 (by decide) ?_
      obtain rfl := Option.some.inj et1
      exact Jt1
  · rw [if_pos c3] at et1
    refine r_iload_n (pc := 4) X dX11_entryOfSheet_4 rfl ?_
    refine r_i2b (pc := 5) X dX11_entryOfSheet_5 ?_
    refine r_goto (pc := 6) X 20 dX11_entryOfSheet_6 (by decide) ?_
    obtain rfl := Option.some.inj et1
    exact Jt1

theorem dX11_together_0 : decode cX11_together 0 = .ok (.iconst 0, 1) := by decide +kernel
theorem dX11_together_1 : decode cX11_together 1 = .ok (.istore_n 2, 1) := by decide +kernel
theorem dX11_together_2 : decode cX11_together 2 = .ok (.iconst 0, 1) := by decide +kernel
theorem dX11_together_3 : decode cX11_together 3 = .ok (.istore_n 3, 1) := by decide +kernel
theorem dX11_together_4 : decode cX11_together 4 = .ok (.iload_n 3, 1) := by decide +kernel
theorem dX11_together_5 : decode cX11_together 5 = .ok (.aload_n 0, 1) := by decide +kernel
theorem dX11_together_6 : decode cX11_together 6 = .ok (.getfield 19, 3) := by decide +kernel
theorem dX11_together_9 : decode cX11_together 9 = .ok (.getfield 113, 3) := by decide +kernel
theorem dX11_together_12 : decode cX11_together 12 = .ok (.if_icmp .ge 18, 3) := by decide +kernel
theorem dX11_together_15 : decode cX11_together 15 = .ok (.iload_n 2, 1) := by decide +kernel
theorem dX11_together_16 : decode cX11_together 16 = .ok (.aload_n 1, 1) := by decide +kernel
theorem dX11_together_17 : decode cX11_together 17 = .ok (.getfield 154, 3) := by decide +kernel
theorem dX11_together_20 : decode cX11_together 20 = .ok (.iload_n 3, 1) := by decide +kernel
theorem dX11_together_21 : decode cX11_together 21 = .ok (.iaload, 1) := by decide +kernel
theorem dX11_together_22 : decode cX11_together 22 = .ok (.iadd, 1) := by decide +kernel
theorem dX11_together_23 : decode cX11_together 23 = .ok (.istore_n 2, 1) := by decide +kernel
theorem dX11_together_24 : decode cX11_together 24 = .ok (.iinc 3 1, 3) := by decide +kernel
theorem dX11_together_27 : decode cX11_together 27 = .ok (.goto (-23), 3) := by decide +kernel
theorem dX11_together_30 : decode cX11_together 30 = .ok (.iload_n 2, 1) := by decide +kernel
theorem dX11_together_31 : decode cX11_together 31 = .ok (.ireturn, 1) := by decide +kernel
def lb_X11_together_4 (hh : aH) (v0 : Nat) (v1 : Nat) (s : Int32 × Int32) : Option ((Int32 × Int32) ⊕ ((Int32))) :=
  (gR hh v0 10 1).bind fun a1 =>
  (gI hh a1 0 0).bind fun x2 =>
  if s.2 < x2 then
    (gR hh v1 6 0).bind fun a3 =>
    (aI hh a3 14 s.2).bind fun x4 =>
    (some (s.1 + x4)).bind fun x5 =>
    (some (s.2 + 1)).bind fun x6 =>
    some (.inl (x5, x6))
  else
    some (.inr s.1)
def hd_X11_together_4 (Γ : aC) (hh : aH) (v0 : Nat) (v1 : Nat) (s : Int32 × Int32) : Prop := Jd Γ (0, 0) 4 [some (.ref v0), some (.ref v1), some (.int s.1), some (.int s.2)] [] hh
def ex_X11_together_4 (Γ : aC) (hh : aH) (v0 : Nat) (v1 : Nat) (r : (Int32)) : Prop := (fun r => RpI hh Γ r) r
set_option maxRecDepth 20000 in
set_option maxHeartbeats 4000000 in
theorem lw_X11_together_4 {Γ : aC} {d : Nat} (X : Cx Γ RX11 cX11_together 4 (some .int) (d, 0, 0)) (hd : 0 ≤ d) (hh : aH) (v0 : Nat) (v1 : Nat) : ∀ n s o, lp (lb_X11_together_4 hh v0 v1) n s = some o → ex_X11_together_4 Γ hh v0 v1 o → hd_X11_together_4 Γ hh v0 v1 s := by
  have hd1 : 0 ≤ d := by omega
  refine J_lp _ _ _ ?_
  intro s o hf hk
  unfold lb_X11_together_4 at hf
  refine r_iload_n (pc := 4) X dX11_together_4 rfl ?_
  refine r_aload_n (pc := 5) X dX11_together_5 rfl ?_
  obtain ⟨a1, ea1, hf⟩ := ob hf
  refine r_getR (pc := 6) X dX11_together_6 fl_X11_19 rfl ea1 ?_
  obtain ⟨x2, ex2, hf⟩ := ob hf
  refine r_getI (pc := 9) X dX11_together_9 fl_X11_113 rfl ex2 ?_
  refine r_icmp_ge (pc := 12) X 30 dX11_together_12 (by decide) (fun c7 => ?_) (fun c7 => ?_)
  · rw [if_neg c7] at hf
    refine r_iload_n (pc := 30) X dX11_together_30 rfl ?_
    obtain rfl := Option.some.inj hf
    exact r_iret (pc := 31) X dX11_together_31 hk
  · rw [if_pos c7] at hf
    refine r_iload_n (pc := 15) X dX11_together_15 rfl ?_
    refine r_aload_n (pc := 16) X dX11_together_16 rfl ?_
    obtain ⟨a3, ea3, hf⟩ := ob hf
    refine r_getR (pc := 17) X dX11_together_17 fl_X11_154 rfl ea3 ?_
    refine r_iload_n (pc := 20) X dX11_together_20 rfl ?_
    obtain ⟨x4, ex4, hf⟩ := ob hf
    refine r_iald (pc := 21) X dX11_together_21 ex4 ?_
    refine r_iadd (pc := 22) X dX11_together_22 ?_
    obtain ⟨x5, ex5, hf⟩ := ob hf
    refine r_nmI ex5 ?_
    refine r_istore_n (pc := 23) X [some (.ref v0), some (.ref v1), some (.int x5), some (.int s.2)] dX11_together_23 (by decide) rfl ?_
    obtain ⟨x6, ex6, hf⟩ := ob hf
    refine r_iinc2 (pc := 24) X 1 [some (.ref v0), some (.ref v1), some (.int x5), some (.int x6)] dX11_together_24 (by decide) rfl (by decide) ex6 rfl ?_
    refine r_goto (pc := 27) X 4 dX11_together_27 (by decide) ?_
    obtain rfl := Option.some.inj hf
    exact hk
def fn_X11_together (h : aH) (p0 : Nat) (p1 : Nat) : Option (Int32) :=
  (lp (lb_X11_together_4 h p0 p1) lpN (0, 0)).bind fun o8 =>
  some o8
set_option maxRecDepth 20000 in
set_option maxHeartbeats 4000000 in
theorem ev_X11_together {l : Launch} {g : aG} {d : Nat} (hd : 0 ≤ d) (h : aH) (p0 : Nat) (p1 : Nat) (o : Int32) (hf : fn_X11_together h p0 p1 = some o) : EvM l g d yX11_together cX11_together 4 (some .int) [.ref p0, .ref p1] h (some (.int o), h) := by
  refine EvM.of mk_X11_together (Nat.le_of_ble_eq_true rfl) ?_
  intro Γ hl hg hq X
  have hd1 : 0 ≤ d := by omega
  have hk : RpI h Γ o := hq
  unfold fn_X11_together at hf
  show Jd Γ (0, 0) 0 [some (.ref p0), some (.ref p1), none, none] [] h
  refine r_iconst (pc := 0) X 0 dX11_together_0 (by decide) ?_
  refine r_istore_n (pc := 1) X [some (.ref p0), some (.ref p1), some (.int 0), none] dX11_together_1 (by decide) rfl ?_
  refine r_iconst (pc := 2) X 0 dX11_together_2 (by decide) ?_
  refine r_istore_n (pc := 3) X [some (.ref p0), some (.ref p1), some (.int 0), some (.int 0)] dX11_together_3 (by decide) rfl ?_
  obtain ⟨o8, eo8, hf⟩ := ob hf
  refine (lw_X11_together_4 X hd _ _ _ lpN _ o8 eo8 ?_)
  obtain rfl := Option.some.inj hf
  exact hk

theorem dX11_sheet_0 : decode cX11_sheet 0 = .ok (.iload_n 1, 1) := by decide +kernel
theorem dX11_sheet_1 : decode cX11_sheet 1 = .ok (.ifCond .lt 14, 3) := by decide +kernel
theorem dX11_sheet_4 : decode cX11_sheet 4 = .ok (.iload_n 1, 1) := by decide +kernel
theorem dX11_sheet_5 : decode cX11_sheet 5 = .ok (.iconst 3, 1) := by decide +kernel
theorem dX11_sheet_6 : decode cX11_sheet 6 = .ok (.if_icmp .gt 9, 3) := by decide +kernel
theorem dX11_sheet_9 : decode cX11_sheet 9 = .ok (.iload_n 2, 1) := by decide +kernel
theorem dX11_sheet_10 : decode cX11_sheet 10 = .ok (.bipush 6, 2) := by decide +kernel
theorem dX11_sheet_12 : decode cX11_sheet 12 = .ok (.if_icmp .le 5, 3) := by decide +kernel
theorem dX11_sheet_15 : decode cX11_sheet 15 = .ok (.iconst (-1), 1) := by decide +kernel
theorem dX11_sheet_16 : decode cX11_sheet 16 = .ok (.ireturn, 1) := by decide +kernel
theorem dX11_sheet_17 : decode cX11_sheet 17 = .ok (.iload_n 1, 1) := by decide +kernel
theorem dX11_sheet_18 : decode cX11_sheet 18 = .ok (.iconst 3, 1) := by decide +kernel
theorem dX11_sheet_19 : decode cX11_sheet 19 = .ok (.if_icmp .ge 10, 3) := by decide +kernel
theorem dX11_sheet_22 : decode cX11_sheet 22 = .ok (.iload_n 2, 1) := by decide +kernel
theorem dX11_sheet_23 : decode cX11_sheet 23 = .ok (.ifCond .ge 6, 3) := by decide +kernel
theorem dX11_sheet_26 : decode cX11_sheet 26 = .ok (.bipush (-2), 2) := by decide +kernel
theorem dX11_sheet_28 : decode cX11_sheet 28 = .ok (.ireturn, 1) := by decide +kernel
theorem dX11_sheet_29 : decode cX11_sheet 29 = .ok (.iload_n 1, 1) := by decide +kernel
theorem dX11_sheet_30 : decode cX11_sheet 30 = .ok (.iconst 3, 1) := by decide +kernel
theorem dX11_sheet_31 : decode cX11_sheet 31 = .ok (.if_icmp .ne 7, 3) := by decide +kernel
theorem dX11_sheet_34 : decode cX11_sheet 34 = .ok (.iconst 0, 1) := by decide +kernel
theorem dX11_sheet_35 : decode cX11_sheet 35 = .ok (.goto 4, 3) := by decide +kernel
theorem dX11_sheet_38 : decode cX11_sheet 38 = .ok (.iload_n 2, 1) := by decide +kernel
theorem dX11_sheet_39 : decode cX11_sheet 39 = .ok (.istore 5, 2) := by decide +kernel
theorem dX11_sheet_41 : decode cX11_sheet 41 = .ok (.iconst 0, 1) := by decide +kernel
theorem dX11_sheet_42 : decode cX11_sheet 42 = .ok (.istore 6, 2) := by decide +kernel
theorem dX11_sheet_44 : decode cX11_sheet 44 = .ok (.iload 6, 2) := by decide +kernel
theorem dX11_sheet_46 : decode cX11_sheet 46 = .ok (.aload_n 0, 1) := by decide +kernel
theorem dX11_sheet_47 : decode cX11_sheet 47 = .ok (.getfield 19, 3) := by decide +kernel
theorem dX11_sheet_50 : decode cX11_sheet 50 = .ok (.getfield 113, 3) := by decide +kernel
theorem dX11_sheet_53 : decode cX11_sheet 53 = .ok (.if_icmp .ge 41, 3) := by decide +kernel
theorem dX11_sheet_56 : decode cX11_sheet 56 = .ok (.aload_n 0, 1) := by decide +kernel
theorem dX11_sheet_57 : decode cX11_sheet 57 = .ok (.getfield 61, 3) := by decide +kernel
theorem dX11_sheet_60 : decode cX11_sheet 60 = .ok (.getfield 154, 3) := by decide +kernel
theorem dX11_sheet_63 : decode cX11_sheet 63 = .ok (.iload 6, 2) := by decide +kernel
theorem dX11_sheet_65 : decode cX11_sheet 65 = .ok (.iload 6, 2) := by decide +kernel
theorem dX11_sheet_67 : decode cX11_sheet 67 = .ok (.iload 5, 2) := by decide +kernel
theorem dX11_sheet_69 : decode cX11_sheet 69 = .ok (.if_icmp .ge 17, 3) := by decide +kernel
theorem dX11_sheet_72 : decode cX11_sheet 72 = .ok (.iload_n 1, 1) := by decide +kernel
theorem dX11_sheet_73 : decode cX11_sheet 73 = .ok (.iload_n 3, 1) := by decide +kernel
theorem dX11_sheet_74 : decode cX11_sheet 74 = .ok (.iload 6, 2) := by decide +kernel
theorem dX11_sheet_76 : decode cX11_sheet 76 = .ok (.iload 4, 2) := by decide +kernel
theorem dX11_sheet_78 : decode cX11_sheet 78 = .ok (.imul, 1) := by decide +kernel
theorem dX11_sheet_79 : decode cX11_sheet 79 = .ok (.iadd, 1) := by decide +kernel
theorem dX11_sheet_80 : decode cX11_sheet 80 = .ok (.invokestatic 223, 3) := by decide +kernel
theorem dX11_sheet_83 : decode cX11_sheet 83 = .ok (.goto 4, 3) := by decide +kernel
theorem dX11_sheet_86 : decode cX11_sheet 86 = .ok (.iconst 0, 1) := by decide +kernel
theorem dX11_sheet_87 : decode cX11_sheet 87 = .ok (.iastore, 1) := by decide +kernel
theorem dX11_sheet_88 : decode cX11_sheet 88 = .ok (.iinc 6 1, 3) := by decide +kernel
theorem dX11_sheet_91 : decode cX11_sheet 91 = .ok (.goto (-47), 3) := by decide +kernel
theorem dX11_sheet_94 : decode cX11_sheet 94 = .ok (.iload_n 1, 1) := by decide +kernel
theorem dX11_sheet_95 : decode cX11_sheet 95 = .ok (.iconst 3, 1) := by decide +kernel
theorem dX11_sheet_96 : decode cX11_sheet 96 = .ok (.if_icmp .ne 8, 3) := by decide +kernel
theorem dX11_sheet_99 : decode cX11_sheet 99 = .ok (.bipush (-3), 2) := by decide +kernel
theorem dX11_sheet_101 : decode cX11_sheet 101 = .ok (.goto 11, 3) := by decide +kernel
theorem dX11_sheet_104 : decode cX11_sheet 104 = .ok (.aload_n 0, 1) := by decide +kernel
theorem dX11_sheet_105 : decode cX11_sheet 105 = .ok (.aload_n 0, 1) := by decide +kernel
theorem dX11_sheet_106 : decode cX11_sheet 106 = .ok (.getfield 61, 3) := by decide +kernel
theorem dX11_sheet_109 : decode cX11_sheet 109 = .ok (.invokevirtual 226, 3) := by decide +kernel
theorem dX11_sheet_112 : decode cX11_sheet 112 = .ok (.ireturn, 1) := by decide +kernel
def lb_X11_sheet_44 (v0 : Nat) (v1 : Int32) (v3 : Int32) (v4 : Int32) (v5 : Int32) (s : Int32 × aH) : Option ((Int32 × aH) ⊕ ((aH))) :=
  (gR s.2 v0 10 1).bind fun a2 =>
  (gI s.2 a2 0 0).bind fun x3 =>
  if s.1 < x3 then
    (gR s.2 v0 10 7).bind fun a4 =>
    (gR s.2 a4 6 0).bind fun a5 =>
    ((
      if s.1 < v5 then
        (fn_X11_entryOfSheet s.2 v1 (v3 + (s.1 * v4))).bind fun x9 =>
        some x9
      else
        some 0
    ) : Option (Int32)).bind fun t6 =>
    (wI s.2 a5 s.1 t6).bind fun h7 =>
    (some (s.1 + 1)).bind fun x8 =>
    some (.inl (x8, h7))
  else
    some (.inr s.2)
def hd_X11_sheet_44 (Γ : aC) (v0 : Nat) (v1 : Int32) (v3 : Int32) (v4 : Int32) (v5 : Int32) (s : Int32 × aH) : Prop := ∀ (j2 : Option Value), Jd Γ (0, 0) 44 [some (.ref v0), some (.int v1), j2, some (.int v3), some (.int v4), some (.int v5), some (.int s.1)] [] s.2
def ex_X11_sheet_44 (Γ : aC) (v0 : Nat) (v1 : Int32) (v3 : Int32) (v4 : Int32) (v5 : Int32) (r : (aH)) : Prop := (fun r => ∀ (j2 : Option Value) (j6 : Option Value), Jd Γ (0, 0) 94 [some (.ref v0), some (.int v1), j2, some (.int v3), some (.int v4), some (.int v5), j6] [] r) r
set_option maxRecDepth 20000 in
set_option maxHeartbeats 4000000 in
theorem lw_X11_sheet_44 {Γ : aC} {d : Nat} (X : Cx Γ RX11 cX11_sheet 7 (some .int) (d, 0, 0)) (hd : 2 ≤ d) (v0 : Nat) (v1 : Int32) (v3 : Int32) (v4 : Int32) (v5 : Int32) : ∀ n s o, lp (lb_X11_sheet_44 v0 v1 v3 v4 v5) n s = some o → ex_X11_sheet_44 Γ v0 v1 v3 v4 v5 o → hd_X11_sheet_44 Γ v0 v1 v3 v4 v5 s := by
  have hd1 : 1 ≤ d := by omega
  refine J_lp _ _ _ ?_
  intro s o hf hk j2
  unfold lb_X11_sheet_44 at hf
  refine r_iload (pc := 44) X dX11_sheet_44 rfl ?_
  refine r_aload_n (pc := 46) X dX11_sheet_46 rfl ?_
  obtain ⟨a2, ea2, hf⟩ := ob hf
  refine r_getR (pc := 47) X dX11_sheet_47 fl_X11_19 rfl ea2 ?_
  obtain ⟨x3, ex3, hf⟩ := ob hf
  refine r_getI (pc := 50) X dX11_sheet_50 fl_X11_113 rfl ex3 ?_
  refine r_icmp_ge (pc := 53) X 94 dX11_sheet_53 (by decide) (fun c11 => ?_) (fun c11 => ?_)
  · rw [if_neg c11] at hf
    obtain rfl := Option.some.inj hf
    exact hk _ _
  · rw [if_pos c11] at hf
    refine r_aload_n (pc := 56) X dX11_sheet_56 rfl ?_
    obtain ⟨a4, ea4, hf⟩ := ob hf
    refine r_getR (pc := 57) X dX11_sheet_57 fl_X11_61 rfl ea4 ?_
    obtain ⟨a5, ea5, hf⟩ := ob hf
    refine r_getR (pc := 60) X dX11_sheet_60 fl_X11_154 rfl ea5 ?_
    refine r_iload (pc := 63) X dX11_sheet_63 rfl ?_
    refine r_iload (pc := 65) X dX11_sheet_65 rfl ?_
    refine r_iload (pc := 67) X dX11_sheet_67 rfl ?_
    obtain ⟨t6, et6, hf⟩ := ob hf
    have Jt6 : Jd Γ (0, 0) 87 [some (.ref v0), some (.int v1), j2, some (.int v3), some (.int v4), some (.int v5), some (.int s.1)] [.int t6, .int s.1, .ref a5] s.2 := by
      obtain ⟨h7, eh7, hf⟩ := ob hf
      refine r_iast (pc := 87) X dX11_sheet_87 eh7 ?_
      obtain ⟨x8, ex8, hf⟩ := ob hf
      refine r_iinc2 (pc := 88) X 1 [some (.ref v0), some (.int v1), j2, some (.int v3), some (.int v4), some (.int v5), some (.int x8)] dX11_sheet_88 (by decide) rfl (by decide) ex8 rfl ?_
      refine r_goto (pc := 91) X 44 dX11_sheet_91 (by decide) ?_
      obtain rfl := Option.some.inj hf
      exact hk _
    refine r_icmp_ge (pc := 69) X 86 dX11_sheet_69 (by decide) (fun c10 => ?_) (fun c10 => ?_)
    · rw [if_neg c10] at et6
      refine r_iconst (pc := 86) X 0 dX11_sheet_86 (by decide) ?_
      obtain rfl := Option.some.inj et6
      exact Jt6
    · rw [if_pos c10] at et6
      refine r_iload_n (pc := 72) X dX11_sheet_72 rfl ?_
      refine r_iload_n (pc := 73) X dX11_sheet_73 rfl ?_
      refine r_iload (pc := 74) X dX11_sheet_74 rfl ?_
      refine r_iload (pc := 76) X dX11_sheet_76 rfl ?_
      refine r_imul (pc := 78) X dX11_sheet_78 ?_
      refine r_iadd (pc := 79) X dX11_sheet_79 ?_
      obtain ⟨x9, ex9, et6⟩ := ob et6
      refine r_callSI (pc := 80) X [.int v1, .int (v3 + (s.1 * v4))] dX11_sheet_80 ml_X11_223 so_X11_entryOfSheet ⟨Nat.le_refl _, Nat.le_refl _⟩ (ev_X11_entryOfSheet (d := d - 1) (by omega) _ _ _ _ ex9) hd1 rfl (Nat.le_of_ble_eq_true rfl) rfl ?_
      refine r_goto (pc := 83) X 87 dX11_sheet_83 (by decide) ?_
      obtain rfl := Option.some.inj et6
      exact Jt6
def fn_X11_sheet (h : aH) (p0 : Nat) (p1 : Int32) (p2 : Int32) (p3 : Int32) (p4 : Int32) : Option (Int32 × aH) :=
  if p1 < 0 then
    some ((-1), h)
  else
    if p1 ≤ 3 then
      if p2 ≤ 6 then
        if p1 < 3 then
          if p2 < 0 then
            some ((-2), h)
          else
            ((
              if p1 = 3 then
                some 0
              else
                some p2
            ) : Option (Int32)).bind fun t20 =>
            (lp (lb_X11_sheet_44 p0 p1 p3 p4 t20) lpN (0, h)).bind fun o21 =>
            if p1 = 3 then
              some ((-3), o21)
            else
              (gR o21 p0 10 7).bind fun a24 =>
              (ck o21 p0 10).bind fun u25 =>
              (fn_X11_together o21 p0 a24).bind fun x26 =>
              some (x26, o21)
        else
          ((
            if p1 = 3 then
              some 0
            else
              some p2
          ) : Option (Int32)).bind fun t1 =>
          (lp (lb_X11_sheet_44 p0 p1 p3 p4 t1) lpN (0, h)).bind fun o12 =>
          if p1 = 3 then
            some ((-3), o12)
          else
            (gR o12 p0 10 7).bind fun a15 =>
            (ck o12 p0 10).bind fun u16 =>
            (fn_X11_together o12 p0 a15).bind fun x17 =>
            some (x17, o12)
      else
        some ((-1), h)
    else
      some ((-1), h)
set_option maxRecDepth 20000 in
set_option maxHeartbeats 4000000 in
theorem ev_X11_sheet {l : Launch} {g : aG} {d : Nat} (hd : 2 ≤ d) (h : aH) (p0 : Nat) (p1 : Int32) (p2 : Int32) (p3 : Int32) (p4 : Int32) (o : Int32 × aH) (hf : fn_X11_sheet h p0 p1 p2 p3 p4 = some o) : EvM l g d yX11_sheet cX11_sheet 7 (some .int) [.ref p0, .int p1, .int p2, .int p3, .int p4] h (some (.int o.1), o.2) := by
  refine EvM.of mk_X11_sheet (Nat.le_of_ble_eq_true rfl) ?_
  intro Γ hl hg hq X
  have hd1 : 1 ≤ d := by omega
  have hk : RqI Γ o := hq
  unfold fn_X11_sheet at hf
  show Jd Γ (0, 0) 0 [some (.ref p0), some (.int p1), some (.int p2), some (.int p3), some (.int p4), none, none] [] h
  refine r_iload_n (pc := 0) X dX11_sheet_0 rfl ?_
  refine r_if_lt (pc := 1) X 15 dX11_sheet_1 (by decide) (fun c33 => ?_) (fun c33 => ?_)
  · rw [if_pos c33] at hf
    refine r_iconst (pc := 15) X (-1) dX11_sheet_15 (by decide) ?_
    obtain rfl := Option.some.inj hf
    exact r_iret (pc := 16) X dX11_sheet_16 hk
  · rw [if_neg c33] at hf
    refine r_iload_n (pc := 4) X dX11_sheet_4 rfl ?_
    refine r_iconst (pc := 5) X 3 dX11_sheet_5 (by decide) ?_
    refine r_icmp_gt (pc := 6) X 15 dX11_sheet_6 (by decide) (fun c32 => ?_) (fun c32 => ?_)
    · rw [if_neg c32] at hf
      refine r_iconst (pc := 15) X (-1) dX11_sheet_15 (by decide) ?_
      obtain rfl := Option.some.inj hf
      exact r_iret (pc := 16) X dX11_sheet_16 hk
    · rw [if_pos c32] at hf
      refine r_iload_n (pc := 9) X dX11_sheet_9 rfl ?_
      refine r_bipush (pc := 10) X 6 dX11_sheet_10 (by decide) ?_
      refine r_icmp_le (pc := 12) X 17 dX11_sheet_12 (by decide) (fun c31 => ?_) (fun c31 => ?_)
      · rw [if_pos c31] at hf
        refine r_iload_n (pc := 17) X dX11_sheet_17 rfl ?_
        refine r_iconst (pc := 18) X 3 dX11_sheet_18 (by decide) ?_
        refine r_icmp_ge (pc := 19) X 29 dX11_sheet_19 (by decide) (fun c30 => ?_) (fun c30 => ?_)
        · rw [if_neg c30] at hf
          refine r_iload_n (pc := 29) X dX11_sheet_29 rfl ?_
          refine r_iconst (pc := 30) X 3 dX11_sheet_30 (by decide) ?_
          obtain ⟨t1, et1, hf⟩ := ob hf
          have Jt1 : Jd Γ (0, 0) 39 [some (.ref p0), some (.int p1), some (.int p2), some (.int p3), some (.int p4), none, none] [.int t1] h := by
            refine r_istore (pc := 39) X [some (.ref p0), some (.int p1), some (.int p2), some (.int p3), some (.int p4), some (.int t1), none] dX11_sheet_39 (by decide) rfl ?_
            refine r_iconst (pc := 41) X 0 dX11_sheet_41 (by decide) ?_
            refine r_istore (pc := 42) X [some (.ref p0), some (.int p1), some (.int p2), some (.int p3), some (.int p4), some (.int t1), some (.int 0)] dX11_sheet_42 (by decide) rfl ?_
            obtain ⟨o12, eo12, hf⟩ := ob hf
            refine (lw_X11_sheet_44 X hd _ _ _ _ _ lpN _ o12 eo12 ?_) _
            intro j13 j14
            refine r_iload_n (pc := 94) X dX11_sheet_94 rfl ?_
            refine r_iconst (pc := 95) X 3 dX11_sheet_95 (by decide) ?_
            refine r_icmp_ne (pc := 96) X 104 dX11_sheet_96 (by decide) (fun c18 => ?_) (fun c18 => ?_)
            · rw [if_neg c18] at hf
              refine r_aload_n (pc := 104) X dX11_sheet_104 rfl ?_
              refine r_aload_n (pc := 105) X dX11_sheet_105 rfl ?_
              obtain ⟨a15, ea15, hf⟩ := ob hf
              refine r_getR (pc := 106) X dX11_sheet_106 fl_X11_61 rfl ea15 ?_
              obtain ⟨u16, eu16, hf⟩ := ob hf
              obtain ⟨x17, ex17, hf⟩ := ob hf
              refine r_callVI (pc := 109) X [.ref a15] dX11_sheet_109 ml_X11_226 vo_X11_together ⟨Nat.le_refl _, Nat.le_refl _⟩ eu16 (ev_X11_together (d := d - 1) (by omega) _ _ _ _ ex17) hd1 rfl (Nat.le_of_ble_eq_true rfl) rfl ?_
              obtain rfl := Option.some.inj hf
              exact r_iret (pc := 112) X dX11_sheet_112 hk
            · rw [if_pos c18] at hf
              refine r_bipush (pc := 99) X (-3) dX11_sheet_99 (by decide) ?_
              refine r_goto (pc := 101) X 112 dX11_sheet_101 (by decide) ?_
              obtain rfl := Option.some.inj hf
              exact r_iret (pc := 112) X dX11_sheet_112 hk
          refine r_icmp_ne (pc := 31) X 38 dX11_sheet_31 (by decide) (fun c19 => ?_) (fun c19 => ?_)
          · rw [if_neg c19] at et1
            refine r_iload_n (pc := 38) X dX11_sheet_38 rfl ?_
            obtain rfl := Option.some.inj et1
            exact Jt1
          · rw [if_pos c19] at et1
            refine r_iconst (pc := 34) X 0 dX11_sheet_34 (by decide) ?_
            refine r_goto (pc := 35) X 39 dX11_sheet_35 (by decide) ?_
            obtain rfl := Option.some.inj et1
            exact Jt1
        · rw [if_pos c30] at hf
          refine r_iload_n (pc := 22) X dX11_sheet_22 rfl ?_
          refine r_if_ge (pc := 23) X 29 dX11_sheet_23 (by decide) (fun c29 => ?_) (fun c29 => ?_)
          · rw [if_neg c29] at hf
            refine r_iload_n (pc := 29) X dX11_sheet_29 rfl ?_
            refine r_iconst (pc := 30) X 3 dX11_sheet_30 (by decide) ?_
            obtain ⟨t20, et20, hf⟩ := ob hf
            have Jt20 : Jd Γ (0, 0) 39 [some (.ref p0), some (.int p1), some (.int p2), some (.int p3), some (.int p4), none, none] [.int t20] h := by
              refine r_istore (pc := 39) X [some (.ref p0), some (.int p1), some (.int p2), some (.int p3), some (.int p4), some (.int t20), none] dX11_sheet_39 (by decide) rfl ?_
              refine r_iconst (pc := 41) X 0 dX11_sheet_41 (by decide) ?_
              refine r_istore (pc := 42) X [some (.ref p0), some (.int p1), some (.int p2), some (.int p3), some (.int p4), some (.int t20), some (.int 0)] dX11_sheet_42 (by decide) rfl ?_
              obtain ⟨o21, eo21, hf⟩ := ob hf
              refine (lw_X11_sheet_44 X hd _ _ _ _ _ lpN _ o21 eo21 ?_) _
              intro j22 j23
              refine r_iload_n (pc := 94) X dX11_sheet_94 rfl ?_
              refine r_iconst (pc := 95) X 3 dX11_sheet_95 (by decide) ?_
              refine r_icmp_ne (pc := 96) X 104 dX11_sheet_96 (by decide) (fun c27 => ?_) (fun c27 => ?_)
              · rw [if_neg c27] at hf
                refine r_aload_n (pc := 104) X dX11_sheet_104 rfl ?_
                refine r_aload_n (pc := 105) X dX11_sheet_105 rfl ?_
                obtain ⟨a24, ea24, hf⟩ := ob hf
                refine r_getR (pc := 106) X dX11_sheet_106 fl_X11_61 rfl ea24 ?_
                obtain ⟨u25, eu25, hf⟩ := ob hf
                obtain ⟨x26, ex26, hf⟩ := ob hf
                refine r_callVI (pc := 109) X [.ref a24] dX11_sheet_109 ml_X11_226 vo_X11_together ⟨Nat.le_refl _, Nat.le_refl _⟩ eu25 (ev_X11_together (d := d - 1) (by omega) _ _ _ _ ex26) hd1 rfl (Nat.le_of_ble_eq_true rfl) rfl ?_
                obtain rfl := Option.some.inj hf
                exact r_iret (pc := 112) X dX11_sheet_112 hk
              · rw [if_pos c27] at hf
                refine r_bipush (pc := 99) X (-3) dX11_sheet_99 (by decide) ?_
                refine r_goto (pc := 101) X 112 dX11_sheet_101 (by decide) ?_
                obtain rfl := Option.some.inj hf
                exact r_iret (pc := 112) X dX11_sheet_112 hk
            refine r_icmp_ne (pc := 31) X 38 dX11_sheet_31 (by decide) (fun c28 => ?_) (fun c28 => ?_)
            · rw [if_neg c28] at et20
              refine r_iload_n (pc := 38) X dX11_sheet_38 rfl ?_
              obtain rfl := Option.some.inj et20
              exact Jt20
            · rw [if_pos c28] at et20
              refine r_iconst (pc := 34) X 0 dX11_sheet_34 (by decide) ?_
              refine r_goto (pc := 35) X 39 dX11_sheet_35 (by decide) ?_
              obtain rfl := Option.some.inj et20
              exact Jt20
          · rw [if_pos c29] at hf
            refine r_bipush (pc := 26) X (-2) dX11_sheet_26 (by decide) ?_
            obtain rfl := Option.some.inj hf
            exact r_iret (pc := 28) X dX11_sheet_28 hk
      · rw [if_neg c31] at hf
        refine r_iconst (pc := 15) X (-1) dX11_sheet_15 (by decide) ?_
        obtain rfl := Option.some.inj hf
        exact r_iret (pc := 16) X dX11_sheet_16 hk

theorem dX11_letHoursPass_0 : decode cX11_letHoursPass 0 = .ok (.iload_n 1, 1) := by decide +kernel
theorem dX11_letHoursPass_1 : decode cX11_letHoursPass 1 = .ok (.ifCond .lt 9, 3) := by decide +kernel
theorem dX11_letHoursPass_4 : decode cX11_letHoursPass 4 = .ok (.iload_n 1, 1) := by decide +kernel
theorem dX11_letHoursPass_5 : decode cX11_letHoursPass 5 = .ok (.bipush 60, 2) := by decide +kernel
theorem dX11_letHoursPass_7 : decode cX11_letHoursPass 7 = .ok (.if_icmp .le 5, 3) := by decide +kernel
theorem dX11_letHoursPass_10 : decode cX11_letHoursPass 10 = .ok (.iconst (-1), 1) := by decide +kernel
theorem dX11_letHoursPass_11 : decode cX11_letHoursPass 11 = .ok (.ireturn, 1) := by decide +kernel
theorem dX11_letHoursPass_12 : decode cX11_letHoursPass 12 = .ok (.aload_n 0, 1) := by decide +kernel
theorem dX11_letHoursPass_13 : decode cX11_letHoursPass 13 = .ok (.getfield 19, 3) := by decide +kernel
theorem dX11_letHoursPass_16 : decode cX11_letHoursPass 16 = .ok (.invokevirtual 282, 3) := by decide +kernel
theorem dX11_letHoursPass_19 : decode cX11_letHoursPass 19 = .ok (.iconst 0, 1) := by decide +kernel
theorem dX11_letHoursPass_20 : decode cX11_letHoursPass 20 = .ok (.istore_n 2, 1) := by decide +kernel
theorem dX11_letHoursPass_21 : decode cX11_letHoursPass 21 = .ok (.iload_n 2, 1) := by decide +kernel
theorem dX11_letHoursPass_22 : decode cX11_letHoursPass 22 = .ok (.iload_n 1, 1) := by decide +kernel
theorem dX11_letHoursPass_23 : decode cX11_letHoursPass 23 = .ok (.if_icmp .ge 24, 3) := by decide +kernel
theorem dX11_letHoursPass_26 : decode cX11_letHoursPass 26 = .ok (.aload_n 0, 1) := by decide +kernel
theorem dX11_letHoursPass_27 : decode cX11_letHoursPass 27 = .ok (.getfield 19, 3) := by decide +kernel
theorem dX11_letHoursPass_30 : decode cX11_letHoursPass 30 = .ok (.aload_n 0, 1) := by decide +kernel
theorem dX11_letHoursPass_31 : decode cX11_letHoursPass 31 = .ok (.getfield 61, 3) := by decide +kernel
theorem dX11_letHoursPass_34 : decode cX11_letHoursPass 34 = .ok (.aload_n 0, 1) := by decide +kernel
theorem dX11_letHoursPass_35 : decode cX11_letHoursPass 35 = .ok (.getfield 42, 3) := by decide +kernel
theorem dX11_letHoursPass_38 : decode cX11_letHoursPass 38 = .ok (.invokevirtual 283, 3) := by decide +kernel
theorem dX11_letHoursPass_41 : decode cX11_letHoursPass 41 = .ok (.iinc 2 1, 3) := by decide +kernel
theorem dX11_letHoursPass_44 : decode cX11_letHoursPass 44 = .ok (.goto (-23), 3) := by decide +kernel
theorem dX11_letHoursPass_47 : decode cX11_letHoursPass 47 = .ok (.aload_n 0, 1) := by decide +kernel
theorem dX11_letHoursPass_48 : decode cX11_letHoursPass 48 = .ok (.aload_n 0, 1) := by decide +kernel
theorem dX11_letHoursPass_49 : decode cX11_letHoursPass 49 = .ok (.getfield 61, 3) := by decide +kernel
theorem dX11_letHoursPass_52 : decode cX11_letHoursPass 52 = .ok (.invokevirtual 226, 3) := by decide +kernel
theorem dX11_letHoursPass_55 : decode cX11_letHoursPass 55 = .ok (.ireturn, 1) := by decide +kernel
def lb_X11_letHoursPass_21 (v0 : Nat) (v1 : Int32) (s : Int32 × aH) : Option ((Int32 × aH) ⊕ ((aH))) :=
  if s.1 < v1 then
    (gR s.2 v0 10 1).bind fun a4 =>
    (gR s.2 v0 10 7).bind fun a5 =>
    (gR s.2 v0 10 4).bind fun a6 =>
    (ck s.2 a4 0).bind fun u7 =>
    (fn_X0_pass s.2 a4 a5 a6).bind fun h8 =>
    (some (s.1 + 1)).bind fun x9 =>
    some (.inl (x9, h8))
  else
    some (.inr s.2)
def hd_X11_letHoursPass_21 (Γ : aC) (v0 : Nat) (v1 : Int32) (s : Int32 × aH) : Prop := Jd Γ (0, 0) 21 [some (.ref v0), some (.int v1), some (.int s.1)] [] s.2
def ex_X11_letHoursPass_21 (Γ : aC) (v0 : Nat) (v1 : Int32) (r : (aH)) : Prop := (fun r => ∀ (j2 : Option Value), Jd Γ (0, 0) 47 [some (.ref v0), some (.int v1), j2] [] r) r
set_option maxRecDepth 20000 in
set_option maxHeartbeats 4000000 in
theorem lw_X11_letHoursPass_21 {Γ : aC} {d : Nat} (X : Cx Γ RX11 cX11_letHoursPass 3 (some .int) (d, 0, 0)) (hd : 4 ≤ d) (v0 : Nat) (v1 : Int32) : ∀ n s o, lp (lb_X11_letHoursPass_21 v0 v1) n s = some o → ex_X11_letHoursPass_21 Γ v0 v1 o → hd_X11_letHoursPass_21 Γ v0 v1 s := by
  have hd1 : 1 ≤ d := by omega
  refine J_lp _ _ _ ?_
  intro s o hf hk
  unfold lb_X11_letHoursPass_21 at hf
  refine r_iload_n (pc := 21) X dX11_letHoursPass_21 rfl ?_
  refine r_iload_n (pc := 22) X dX11_letHoursPass_22 rfl ?_
  refine r_icmp_ge (pc := 23) X 47 dX11_letHoursPass_23 (by decide) (fun c10 => ?_) (fun c10 => ?_)
  · rw [if_neg c10] at hf
    obtain rfl := Option.some.inj hf
    exact hk _
  · rw [if_pos c10] at hf
    refine r_aload_n (pc := 26) X dX11_letHoursPass_26 rfl ?_
    obtain ⟨a4, ea4, hf⟩ := ob hf
    refine r_getR (pc := 27) X dX11_letHoursPass_27 fl_X11_19 rfl ea4 ?_
    refine r_aload_n (pc := 30) X dX11_letHoursPass_30 rfl ?_
    obtain ⟨a5, ea5, hf⟩ := ob hf
    refine r_getR (pc := 31) X dX11_letHoursPass_31 fl_X11_61 rfl ea5 ?_
    refine r_aload_n (pc := 34) X dX11_letHoursPass_34 rfl ?_
    obtain ⟨a6, ea6, hf⟩ := ob hf
    refine r_getR (pc := 35) X dX11_letHoursPass_35 fl_X11_42 rfl ea6 ?_
    obtain ⟨u7, eu7, hf⟩ := ob hf
    obtain ⟨h8, eh8, hf⟩ := ob hf
    refine r_callVV (pc := 38) X [.ref a5, .ref a6] dX11_letHoursPass_38 ml_X11_283 vo_X0_pass ⟨Nat.le_refl _, Nat.le_refl _⟩ eu7 (ev_X0_pass (d := d - 1) (by omega) _ _ _ _ _ eh8) hd1 rfl (Nat.le_of_ble_eq_true rfl) rfl ?_
    obtain ⟨x9, ex9, hf⟩ := ob hf
    refine r_iinc2 (pc := 41) X 1 [some (.ref v0), some (.int v1), some (.int x9)] dX11_letHoursPass_41 (by decide) rfl (by decide) ex9 rfl ?_
    refine r_goto (pc := 44) X 21 dX11_letHoursPass_44 (by decide) ?_
    obtain rfl := Option.some.inj hf
    exact hk
def fn_X11_letHoursPass (h : aH) (p0 : Nat) (p1 : Int32) : Option (Int32 × aH) :=
  if p1 < 0 then
    some ((-1), h)
  else
    if p1 ≤ 60 then
      (gR h p0 10 1).bind fun a1 =>
      (ck h a1 0).bind fun u2 =>
      (fn_X0_begin h a1).bind fun h3 =>
      (lp (lb_X11_letHoursPass_21 p0 p1) lpN (0, h3)).bind fun o11 =>
      (gR o11 p0 10 7).bind fun a13 =>
      (ck o11 p0 10).bind fun u14 =>
      (fn_X11_together o11 p0 a13).bind fun x15 =>
      some (x15, o11)
    else
      some ((-1), h)
set_option maxRecDepth 20000 in
set_option maxHeartbeats 4000000 in
theorem ev_X11_letHoursPass {l : Launch} {g : aG} {d : Nat} (hd : 4 ≤ d) (h : aH) (p0 : Nat) (p1 : Int32) (o : Int32 × aH) (hf : fn_X11_letHoursPass h p0 p1 = some o) : EvM l g d yX11_letHoursPass cX11_letHoursPass 3 (some .int) [.ref p0, .int p1] h (some (.int o.1), o.2) := by
  refine EvM.of mk_X11_letHoursPass (Nat.le_of_ble_eq_true rfl) ?_
  intro Γ hl hg hq X
  have hd1 : 1 ≤ d := by omega
  have hk : RqI Γ o := hq
  unfold fn_X11_letHoursPass at hf
  show Jd Γ (0, 0) 0 [some (.ref p0), some (.int p1), none] [] h
  refine r_iload_n (pc := 0) X dX11_letHoursPass_0 rfl ?_
  refine r_if_lt (pc := 1) X 10 dX11_letHoursPass_1 (by decide) (fun c17 => ?_) (fun c17 => ?_)
  · rw [if_pos c17] at hf
    refine r_iconst (pc := 10) X (-1) dX11_letHoursPass_10 (by decide) ?_
    obtain rfl := Option.some.inj hf
    exact r_iret (pc := 11) X dX11_letHoursPass_11 hk
  · rw [if_neg c17] at hf
    refine r_iload_n (pc := 4) X dX11_letHoursPass_4 rfl ?_
    refine r_bipush (pc := 5) X 60 dX11_letHoursPass_5 (by decide) ?_
    refine r_icmp_le (pc := 7) X 12 dX11_letHoursPass_7 (by decide) (fun c16 => ?_) (fun c16 => ?_)
    · rw [if_pos c16] at hf
      refine r_aload_n (pc := 12) X dX11_letHoursPass_12 rfl ?_
      obtain ⟨a1, ea1, hf⟩ := ob hf
      refine r_getR (pc := 13) X dX11_letHoursPass_13 fl_X11_19 rfl ea1 ?_
      obtain ⟨u2, eu2, hf⟩ := ob hf
      obtain ⟨h3, eh3, hf⟩ := ob hf
      refine r_callVV (pc := 16) X [] dX11_letHoursPass_16 ml_X11_282 vo_X0_begin ⟨Nat.le_refl _, Nat.le_refl _⟩ eu2 (ev_X0_begin (d := d - 1) (by omega) _ _ _ eh3) hd1 rfl (Nat.le_of_ble_eq_true rfl) rfl ?_
      refine r_iconst (pc := 19) X 0 dX11_letHoursPass_19 (by decide) ?_
      refine r_istore_n (pc := 20) X [some (.ref p0), some (.int p1), some (.int 0)] dX11_letHoursPass_20 (by decide) rfl ?_
      obtain ⟨o11, eo11, hf⟩ := ob hf
      refine (lw_X11_letHoursPass_21 X hd _ _ lpN _ o11 eo11 ?_)
      intro j12
      refine r_aload_n (pc := 47) X dX11_letHoursPass_47 rfl ?_
      refine r_aload_n (pc := 48) X dX11_letHoursPass_48 rfl ?_
      obtain ⟨a13, ea13, hf⟩ := ob hf
      refine r_getR (pc := 49) X dX11_letHoursPass_49 fl_X11_61 rfl ea13 ?_
      obtain ⟨u14, eu14, hf⟩ := ob hf
      obtain ⟨x15, ex15, hf⟩ := ob hf
      refine r_callVI (pc := 52) X [.ref a13] dX11_letHoursPass_52 ml_X11_226 vo_X11_together ⟨Nat.le_refl _, Nat.le_refl _⟩ eu14 (ev_X11_together (d := d - 1) (by omega) _ _ _ _ ex15) hd1 rfl (Nat.le_of_ble_eq_true rfl) rfl ?_
      obtain rfl := Option.some.inj hf
      exact r_iret (pc := 55) X dX11_letHoursPass_55 hk
    · rw [if_neg c16] at hf
      refine r_iconst (pc := 10) X (-1) dX11_letHoursPass_10 (by decide) ?_
      obtain rfl := Option.some.inj hf
      exact r_iret (pc := 11) X dX11_letHoursPass_11 hk

theorem dX11_pour_0 : decode cX11_pour 0 = .ok (.aload_n 0, 1) := by decide +kernel
theorem dX11_pour_1 : decode cX11_pour 1 = .ok (.getfield 19, 3) := by decide +kernel
theorem dX11_pour_4 : decode cX11_pour 4 = .ok (.iload_n 1, 1) := by decide +kernel
theorem dX11_pour_5 : decode cX11_pour 5 = .ok (.invokevirtual 172, 3) := by decide +kernel
theorem dX11_pour_8 : decode cX11_pour 8 = .ok (.ifCond .eq 14, 3) := by decide +kernel
theorem dX11_pour_11 : decode cX11_pour 11 = .ok (.iload_n 2, 1) := by decide +kernel
theorem dX11_pour_12 : decode cX11_pour 12 = .ok (.iconst 1, 1) := by decide +kernel
theorem dX11_pour_13 : decode cX11_pour 13 = .ok (.if_icmp .lt 9, 3) := by decide +kernel
theorem dX11_pour_16 : decode cX11_pour 16 = .ok (.iload_n 2, 1) := by decide +kernel
theorem dX11_pour_17 : decode cX11_pour 17 = .ok (.bipush 9, 2) := by decide +kernel
theorem dX11_pour_19 : decode cX11_pour 19 = .ok (.if_icmp .le 5, 3) := by decide +kernel
theorem dX11_pour_22 : decode cX11_pour 22 = .ok (.iconst (-1), 1) := by decide +kernel
theorem dX11_pour_23 : decode cX11_pour 23 = .ok (.ireturn, 1) := by decide +kernel
theorem dX11_pour_24 : decode cX11_pour 24 = .ok (.aload_n 0, 1) := by decide +kernel
theorem dX11_pour_25 : decode cX11_pour 25 = .ok (.getfield 19, 3) := by decide +kernel
theorem dX11_pour_28 : decode cX11_pour 28 = .ok (.aload_n 0, 1) := by decide +kernel
theorem dX11_pour_29 : decode cX11_pour 29 = .ok (.getfield 61, 3) := by decide +kernel
theorem dX11_pour_32 : decode cX11_pour 32 = .ok (.iload_n 1, 1) := by decide +kernel
theorem dX11_pour_33 : decode cX11_pour 33 = .ok (.iload_n 2, 1) := by decide +kernel
theorem dX11_pour_34 : decode cX11_pour 34 = .ok (.invokevirtual 287, 3) := by decide +kernel
theorem dX11_pour_37 : decode cX11_pour 37 = .ok (.ifCond .eq 15, 3) := by decide +kernel
theorem dX11_pour_40 : decode cX11_pour 40 = .ok (.aload_n 0, 1) := by decide +kernel
theorem dX11_pour_41 : decode cX11_pour 41 = .ok (.getfield 61, 3) := by decide +kernel
theorem dX11_pour_44 : decode cX11_pour 44 = .ok (.getfield 154, 3) := by decide +kernel
theorem dX11_pour_47 : decode cX11_pour 47 = .ok (.iload_n 1, 1) := by decide +kernel
theorem dX11_pour_48 : decode cX11_pour 48 = .ok (.iaload, 1) := by decide +kernel
theorem dX11_pour_49 : decode cX11_pour 49 = .ok (.goto 5, 3) := by decide +kernel
theorem dX11_pour_52 : decode cX11_pour 52 = .ok (.bipush (-2), 2) := by decide +kernel
theorem dX11_pour_54 : decode cX11_pour 54 = .ok (.ireturn, 1) := by decide +kernel
def fn_X11_pour (h : aH) (p0 : Nat) (p1 : Int32) (p2 : Int32) : Option (Int32 × aH) :=
  (gR h p0 10 1).bind fun a1 =>
  (ck h a1 0).bind fun u2 =>
  (fn_X0_hasBasin h a1 p1).bind fun x3 =>
  if x3 = 0 then
    some ((-1), h)
  else
    if p2 < 1 then
      some ((-1), h)
    else
      if p2 ≤ 9 then
        (gR h p0 10 1).bind fun a4 =>
        (gR h p0 10 7).bind fun a5 =>
        (ck h a4 0).bind fun u6 =>
        (fn_X0_fill h a4 a5 p1 p2).bind fun o7 =>
        if o7.1 = 0 then
          some ((-2), o7.2)
        else
          (gR o7.2 p0 10 7).bind fun a8 =>
          (gR o7.2 a8 6 0).bind fun a9 =>
          (aI o7.2 a9 14 p1).bind fun x10 =>
          some (x10, o7.2)
      else
        some ((-1), h)
set_option maxRecDepth 20000 in
set_option maxHeartbeats 4000000 in
theorem ev_X11_pour {l : Launch} {g : aG} {d : Nat} (hd : 1 ≤ d) (h : aH) (p0 : Nat) (p1 : Int32) (p2 : Int32) (o : Int32 × aH) (hf : fn_X11_pour h p0 p1 p2 = some o) : EvM l g d yX11_pour cX11_pour 3 (some .int) [.ref p0, .int p1, .int p2] h (some (.int o.1), o.2) := by
  refine EvM.of mk_X11_pour (Nat.le_of_ble_eq_true rfl) ?_
  intro Γ hl hg hq X
  have hd1 : 1 ≤ d := by omega
  have hk : RqI Γ o := hq
  unfold fn_X11_pour at hf
  show Jd Γ (0, 0) 0 [some (.ref p0), some (.int p1), some (.int p2)] [] h
  refine r_aload_n (pc := 0) X dX11_pour_0 rfl ?_
  obtain ⟨a1, ea1, hf⟩ := ob hf
  refine r_getR (pc := 1) X dX11_pour_1 fl_X11_19 rfl ea1 ?_
  refine r_iload_n (pc := 4) X dX11_pour_4 rfl ?_
  obtain ⟨u2, eu2, hf⟩ := ob hf
  obtain ⟨x3, ex3, hf⟩ := ob hf
  refine r_callVI (pc := 5) X [.int p1] dX11_pour_5 ml_X11_172 vo_X0_hasBasin ⟨Nat.le_refl _, Nat.le_refl _⟩ eu2 (ev_X0_hasBasin (d := d - 1) (by omega) _ _ _ _ ex3) hd1 rfl (Nat.le_of_ble_eq_true rfl) rfl ?_
  refine r_if_eq (pc := 8) X 22 dX11_pour_8 (by decide) (fun c14 => ?_) (fun c14 => ?_)
  · rw [if_pos c14] at hf
    refine r_iconst (pc := 22) X (-1) dX11_pour_22 (by decide) ?_
    obtain rfl := Option.some.inj hf
    exact r_iret (pc := 23) X dX11_pour_23 hk
  · rw [if_neg c14] at hf
    refine r_iload_n (pc := 11) X dX11_pour_11 rfl ?_
    refine r_iconst (pc := 12) X 1 dX11_pour_12 (by decide) ?_
    refine r_icmp_lt (pc := 13) X 22 dX11_pour_13 (by decide) (fun c13 => ?_) (fun c13 => ?_)
    · rw [if_pos c13] at hf
      refine r_iconst (pc := 22) X (-1) dX11_pour_22 (by decide) ?_
      obtain rfl := Option.some.inj hf
      exact r_iret (pc := 23) X dX11_pour_23 hk
    · rw [if_neg c13] at hf
      refine r_iload_n (pc := 16) X dX11_pour_16 rfl ?_
      refine r_bipush (pc := 17) X 9 dX11_pour_17 (by decide) ?_
      refine r_icmp_le (pc := 19) X 24 dX11_pour_19 (by decide) (fun c12 => ?_) (fun c12 => ?_)
      · rw [if_pos c12] at hf
        refine r_aload_n (pc := 24) X dX11_pour_24 rfl ?_
        obtain ⟨a4, ea4, hf⟩ := ob hf
        refine r_getR (pc := 25) X dX11_pour_25 fl_X11_19 rfl ea4 ?_
        refine r_aload_n (pc := 28) X dX11_pour_28 rfl ?_
        obtain ⟨a5, ea5, hf⟩ := ob hf
        refine r_getR (pc := 29) X dX11_pour_29 fl_X11_61 rfl ea5 ?_
        refine r_iload_n (pc := 32) X dX11_pour_32 rfl ?_
        refine r_iload_n (pc := 33) X dX11_pour_33 rfl ?_
        obtain ⟨u6, eu6, hf⟩ := ob hf
        obtain ⟨o7, eo7, hf⟩ := ob hf
        refine r_callVI (pc := 34) X [.ref a5, .int p1, .int p2] dX11_pour_34 ml_X11_287 vo_X0_fill ⟨Nat.le_refl _, Nat.le_refl _⟩ eu6 (ev_X0_fill (d := d - 1) (by omega) _ _ _ _ _ _ eo7) hd1 rfl (Nat.le_of_ble_eq_true rfl) rfl ?_
        refine r_if_eq (pc := 37) X 52 dX11_pour_37 (by decide) (fun c11 => ?_) (fun c11 => ?_)
        · rw [if_pos c11] at hf
          refine r_bipush (pc := 52) X (-2) dX11_pour_52 (by decide) ?_
          obtain rfl := Option.some.inj hf
          exact r_iret (pc := 54) X dX11_pour_54 hk
        · rw [if_neg c11] at hf
          refine r_aload_n (pc := 40) X dX11_pour_40 rfl ?_
          obtain ⟨a8, ea8, hf⟩ := ob hf
          refine r_getR (pc := 41) X dX11_pour_41 fl_X11_61 rfl ea8 ?_
          obtain ⟨a9, ea9, hf⟩ := ob hf
          refine r_getR (pc := 44) X dX11_pour_44 fl_X11_154 rfl ea9 ?_
          refine r_iload_n (pc := 47) X dX11_pour_47 rfl ?_
          obtain ⟨x10, ex10, hf⟩ := ob hf
          refine r_iald (pc := 48) X dX11_pour_48 ex10 ?_
          refine r_goto (pc := 49) X 54 dX11_pour_49 (by decide) ?_
          obtain rfl := Option.some.inj hf
          exact r_iret (pc := 54) X dX11_pour_54 hk
      · rw [if_neg c12] at hf
        refine r_iconst (pc := 22) X (-1) dX11_pour_22 (by decide) ?_
        obtain rfl := Option.some.inj hf
        exact r_iret (pc := 23) X dX11_pour_23 hk

theorem dX11_letOut_0 : decode cX11_letOut 0 = .ok (.aload_n 0, 1) := by decide +kernel
theorem dX11_letOut_1 : decode cX11_letOut 1 = .ok (.getfield 19, 3) := by decide +kernel
theorem dX11_letOut_4 : decode cX11_letOut 4 = .ok (.iload_n 1, 1) := by decide +kernel
theorem dX11_letOut_5 : decode cX11_letOut 5 = .ok (.invokevirtual 172, 3) := by decide +kernel
theorem dX11_letOut_8 : decode cX11_letOut 8 = .ok (.ifCond .eq 14, 3) := by decide +kernel
theorem dX11_letOut_11 : decode cX11_letOut 11 = .ok (.iload_n 2, 1) := by decide +kernel
theorem dX11_letOut_12 : decode cX11_letOut 12 = .ok (.iconst 1, 1) := by decide +kernel
theorem dX11_letOut_13 : decode cX11_letOut 13 = .ok (.if_icmp .lt 9, 3) := by decide +kernel
theorem dX11_letOut_16 : decode cX11_letOut 16 = .ok (.iload_n 2, 1) := by decide +kernel
theorem dX11_letOut_17 : decode cX11_letOut 17 = .ok (.bipush 9, 2) := by decide +kernel
theorem dX11_letOut_19 : decode cX11_letOut 19 = .ok (.if_icmp .le 5, 3) := by decide +kernel
theorem dX11_letOut_22 : decode cX11_letOut 22 = .ok (.iconst (-1), 1) := by decide +kernel
theorem dX11_letOut_23 : decode cX11_letOut 23 = .ok (.ireturn, 1) := by decide +kernel
theorem dX11_letOut_24 : decode cX11_letOut 24 = .ok (.aload_n 0, 1) := by decide +kernel
theorem dX11_letOut_25 : decode cX11_letOut 25 = .ok (.getfield 61, 3) := by decide +kernel
theorem dX11_letOut_28 : decode cX11_letOut 28 = .ok (.getfield 154, 3) := by decide +kernel
theorem dX11_letOut_31 : decode cX11_letOut 31 = .ok (.iload_n 1, 1) := by decide +kernel
theorem dX11_letOut_32 : decode cX11_letOut 32 = .ok (.iaload, 1) := by decide +kernel
theorem dX11_letOut_33 : decode cX11_letOut 33 = .ok (.iload_n 2, 1) := by decide +kernel
theorem dX11_letOut_34 : decode cX11_letOut 34 = .ok (.if_icmp .ge 6, 3) := by decide +kernel
theorem dX11_letOut_37 : decode cX11_letOut 37 = .ok (.bipush (-2), 2) := by decide +kernel
theorem dX11_letOut_39 : decode cX11_letOut 39 = .ok (.ireturn, 1) := by decide +kernel
theorem dX11_letOut_40 : decode cX11_letOut 40 = .ok (.aload_n 0, 1) := by decide +kernel
theorem dX11_letOut_41 : decode cX11_letOut 41 = .ok (.getfield 61, 3) := by decide +kernel
theorem dX11_letOut_44 : decode cX11_letOut 44 = .ok (.getfield 154, 3) := by decide +kernel
theorem dX11_letOut_47 : decode cX11_letOut 47 = .ok (.iload_n 1, 1) := by decide +kernel
theorem dX11_letOut_48 : decode cX11_letOut 48 = .ok (.dup2, 1) := by decide +kernel
theorem dX11_letOut_49 : decode cX11_letOut 49 = .ok (.iaload, 1) := by decide +kernel
theorem dX11_letOut_50 : decode cX11_letOut 50 = .ok (.iload_n 2, 1) := by decide +kernel
theorem dX11_letOut_51 : decode cX11_letOut 51 = .ok (.isub, 1) := by decide +kernel
theorem dX11_letOut_52 : decode cX11_letOut 52 = .ok (.iastore, 1) := by decide +kernel
theorem dX11_letOut_53 : decode cX11_letOut 53 = .ok (.aload_n 0, 1) := by decide +kernel
theorem dX11_letOut_54 : decode cX11_letOut 54 = .ok (.getfield 61, 3) := by decide +kernel
theorem dX11_letOut_57 : decode cX11_letOut 57 = .ok (.getfield 154, 3) := by decide +kernel
theorem dX11_letOut_60 : decode cX11_letOut 60 = .ok (.iload_n 1, 1) := by decide +kernel
theorem dX11_letOut_61 : decode cX11_letOut 61 = .ok (.iaload, 1) := by decide +kernel
theorem dX11_letOut_62 : decode cX11_letOut 62 = .ok (.ireturn, 1) := by decide +kernel
def fn_X11_letOut (h : aH) (p0 : Nat) (p1 : Int32) (p2 : Int32) : Option (Int32 × aH) :=
  (gR h p0 10 1).bind fun a1 =>
  (ck h a1 0).bind fun u2 =>
  (fn_X0_hasBasin h a1 p1).bind fun x3 =>
  if x3 = 0 then
    some ((-1), h)
  else
    if p2 < 1 then
      some ((-1), h)
    else
      if p2 ≤ 9 then
        (gR h p0 10 7).bind fun a4 =>
        (gR h a4 6 0).bind fun a5 =>
        (aI h a5 14 p1).bind fun x6 =>
        if x6 < p2 then
          some ((-2), h)
        else
          (gR h p0 10 7).bind fun a7 =>
          (gR h a7 6 0).bind fun a8 =>
          (aI h a8 14 p1).bind fun x9 =>
          (wI h a8 p1 (x9 - p2)).bind fun h10 =>
          (gR h10 p0 10 7).bind fun a11 =>
          (gR h10 a11 6 0).bind fun a12 =>
          (aI h10 a12 14 p1).bind fun x13 =>
          some (x13, h10)
      else
        some ((-1), h)
set_option maxRecDepth 20000 in
set_option maxHeartbeats 4000000 in
theorem ev_X11_letOut {l : Launch} {g : aG} {d : Nat} (hd : 1 ≤ d) (h : aH) (p0 : Nat) (p1 : Int32) (p2 : Int32) (o : Int32 × aH) (hf : fn_X11_letOut h p0 p1 p2 = some o) : EvM l g d yX11_letOut cX11_letOut 3 (some .int) [.ref p0, .int p1, .int p2] h (some (.int o.1), o.2) := by
  refine EvM.of mk_X11_letOut (Nat.le_of_ble_eq_true rfl) ?_
  intro Γ hl hg hq X
  have hd1 : 1 ≤ d := by omega
  have hk : RqI Γ o := hq
  unfold fn_X11_letOut at hf
  show Jd Γ (0, 0) 0 [some (.ref p0), some (.int p1), some (.int p2)] [] h
  refine r_aload_n (pc := 0) X dX11_letOut_0 rfl ?_
  obtain ⟨a1, ea1, hf⟩ := ob hf
  refine r_getR (pc := 1) X dX11_letOut_1 fl_X11_19 rfl ea1 ?_
  refine r_iload_n (pc := 4) X dX11_letOut_4 rfl ?_
  obtain ⟨u2, eu2, hf⟩ := ob hf
  obtain ⟨x3, ex3, hf⟩ := ob hf
  refine r_callVI (pc := 5) X [.int p1] dX11_letOut_5 ml_X11_172 vo_X0_hasBasin ⟨Nat.le_refl _, Nat.le_refl _⟩ eu2 (ev_X0_hasBasin (d := d - 1) (by omega) _ _ _ _ ex3) hd1 rfl (Nat.le_of_ble_eq_true rfl) rfl ?_
  refine r_if_eq (pc := 8) X 22 dX11_letOut_8 (by decide) (fun c17 => ?_) (fun c17 => ?_)
  · rw [if_pos c17] at hf
    refine r_iconst (pc := 22) X (-1) dX11_letOut_22 (by decide) ?_
    obtain rfl := Option.some.inj hf
    exact r_iret (pc := 23) X dX11_letOut_23 hk
  · rw [if_neg c17] at hf
    refine r_iload_n (pc := 11) X dX11_letOut_11 rfl ?_
    refine r_iconst (pc := 12) X 1 dX11_letOut_12 (by decide) ?_
    refine r_icmp_lt (pc := 13) X 22 dX11_letOut_13 (by decide) (fun c16 => ?_) (fun c16 => ?_)
    · rw [if_pos c16] at hf
      refine r_iconst (pc := 22) X (-1) dX11_letOut_22 (by decide) ?_
      obtain rfl := Option.some.inj hf
      exact r_iret (pc := 23) X dX11_letOut_23 hk
    · rw [if_neg c16] at hf
      refine r_iload_n (pc := 16) X dX11_letOut_16 rfl ?_
      refine r_bipush (pc := 17) X 9 dX11_letOut_17 (by decide) ?_
      refine r_icmp_le (pc := 19) X 24 dX11_letOut_19 (by decide) (fun c15 => ?_) (fun c15 => ?_)
      · rw [if_pos c15] at hf
        refine r_aload_n (pc := 24) X dX11_letOut_24 rfl ?_
        obtain ⟨a4, ea4, hf⟩ := ob hf
        refine r_getR (pc := 25) X dX11_letOut_25 fl_X11_61 rfl ea4 ?_
        obtain ⟨a5, ea5, hf⟩ := ob hf
        refine r_getR (pc := 28) X dX11_letOut_28 fl_X11_154 rfl ea5 ?_
        refine r_iload_n (pc := 31) X dX11_letOut_31 rfl ?_
        obtain ⟨x6, ex6, hf⟩ := ob hf
        refine r_iald (pc := 32) X dX11_letOut_32 ex6 ?_
        refine r_iload_n (pc := 33) X dX11_letOut_33 rfl ?_
        refine r_icmp_ge (pc := 34) X 40 dX11_letOut_34 (by decide) (fun c14 => ?_) (fun c14 => ?_)
        · rw [if_neg c14] at hf
          refine r_aload_n (pc := 40) X dX11_letOut_40 rfl ?_
          obtain ⟨a7, ea7, hf⟩ := ob hf
          refine r_getR (pc := 41) X dX11_letOut_41 fl_X11_61 rfl ea7 ?_
          obtain ⟨a8, ea8, hf⟩ := ob hf
          refine r_getR (pc := 44) X dX11_letOut_44 fl_X11_154 rfl ea8 ?_
          refine r_iload_n (pc := 47) X dX11_letOut_47 rfl ?_
          refine r_dup2 (pc := 48) X dX11_letOut_48 rfl rfl ?_
          obtain ⟨x9, ex9, hf⟩ := ob hf
          refine r_iald (pc := 49) X dX11_letOut_49 ex9 ?_
          refine r_iload_n (pc := 50) X dX11_letOut_50 rfl ?_
          refine r_isub (pc := 51) X dX11_letOut_51 ?_
          obtain ⟨h10, eh10, hf⟩ := ob hf
          refine r_iast (pc := 52) X dX11_letOut_52 eh10 ?_
          refine r_aload_n (pc := 53) X dX11_letOut_53 rfl ?_
          obtain ⟨a11, ea11, hf⟩ := ob hf
          refine r_getR (pc := 54) X dX11_letOut_54 fl_X11_61 rfl ea11 ?_
          obtain ⟨a12, ea12, hf⟩ := ob hf
          refine r_getR (pc := 57) X dX11_letOut_57 fl_X11_154 rfl ea12 ?_
          refine r_iload_n (pc := 60) X dX11_letOut_60 rfl ?_
          obtain ⟨x13, ex13, hf⟩ := ob hf
          refine r_iald (pc := 61) X dX11_letOut_61 ex13 ?_
          obtain rfl := Option.some.inj hf
          exact r_iret (pc := 62) X dX11_letOut_62 hk
        · rw [if_pos c14] at hf
          refine r_bipush (pc := 37) X (-2) dX11_letOut_37 (by decide) ?_
          obtain rfl := Option.some.inj hf
          exact r_iret (pc := 39) X dX11_letOut_39 hk
      · rw [if_neg c15] at hf
        refine r_iconst (pc := 22) X (-1) dX11_letOut_22 (by decide) ?_
        obtain rfl := Option.some.inj hf
        exact r_iret (pc := 23) X dX11_letOut_23 hk

theorem dX11_sendBoat_0 : decode cX11_sendBoat 0 = .ok (.aload_n 0, 1) := by decide +kernel
theorem dX11_sendBoat_1 : decode cX11_sendBoat 1 = .ok (.getfield 19, 3) := by decide +kernel
theorem dX11_sendBoat_4 : decode cX11_sendBoat 4 = .ok (.iload_n 1, 1) := by decide +kernel
theorem dX11_sendBoat_5 : decode cX11_sendBoat 5 = .ok (.invokevirtual 199, 3) := by decide +kernel
theorem dX11_sendBoat_8 : decode cX11_sendBoat 8 = .ok (.ifCond .ne 5, 3) := by decide +kernel
theorem dX11_sendBoat_11 : decode cX11_sendBoat 11 = .ok (.iconst (-1), 1) := by decide +kernel
theorem dX11_sendBoat_12 : decode cX11_sendBoat 12 = .ok (.ireturn, 1) := by decide +kernel
theorem dX11_sendBoat_13 : decode cX11_sendBoat 13 = .ok (.aload_n 0, 1) := by decide +kernel
theorem dX11_sendBoat_14 : decode cX11_sendBoat 14 = .ok (.getfield 19, 3) := by decide +kernel
theorem dX11_sendBoat_17 : decode cX11_sendBoat 17 = .ok (.aload_n 0, 1) := by decide +kernel
theorem dX11_sendBoat_18 : decode cX11_sendBoat 18 = .ok (.getfield 61, 3) := by decide +kernel
theorem dX11_sendBoat_21 : decode cX11_sendBoat 21 = .ok (.iload_n 1, 1) := by decide +kernel
theorem dX11_sendBoat_22 : decode cX11_sendBoat 22 = .ok (.invokevirtual 291, 3) := by decide +kernel
theorem dX11_sendBoat_25 : decode cX11_sendBoat 25 = .ok (.ifCond .eq 23, 3) := by decide +kernel
theorem dX11_sendBoat_28 : decode cX11_sendBoat 28 = .ok (.aload_n 0, 1) := by decide +kernel
theorem dX11_sendBoat_29 : decode cX11_sendBoat 29 = .ok (.getfield 61, 3) := by decide +kernel
theorem dX11_sendBoat_32 : decode cX11_sendBoat 32 = .ok (.getfield 154, 3) := by decide +kernel
theorem dX11_sendBoat_35 : decode cX11_sendBoat 35 = .ok (.aload_n 0, 1) := by decide +kernel
theorem dX11_sendBoat_36 : decode cX11_sendBoat 36 = .ok (.getfield 19, 3) := by decide +kernel
theorem dX11_sendBoat_39 : decode cX11_sendBoat 39 = .ok (.getfield 207, 3) := by decide +kernel
theorem dX11_sendBoat_42 : decode cX11_sendBoat 42 = .ok (.iload_n 1, 1) := by decide +kernel
theorem dX11_sendBoat_43 : decode cX11_sendBoat 43 = .ok (.iaload, 1) := by decide +kernel
theorem dX11_sendBoat_44 : decode cX11_sendBoat 44 = .ok (.iaload, 1) := by decide +kernel
theorem dX11_sendBoat_45 : decode cX11_sendBoat 45 = .ok (.goto 5, 3) := by decide +kernel
theorem dX11_sendBoat_48 : decode cX11_sendBoat 48 = .ok (.bipush (-2), 2) := by decide +kernel
theorem dX11_sendBoat_50 : decode cX11_sendBoat 50 = .ok (.ireturn, 1) := by decide +kernel
def fn_X11_sendBoat (h : aH) (p0 : Nat) (p1 : Int32) : Option (Int32 × aH) :=
  (gR h p0 10 1).bind fun a1 =>
  (ck h a1 0).bind fun u2 =>
  (fn_X0_hasSluice h a1 p1).bind fun x3 =>
  if x3 = 0 then
    some ((-1), h)
  else
    (gR h p0 10 1).bind fun a4 =>
    (gR h p0 10 7).bind fun a5 =>
    (ck h a4 0).bind fun u6 =>
    (fn_X0_carry h a4 a5 p1).bind fun o7 =>
    if o7.1 = 0 then
      some ((-2), o7.2)
    else
      (gR o7.2 p0 10 7).bind fun a8 =>
      (gR o7.2 a8 6 0).bind fun a9 =>
      (gR o7.2 p0 10 1).bind fun a10 =>
      (gR o7.2 a10 0 4).bind fun a11 =>
      (aI o7.2 a11 14 p1).bind fun x12 =>
      (aI o7.2 a9 14 x12).bind fun x13 =>
      some (x13, o7.2)
set_option maxRecDepth 20000 in
set_option maxHeartbeats 4000000 in
theorem ev_X11_sendBoat {l : Launch} {g : aG} {d : Nat} (hd : 1 ≤ d) (h : aH) (p0 : Nat) (p1 : Int32) (o : Int32 × aH) (hf : fn_X11_sendBoat h p0 p1 = some o) : EvM l g d yX11_sendBoat cX11_sendBoat 2 (some .int) [.ref p0, .int p1] h (some (.int o.1), o.2) := by
  refine EvM.of mk_X11_sendBoat (Nat.le_of_ble_eq_true rfl) ?_
  intro Γ hl hg hq X
  have hd1 : 1 ≤ d := by omega
  have hk : RqI Γ o := hq
  unfold fn_X11_sendBoat at hf
  show Jd Γ (0, 0) 0 [some (.ref p0), some (.int p1)] [] h
  refine r_aload_n (pc := 0) X dX11_sendBoat_0 rfl ?_
  obtain ⟨a1, ea1, hf⟩ := ob hf
  refine r_getR (pc := 1) X dX11_sendBoat_1 fl_X11_19 rfl ea1 ?_
  refine r_iload_n (pc := 4) X dX11_sendBoat_4 rfl ?_
  obtain ⟨u2, eu2, hf⟩ := ob hf
  obtain ⟨x3, ex3, hf⟩ := ob hf
  refine r_callVI (pc := 5) X [.int p1] dX11_sendBoat_5 ml_X11_199 vo_X0_hasSluice ⟨Nat.le_refl _, Nat.le_refl _⟩ eu2 (ev_X0_hasSluice (d := d - 1) (by omega) _ _ _ _ ex3) hd1 rfl (Nat.le_of_ble_eq_true rfl) rfl ?_
  refine r_if_ne (pc := 8) X 13 dX11_sendBoat_8 (by decide) (fun c15 => ?_) (fun c15 => ?_)
  · rw [if_neg c15] at hf
    refine r_aload_n (pc := 13) X dX11_sendBoat_13 rfl ?_
    obtain ⟨a4, ea4, hf⟩ := ob hf
    refine r_getR (pc := 14) X dX11_sendBoat_14 fl_X11_19 rfl ea4 ?_
    refine r_aload_n (pc := 17) X dX11_sendBoat_17 rfl ?_
    obtain ⟨a5, ea5, hf⟩ := ob hf
    refine r_getR (pc := 18) X dX11_sendBoat_18 fl_X11_61 rfl ea5 ?_
    refine r_iload_n (pc := 21) X dX11_sendBoat_21 rfl ?_
    obtain ⟨u6, eu6, hf⟩ := ob hf
    obtain ⟨o7, eo7, hf⟩ := ob hf
    refine r_callVI (pc := 22) X [.ref a5, .int p1] dX11_sendBoat_22 ml_X11_291 vo_X0_carry ⟨Nat.le_refl _, Nat.le_refl _⟩ eu6 (ev_X0_carry (d := d - 1) (by omega) _ _ _ _ _ eo7) hd1 rfl (Nat.le_of_ble_eq_true rfl) rfl ?_
    refine r_if_eq (pc := 25) X 48 dX11_sendBoat_25 (by decide) (fun c14 => ?_) (fun c14 => ?_)
    · rw [if_pos c14] at hf
      refine r_bipush (pc := 48) X (-2) dX11_sendBoat_48 (by decide) ?_
      obtain rfl := Option.some.inj hf
      exact r_iret (pc := 50) X dX11_sendBoat_50 hk
    · rw [if_neg c14] at hf
      refine r_aload_n (pc := 28) X dX11_sendBoat_28 rfl ?_
      obtain ⟨a8, ea8, hf⟩ := ob hf
      refine r_getR (pc := 29) X dX11_sendBoat_29 fl_X11_61 rfl ea8 ?_
      obtain ⟨a9, ea9, hf⟩ := ob hf
      refine r_getR (pc := 32) X dX11_sendBoat_32 fl_X11_154 rfl ea9 ?_
      refine r_aload_n (pc := 35) X dX11_sendBoat_35 rfl ?_
      obtain ⟨a10, ea10, hf⟩ := ob hf
      refine r_getR (pc := 36) X dX11_sendBoat_36 fl_X11_19 rfl ea10 ?_
      obtain ⟨a11, ea11, hf⟩ := ob hf
      refine r_getR (pc := 39) X dX11_sendBoat_39 fl_X11_207 rfl ea11 ?_
      refine r_iload_n (pc := 42) X dX11_sendBoat_42 rfl ?_
      obtain ⟨x12, ex12, hf⟩ := ob hf
      refine r_iald (pc := 43) X dX11_sendBoat_43 ex12 ?_
      obtain ⟨x13, ex13, hf⟩ := ob hf
      refine r_iald (pc := 44) X dX11_sendBoat_44 ex13 ?_
      refine r_goto (pc := 45) X 50 dX11_sendBoat_45 (by decide) ?_
      obtain rfl := Option.some.inj hf
      exact r_iret (pc := 50) X dX11_sendBoat_50 hk
  · rw [if_pos c15] at hf
    refine r_iconst (pc := 11) X (-1) dX11_sendBoat_11 (by decide) ?_
    obtain rfl := Option.some.inj hf
    exact r_iret (pc := 12) X dX11_sendBoat_12 hk

theorem dX11_stick_0 : decode cX11_stick 0 = .ok (.aload_n 0, 1) := by decide +kernel
theorem dX11_stick_1 : decode cX11_stick 1 = .ok (.getfield 19, 3) := by decide +kernel
theorem dX11_stick_4 : decode cX11_stick 4 = .ok (.iload_n 1, 1) := by decide +kernel
theorem dX11_stick_5 : decode cX11_stick 5 = .ok (.invokevirtual 199, 3) := by decide +kernel
theorem dX11_stick_8 : decode cX11_stick 8 = .ok (.ifCond .ne 5, 3) := by decide +kernel
theorem dX11_stick_11 : decode cX11_stick 11 = .ok (.iconst (-1), 1) := by decide +kernel
theorem dX11_stick_12 : decode cX11_stick 12 = .ok (.ireturn, 1) := by decide +kernel
theorem dX11_stick_13 : decode cX11_stick 13 = .ok (.aload_n 0, 1) := by decide +kernel
theorem dX11_stick_14 : decode cX11_stick 14 = .ok (.getfield 61, 3) := by decide +kernel
theorem dX11_stick_17 : decode cX11_stick 17 = .ok (.dup, 1) := by decide +kernel
theorem dX11_stick_18 : decode cX11_stick 18 = .ok (.getfield 216, 3) := by decide +kernel
theorem dX11_stick_21 : decode cX11_stick 21 = .ok (.iconst 1, 1) := by decide +kernel
theorem dX11_stick_22 : decode cX11_stick 22 = .ok (.iload_n 1, 1) := by decide +kernel
theorem dX11_stick_23 : decode cX11_stick 23 = .ok (.ishl, 1) := by decide +kernel
theorem dX11_stick_24 : decode cX11_stick 24 = .ok (.ixor, 1) := by decide +kernel
theorem dX11_stick_25 : decode cX11_stick 25 = .ok (.putfield 216, 3) := by decide +kernel
theorem dX11_stick_28 : decode cX11_stick 28 = .ok (.aload_n 0, 1) := by decide +kernel
theorem dX11_stick_29 : decode cX11_stick 29 = .ok (.getfield 61, 3) := by decide +kernel
theorem dX11_stick_32 : decode cX11_stick 32 = .ok (.getfield 216, 3) := by decide +kernel
theorem dX11_stick_35 : decode cX11_stick 35 = .ok (.ireturn, 1) := by decide +kernel
def fn_X11_stick (h : aH) (p0 : Nat) (p1 : Int32) : Option (Int32 × aH) :=
  (gR h p0 10 1).bind fun a1 =>
  (ck h a1 0).bind fun u2 =>
  (fn_X0_hasSluice h a1 p1).bind fun x3 =>
  if x3 = 0 then
    some ((-1), h)
  else
    (gR h p0 10 7).bind fun a4 =>
    (gI h a4 6 3).bind fun x5 =>
    (pI h a4 6 3 (x5 ^^^ (1 <<< (p1 &&& 31)))).bind fun h6 =>
    (gR h6 p0 10 7).bind fun a7 =>
    (gI h6 a7 6 3).bind fun x8 =>
    some (x8, h6)
set_option maxRecDepth 20000 in
set_option maxHeartbeats 4000000 in
theorem ev_X11_stick {l : Launch} {g : aG} {d : Nat} (hd : 1 ≤ d) (h : aH) (p0 : Nat) (p1 : Int32) (o : Int32 × aH) (hf : fn_X11_stick h p0 p1 = some o) : EvM l g d yX11_stick cX11_stick 2 (some .int) [.ref p0, .int p1] h (some (.int o.1), o.2) := by
  refine EvM.of mk_X11_stick (Nat.le_of_ble_eq_true rfl) ?_
  intro Γ hl hg hq X
  have hd1 : 1 ≤ d := by omega
  have hk : RqI Γ o := hq
  unfold fn_X11_stick at hf
  show Jd Γ (0, 0) 0 [some (.ref p0), some (.int p1)] [] h
  refine r_aload_n (pc := 0) X dX11_stick_0 rfl ?_
  obtain ⟨a1, ea1, hf⟩ := ob hf
  refine r_getR (pc := 1) X dX11_stick_1 fl_X11_19 rfl ea1 ?_
  refine r_iload_n (pc := 4) X dX11_stick_4 rfl ?_
  obtain ⟨u2, eu2, hf⟩ := ob hf
  obtain ⟨x3, ex3, hf⟩ := ob hf
  refine r_callVI (pc := 5) X [.int p1] dX11_stick_5 ml_X11_199 vo_X0_hasSluice ⟨Nat.le_refl _, Nat.le_refl _⟩ eu2 (ev_X0_hasSluice (d := d - 1) (by omega) _ _ _ _ ex3) hd1 rfl (Nat.le_of_ble_eq_true rfl) rfl ?_
  refine r_if_ne (pc := 8) X 13 dX11_stick_8 (by decide) (fun c9 => ?_) (fun c9 => ?_)
  · rw [if_neg c9] at hf
    refine r_aload_n (pc := 13) X dX11_stick_13 rfl ?_
    obtain ⟨a4, ea4, hf⟩ := ob hf
    refine r_getR (pc := 14) X dX11_stick_14 fl_X11_61 rfl ea4 ?_
    refine r_dup (pc := 17) X dX11_stick_17 rfl ?_
    obtain ⟨x5, ex5, hf⟩ := ob hf
    refine r_getI (pc := 18) X dX11_stick_18 fl_X11_216 rfl ex5 ?_
    refine r_iconst (pc := 21) X 1 dX11_stick_21 (by decide) ?_
    refine r_iload_n (pc := 22) X dX11_stick_22 rfl ?_
    refine r_ishl (pc := 23) X dX11_stick_23 ?_
    refine r_ixor (pc := 24) X dX11_stick_24 ?_
    obtain ⟨h6, eh6, hf⟩ := ob hf
    refine r_putI (pc := 25) X dX11_stick_25 fp_X11_216 rfl eh6 ?_
    refine r_aload_n (pc := 28) X dX11_stick_28 rfl ?_
    obtain ⟨a7, ea7, hf⟩ := ob hf
    refine r_getR (pc := 29) X dX11_stick_29 fl_X11_61 rfl ea7 ?_
    obtain ⟨x8, ex8, hf⟩ := ob hf
    refine r_getI (pc := 32) X dX11_stick_32 fl_X11_216 rfl ex8 ?_
    obtain rfl := Option.some.inj hf
    exact r_iret (pc := 35) X dX11_stick_35 hk
  · rw [if_pos c9] at hf
    refine r_iconst (pc := 11) X (-1) dX11_stick_11 (by decide) ?_
    obtain rfl := Option.some.inj hf
    exact r_iret (pc := 12) X dX11_stick_12 hk

theorem dX11_setMark_0 : decode cX11_setMark 0 = .ok (.aload_n 0, 1) := by decide +kernel
theorem dX11_setMark_1 : decode cX11_setMark 1 = .ok (.getfield 19, 3) := by decide +kernel
theorem dX11_setMark_4 : decode cX11_setMark 4 = .ok (.iload_n 1, 1) := by decide +kernel
theorem dX11_setMark_5 : decode cX11_setMark 5 = .ok (.invokevirtual 172, 3) := by decide +kernel
theorem dX11_setMark_8 : decode cX11_setMark 8 = .ok (.ifCond .eq 13, 3) := by decide +kernel
theorem dX11_setMark_11 : decode cX11_setMark 11 = .ok (.iload_n 2, 1) := by decide +kernel
theorem dX11_setMark_12 : decode cX11_setMark 12 = .ok (.ifCond .lt 9, 3) := by decide +kernel
theorem dX11_setMark_15 : decode cX11_setMark 15 = .ok (.iload_n 2, 1) := by decide +kernel
theorem dX11_setMark_16 : decode cX11_setMark 16 = .ok (.bipush 9, 2) := by decide +kernel
theorem dX11_setMark_18 : decode cX11_setMark 18 = .ok (.if_icmp .le 5, 3) := by decide +kernel
theorem dX11_setMark_21 : decode cX11_setMark 21 = .ok (.iconst (-1), 1) := by decide +kernel
theorem dX11_setMark_22 : decode cX11_setMark 22 = .ok (.ireturn, 1) := by decide +kernel
theorem dX11_setMark_23 : decode cX11_setMark 23 = .ok (.aload_n 0, 1) := by decide +kernel
theorem dX11_setMark_24 : decode cX11_setMark 24 = .ok (.getfield 61, 3) := by decide +kernel
theorem dX11_setMark_27 : decode cX11_setMark 27 = .ok (.getfield 157, 3) := by decide +kernel
theorem dX11_setMark_30 : decode cX11_setMark 30 = .ok (.iload_n 1, 1) := by decide +kernel
theorem dX11_setMark_31 : decode cX11_setMark 31 = .ok (.iaload, 1) := by decide +kernel
theorem dX11_setMark_32 : decode cX11_setMark 32 = .ok (.istore_n 3, 1) := by decide +kernel
theorem dX11_setMark_33 : decode cX11_setMark 33 = .ok (.iload_n 3, 1) := by decide +kernel
theorem dX11_setMark_34 : decode cX11_setMark 34 = .ok (.iload_n 2, 1) := by decide +kernel
theorem dX11_setMark_35 : decode cX11_setMark 35 = .ok (.if_icmp .ne 6, 3) := by decide +kernel
theorem dX11_setMark_38 : decode cX11_setMark 38 = .ok (.bipush (-2), 2) := by decide +kernel
theorem dX11_setMark_40 : decode cX11_setMark 40 = .ok (.ireturn, 1) := by decide +kernel
theorem dX11_setMark_41 : decode cX11_setMark 41 = .ok (.aload_n 0, 1) := by decide +kernel
theorem dX11_setMark_42 : decode cX11_setMark 42 = .ok (.getfield 61, 3) := by decide +kernel
theorem dX11_setMark_45 : decode cX11_setMark 45 = .ok (.getfield 157, 3) := by decide +kernel
theorem dX11_setMark_48 : decode cX11_setMark 48 = .ok (.iload_n 1, 1) := by decide +kernel
theorem dX11_setMark_49 : decode cX11_setMark 49 = .ok (.iload_n 2, 1) := by decide +kernel
theorem dX11_setMark_50 : decode cX11_setMark 50 = .ok (.iastore, 1) := by decide +kernel
theorem dX11_setMark_51 : decode cX11_setMark 51 = .ok (.bipush 10, 2) := by decide +kernel
theorem dX11_setMark_53 : decode cX11_setMark 53 = .ok (.iload_n 3, 1) := by decide +kernel
theorem dX11_setMark_54 : decode cX11_setMark 54 = .ok (.iadd, 1) := by decide +kernel
theorem dX11_setMark_55 : decode cX11_setMark 55 = .ok (.ireturn, 1) := by decide +kernel
def fn_X11_setMark (h : aH) (p0 : Nat) (p1 : Int32) (p2 : Int32) : Option (Int32 × aH) :=
  (gR h p0 10 1).bind fun a1 =>
  (ck h a1 0).bind fun u2 =>
  (fn_X0_hasBasin h a1 p1).bind fun x3 =>
  if x3 = 0 then
    some ((-1), h)
  else
    if p2 < 0 then
      some ((-1), h)
    else
      if p2 ≤ 9 then
        (gR h p0 10 7).bind fun a4 =>
        (gR h a4 6 1).bind fun a5 =>
        (aI h a5 14 p1).bind fun x6 =>
        if x6 = p2 then
          some ((-2), h)
        else
          (gR h p0 10 7).bind fun a7 =>
          (gR h a7 6 1).bind fun a8 =>
          (wI h a8 p1 p2).bind fun h9 =>
          some ((10 + x6), h9)
      else
        some ((-1), h)
set_option maxRecDepth 20000 in
set_option maxHeartbeats 4000000 in
theorem ev_X11_setMark {l : Launch} {g : aG} {d : Nat} (hd : 1 ≤ d) (h : aH) (p0 : Nat) (p1 : Int32) (p2 : Int32) (o : Int32 × aH) (hf : fn_X11_setMark h p0 p1 p2 = some o) : EvM l g d yX11_setMark cX11_setMark 4 (some .int) [.ref p0, .int p1, .int p2] h (some (.int o.1), o.2) := by
  refine EvM.of mk_X11_setMark (Nat.le_of_ble_eq_true rfl) ?_
  intro Γ hl hg hq X
  have hd1 : 1 ≤ d := by omega
  have hk : RqI Γ o := hq
  unfold fn_X11_setMark at hf
  show Jd Γ (0, 0) 0 [some (.ref p0), some (.int p1), some (.int p2), none] [] h
  refine r_aload_n (pc := 0) X dX11_setMark_0 rfl ?_
  obtain ⟨a1, ea1, hf⟩ := ob hf
  refine r_getR (pc := 1) X dX11_setMark_1 fl_X11_19 rfl ea1 ?_
  refine r_iload_n (pc := 4) X dX11_setMark_4 rfl ?_
  obtain ⟨u2, eu2, hf⟩ := ob hf
  obtain ⟨x3, ex3, hf⟩ := ob hf
  refine r_callVI (pc := 5) X [.int p1] dX11_setMark_5 ml_X11_172 vo_X0_hasBasin ⟨Nat.le_refl _, Nat.le_refl _⟩ eu2 (ev_X0_hasBasin (d := d - 1) (by omega) _ _ _ _ ex3) hd1 rfl (Nat.le_of_ble_eq_true rfl) rfl ?_
  refine r_if_eq (pc := 8) X 21 dX11_setMark_8 (by decide) (fun c13 => ?_) (fun c13 => ?_)
  · rw [if_pos c13] at hf
    refine r_iconst (pc := 21) X (-1) dX11_setMark_21 (by decide) ?_
    obtain rfl := Option.some.inj hf
    exact r_iret (pc := 22) X dX11_setMark_22 hk
  · rw [if_neg c13] at hf
    refine r_iload_n (pc := 11) X dX11_setMark_11 rfl ?_
    refine r_if_lt (pc := 12) X 21 dX11_setMark_12 (by decide) (fun c12 => ?_) (fun c12 => ?_)
    · rw [if_pos c12] at hf
      refine r_iconst (pc := 21) X (-1) dX11_setMark_21 (by decide) ?_
      obtain rfl := Option.some.inj hf
      exact r_iret (pc := 22) X dX11_setMark_22 hk
    · rw [if_neg c12] at hf
      refine r_iload_n (pc := 15) X dX11_setMark_15 rfl ?_
      refine r_bipush (pc := 16) X 9 dX11_setMark_16 (by decide) ?_
      refine r_icmp_le (pc := 18) X 23 dX11_setMark_18 (by decide) (fun c11 => ?_) (fun c11 => ?_)
      · rw [if_pos c11] at hf
        refine r_aload_n (pc := 23) X dX11_setMark_23 rfl ?_
        obtain ⟨a4, ea4, hf⟩ := ob hf
        refine r_getR (pc := 24) X dX11_setMark_24 fl_X11_61 rfl ea4 ?_
        obtain ⟨a5, ea5, hf⟩ := ob hf
        refine r_getR (pc := 27) X dX11_setMark_27 fl_X11_157 rfl ea5 ?_
        refine r_iload_n (pc := 30) X dX11_setMark_30 rfl ?_
        obtain ⟨x6, ex6, hf⟩ := ob hf
        refine r_iald (pc := 31) X dX11_setMark_31 ex6 ?_
        refine r_istore_n (pc := 32) X [some (.ref p0), some (.int p1), some (.int p2), some (.int x6)] dX11_setMark_32 (by decide) rfl ?_
        refine r_iload_n (pc := 33) X dX11_setMark_33 rfl ?_
        refine r_iload_n (pc := 34) X dX11_setMark_34 rfl ?_
        refine r_icmp_ne (pc := 35) X 41 dX11_setMark_35 (by decide) (fun c10 => ?_) (fun c10 => ?_)
        · rw [if_neg c10] at hf
          refine r_aload_n (pc := 41) X dX11_setMark_41 rfl ?_
          obtain ⟨a7, ea7, hf⟩ := ob hf
          refine r_getR (pc := 42) X dX11_setMark_42 fl_X11_61 rfl ea7 ?_
          obtain ⟨a8, ea8, hf⟩ := ob hf
          refine r_getR (pc := 45) X dX11_setMark_45 fl_X11_157 rfl ea8 ?_
          refine r_iload_n (pc := 48) X dX11_setMark_48 rfl ?_
          refine r_iload_n (pc := 49) X dX11_setMark_49 rfl ?_
          obtain ⟨h9, eh9, hf⟩ := ob hf
          refine r_iast (pc := 50) X dX11_setMark_50 eh9 ?_
          refine r_bipush (pc := 51) X 10 dX11_setMark_51 (by decide) ?_
          refine r_iload_n (pc := 53) X dX11_setMark_53 rfl ?_
          refine r_iadd (pc := 54) X dX11_setMark_54 ?_
          obtain rfl := Option.some.inj hf
          exact r_iret (pc := 55) X dX11_setMark_55 hk
        · rw [if_pos c10] at hf
          refine r_bipush (pc := 38) X (-2) dX11_setMark_38 (by decide) ?_
          obtain rfl := Option.some.inj hf
          exact r_iret (pc := 40) X dX11_setMark_40 hk
      · rw [if_neg c11] at hf
        refine r_iconst (pc := 21) X (-1) dX11_setMark_21 (by decide) ?_
        obtain rfl := Option.some.inj hf
        exact r_iret (pc := 22) X dX11_setMark_22 hk

theorem dX11_act_0 : decode cX11_act 0 = .ok (.iload_n 1, 1) := by decide +kernel
theorem dX11_act_1 : decode cX11_act 1 = .ok (.tableswitch 114 98 112 #[95, 114, 114, 114, 114, 114, 114, 114, 114, 101, 88, 107, 75, 114, 81], 75) := by decide +kernel
theorem dX11_act_76 : decode cX11_act 76 = .ok (.aload_n 0, 1) := by decide +kernel
theorem dX11_act_77 : decode cX11_act 77 = .ok (.iload_n 2, 1) := by decide +kernel
theorem dX11_act_78 : decode cX11_act 78 = .ok (.invokevirtual 264, 3) := by decide +kernel
theorem dX11_act_81 : decode cX11_act 81 = .ok (.ireturn, 1) := by decide +kernel
theorem dX11_act_82 : decode cX11_act 82 = .ok (.aload_n 0, 1) := by decide +kernel
theorem dX11_act_83 : decode cX11_act 83 = .ok (.iload_n 2, 1) := by decide +kernel
theorem dX11_act_84 : decode cX11_act 84 = .ok (.iload_n 3, 1) := by decide +kernel
theorem dX11_act_85 : decode cX11_act 85 = .ok (.invokevirtual 267, 3) := by decide +kernel
theorem dX11_act_88 : decode cX11_act 88 = .ok (.ireturn, 1) := by decide +kernel
theorem dX11_act_89 : decode cX11_act 89 = .ok (.aload_n 0, 1) := by decide +kernel
theorem dX11_act_90 : decode cX11_act 90 = .ok (.iload_n 2, 1) := by decide +kernel
theorem dX11_act_91 : decode cX11_act 91 = .ok (.iload_n 3, 1) := by decide +kernel
theorem dX11_act_92 : decode cX11_act 92 = .ok (.invokevirtual 270, 3) := by decide +kernel
theorem dX11_act_95 : decode cX11_act 95 = .ok (.ireturn, 1) := by decide +kernel
theorem dX11_act_96 : decode cX11_act 96 = .ok (.aload_n 0, 1) := by decide +kernel
theorem dX11_act_97 : decode cX11_act 97 = .ok (.iload_n 2, 1) := by decide +kernel
theorem dX11_act_98 : decode cX11_act 98 = .ok (.invokevirtual 273, 3) := by decide +kernel
theorem dX11_act_101 : decode cX11_act 101 = .ok (.ireturn, 1) := by decide +kernel
theorem dX11_act_102 : decode cX11_act 102 = .ok (.aload_n 0, 1) := by decide +kernel
theorem dX11_act_103 : decode cX11_act 103 = .ok (.iload_n 2, 1) := by decide +kernel
theorem dX11_act_104 : decode cX11_act 104 = .ok (.invokevirtual 276, 3) := by decide +kernel
theorem dX11_act_107 : decode cX11_act 107 = .ok (.ireturn, 1) := by decide +kernel
theorem dX11_act_108 : decode cX11_act 108 = .ok (.aload_n 0, 1) := by decide +kernel
theorem dX11_act_109 : decode cX11_act 109 = .ok (.iload_n 2, 1) := by decide +kernel
theorem dX11_act_110 : decode cX11_act 110 = .ok (.iload_n 3, 1) := by decide +kernel
theorem dX11_act_111 : decode cX11_act 111 = .ok (.invokevirtual 279, 3) := by decide +kernel
theorem dX11_act_114 : decode cX11_act 114 = .ok (.ireturn, 1) := by decide +kernel
theorem dX11_act_115 : decode cX11_act 115 = .ok (.iconst (-1), 1) := by decide +kernel
theorem dX11_act_116 : decode cX11_act 116 = .ok (.ireturn, 1) := by decide +kernel
def fn_X11_act (h : aH) (p0 : Nat) (p1 : Int32) (p2 : Int32) (p3 : Int32) : Option (Int32 × aH) :=
  if p1 = 98 then
    (ck h p0 10).bind fun u2 =>
    (fn_X11_sendBoat h p0 p2).bind fun o3 =>
    some (o3.1, o3.2)
  else
  if p1 = 99 then
    some ((-1), h)
  else
  if p1 = 100 then
    some ((-1), h)
  else
  if p1 = 101 then
    some ((-1), h)
  else
  if p1 = 102 then
    some ((-1), h)
  else
  if p1 = 103 then
    some ((-1), h)
  else
  if p1 = 104 then
    some ((-1), h)
  else
  if p1 = 105 then
    some ((-1), h)
  else
  if p1 = 106 then
    some ((-1), h)
  else
  if p1 = 107 then
    (ck h p0 10).bind fun u13 =>
    (fn_X11_stick h p0 p2).bind fun o14 =>
    some (o14.1, o14.2)
  else
  if p1 = 108 then
    (ck h p0 10).bind fun u16 =>
    (fn_X11_letOut h p0 p2 p3).bind fun o17 =>
    some (o17.1, o17.2)
  else
  if p1 = 109 then
    (ck h p0 10).bind fun u19 =>
    (fn_X11_setMark h p0 p2 p3).bind fun o20 =>
    some (o20.1, o20.2)
  else
  if p1 = 110 then
    (ck h p0 10).bind fun u22 =>
    (fn_X11_letHoursPass h p0 p2).bind fun o23 =>
    some (o23.1, o23.2)
  else
  if p1 = 111 then
    some ((-1), h)
  else
  if p1 = 112 then
    (ck h p0 10).bind fun u26 =>
    (fn_X11_pour h p0 p2 p3).bind fun o27 =>
    some (o27.1, o27.2)
  else
  some ((-1), h)
set_option maxRecDepth 20000 in
set_option maxHeartbeats 4000000 in
theorem ev_X11_act {l : Launch} {g : aG} {d : Nat} (hd : 5 ≤ d) (h : aH) (p0 : Nat) (p1 : Int32) (p2 : Int32) (p3 : Int32) (o : Int32 × aH) (hf : fn_X11_act h p0 p1 p2 p3 = some o) : EvM l g d yX11_act cX11_act 4 (some .int) [.ref p0, .int p1, .int p2, .int p3] h (some (.int o.1), o.2) := by
  refine EvM.of mk_X11_act (Nat.le_of_ble_eq_true rfl) ?_
  intro Γ hl hg hq X
  have hd1 : 1 ≤ d := by omega
  have hk : RqI Γ o := hq
  unfold fn_X11_act at hf
  show Jd Γ (0, 0) 0 [some (.ref p0), some (.int p1), some (.int p2), some (.int p3)] [] h
  refine r_iload_n (pc := 0) X dX11_act_0 rfl ?_
  by_cases c1 : p1 = 98
  · rw [if_pos c1] at hf
    refine r_tableIn (pc := 1) X 96 dX11_act_1 (by rw [c1] <;> decide) (by rw [c1] <;> decide) (by rw [c1] <;> rfl) (by decide) ?_
    refine r_aload_n (pc := 96) X dX11_act_96 rfl ?_
    refine r_iload_n (pc := 97) X dX11_act_97 rfl ?_
    obtain ⟨u2, eu2, hf⟩ := ob hf
    obtain ⟨o3, eo3, hf⟩ := ob hf
    refine r_callVI (pc := 98) X [.int p2] dX11_act_98 ml_X11_273 vo_X11_sendBoat ⟨Nat.le_refl _, Nat.le_refl _⟩ eu2 (ev_X11_sendBoat (d := d - 1) (by omega) _ _ _ _ eo3) hd1 rfl (Nat.le_of_ble_eq_true rfl) rfl ?_
    obtain rfl := Option.some.inj hf
    exact r_iret (pc := 101) X dX11_act_101 hk
  rw [if_neg c1] at hf
  by_cases c4 : p1 = 99
  · rw [if_pos c4] at hf
    refine r_tableIn (pc := 1) X 115 dX11_act_1 (by rw [c4] <;> decide) (by rw [c4] <;> decide) (by rw [c4] <;> rfl) (by decide) ?_
    refine r_iconst (pc := 115) X (-1) dX11_act_115 (by decide) ?_
    obtain rfl := Option.some.inj hf
    exact r_iret (pc := 116) X dX11_act_116 hk
  rw [if_neg c4] at hf
  by_cases c5 : p1 = 100
  · rw [if_pos c5] at hf
    refine r_tableIn (pc := 1) X 115 dX11_act_1 (by rw [c5] <;> decide) (by rw [c5] <;> decide) (by rw [c5] <;> rfl) (by decide) ?_
    refine r_iconst (pc := 115) X (-1) dX11_act_115 (by decide) ?_
    obtain rfl := Option.some.inj hf
    exact r_iret (pc := 116) X dX11_act_116 hk
  rw [if_neg c5] at hf
  by_cases c6 : p1 = 101
  · rw [if_pos c6] at hf
    refine r_tableIn (pc := 1) X 115 dX11_act_1 (by rw [c6] <;> decide) (by rw [c6] <;> decide) (by rw [c6] <;> rfl) (by decide) ?_
    refine r_iconst (pc := 115) X (-1) dX11_act_115 (by decide) ?_
    obtain rfl := Option.some.inj hf
    exact r_iret (pc := 116) X dX11_act_116 hk
  rw [if_neg c6] at hf
  by_cases c7 : p1 = 102
  · rw [if_pos c7] at hf
    refine r_tableIn (pc := 1) X 115 dX11_act_1 (by rw [c7] <;> decide) (by rw [c7] <;> decide) (by rw [c7] <;> rfl) (by decide) ?_
    refine r_iconst (pc := 115) X (-1) dX11_act_115 (by decide) ?_
    obtain rfl := Option.some.inj hf
    exact r_iret (pc := 116) X dX11_act_116 hk
  rw [if_neg c7] at hf
  by_cases c8 : p1 = 103
  · rw [if_pos c8] at hf
    refine r_tableIn (pc := 1) X 115 dX11_act_1 (by rw [c8] <;> decide) (by rw [c8] <;> decide) (by rw [c8] <;> rfl) (by decide) ?_
    refine r_iconst (pc := 115) X (-1) dX11_act_115 (by decide) ?_
    obtain rfl := Option.some.inj hf
    exact r_iret (pc := 116) X dX11_act_116 hk
  rw [if_neg c8] at hf
  by_cases c9 : p1 = 104
  · rw [if_pos c9] at hf
    refine r_tableIn (pc := 1) X 115 dX11_act_1 (by rw [c9] <;> decide) (by rw [c9] <;> decide) (by rw [c9] <;> rfl) (by decide) ?_
    refine r_iconst (pc := 115) X (-1) dX11_act_115 (by decide) ?_
    obtain rfl := Option.some.inj hf
    exact r_iret (pc := 116) X dX11_act_116 hk
  rw [if_neg c9] at hf
  by_cases c10 : p1 = 105
  · rw [if_pos c10] at hf
    refine r_tableIn (pc := 1) X 115 dX11_act_1 (by rw [c10] <;> decide) (by rw [c10] <;> decide) (by rw [c10] <;> rfl) (by decide) ?_
    refine r_iconst (pc := 115) X (-1) dX11_act_115 (by decide) ?_
    obtain rfl := Option.some.inj hf
    exact r_iret (pc := 116) X dX11_act_116 hk
  rw [if_neg c10] at hf
  by_cases c11 : p1 = 106
  · rw [if_pos c11] at hf
    refine r_tableIn (pc := 1) X 115 dX11_act_1 (by rw [c11] <;> decide) (by rw [c11] <;> decide) (by rw [c11] <;> rfl) (by decide) ?_
    refine r_iconst (pc := 115) X (-1) dX11_act_115 (by decide) ?_
    obtain rfl := Option.some.inj hf
    exact r_iret (pc := 116) X dX11_act_116 hk
  rw [if_neg c11] at hf
  by_cases c12 : p1 = 107
  · rw [if_pos c12] at hf
    refine r_tableIn (pc := 1) X 102 dX11_act_1 (by rw [c12] <;> decide) (by rw [c12] <;> decide) (by rw [c12] <;> rfl) (by decide) ?_
    refine r_aload_n (pc := 102) X dX11_act_102 rfl ?_
    refine r_iload_n (pc := 103) X dX11_act_103 rfl ?_
    obtain ⟨u13, eu13, hf⟩ := ob hf
    obtain ⟨o14, eo14, hf⟩ := ob hf
    refine r_callVI (pc := 104) X [.int p2] dX11_act_104 ml_X11_276 vo_X11_stick ⟨Nat.le_refl _, Nat.le_refl _⟩ eu13 (ev_X11_stick (d := d - 1) (by omega) _ _ _ _ eo14) hd1 rfl (Nat.le_of_ble_eq_true rfl) rfl ?_
    obtain rfl := Option.some.inj hf
    exact r_iret (pc := 107) X dX11_act_107 hk
  rw [if_neg c12] at hf
  by_cases c15 : p1 = 108
  · rw [if_pos c15] at hf
    refine r_tableIn (pc := 1) X 89 dX11_act_1 (by rw [c15] <;> decide) (by rw [c15] <;> decide) (by rw [c15] <;> rfl) (by decide) ?_
    refine r_aload_n (pc := 89) X dX11_act_89 rfl ?_
    refine r_iload_n (pc := 90) X dX11_act_90 rfl ?_
    refine r_iload_n (pc := 91) X dX11_act_91 rfl ?_
    obtain ⟨u16, eu16, hf⟩ := ob hf
    obtain ⟨o17, eo17, hf⟩ := ob hf
    refine r_callVI (pc := 92) X [.int p2, .int p3] dX11_act_92 ml_X11_270 vo_X11_letOut ⟨Nat.le_refl _, Nat.le_refl _⟩ eu16 (ev_X11_letOut (d := d - 1) (by omega) _ _ _ _ _ eo17) hd1 rfl (Nat.le_of_ble_eq_true rfl) rfl ?_
    obtain rfl := Option.some.inj hf
    exact r_iret (pc := 95) X dX11_act_95 hk
  rw [if_neg c15] at hf
  by_cases c18 : p1 = 109
  · rw [if_pos c18] at hf
    refine r_tableIn (pc := 1) X 108 dX11_act_1 (by rw [c18] <;> decide) (by rw [c18] <;> decide) (by rw [c18] <;> rfl) (by decide) ?_
    refine r_aload_n (pc := 108) X dX11_act_108 rfl ?_
    refine r_iload_n (pc := 109) X dX11_act_109 rfl ?_
    refine r_iload_n (pc := 110) X dX11_act_110 rfl ?_
    obtain ⟨u19, eu19, hf⟩ := ob hf
    obtain ⟨o20, eo20, hf⟩ := ob hf
    refine r_callVI (pc := 111) X [.int p2, .int p3] dX11_act_111 ml_X11_279 vo_X11_setMark ⟨Nat.le_refl _, Nat.le_refl _⟩ eu19 (ev_X11_setMark (d := d - 1) (by omega) _ _ _ _ _ eo20) hd1 rfl (Nat.le_of_ble_eq_true rfl) rfl ?_
    obtain rfl := Option.some.inj hf
    exact r_iret (pc := 114) X dX11_act_114 hk
  rw [if_neg c18] at hf
  by_cases c21 : p1 = 110
  · rw [if_pos c21] at hf
    refine r_tableIn (pc := 1) X 76 dX11_act_1 (by rw [c21] <;> decide) (by rw [c21] <;> decide) (by rw [c21] <;> rfl) (by decide) ?_
    refine r_aload_n (pc := 76) X dX11_act_76 rfl ?_
    refine r_iload_n (pc := 77) X dX11_act_77 rfl ?_
    obtain ⟨u22, eu22, hf⟩ := ob hf
    obtain ⟨o23, eo23, hf⟩ := ob hf
    refine r_callVI (pc := 78) X [.int p2] dX11_act_78 ml_X11_264 vo_X11_letHoursPass ⟨Nat.le_refl _, Nat.le_refl _⟩ eu22 (ev_X11_letHoursPass (d := d - 1) (by omega) _ _ _ _ eo23) hd1 rfl (Nat.le_of_ble_eq_true rfl) rfl ?_
    obtain rfl := Option.some.inj hf
    exact r_iret (pc := 81) X dX11_act_81 hk
  rw [if_neg c21] at hf
  by_cases c24 : p1 = 111
  · rw [if_pos c24] at hf
    refine r_tableIn (pc := 1) X 115 dX11_act_1 (by rw [c24] <;> decide) (by rw [c24] <;> decide) (by rw [c24] <;> rfl) (by decide) ?_
    refine r_iconst (pc := 115) X (-1) dX11_act_115 (by decide) ?_
    obtain rfl := Option.some.inj hf
    exact r_iret (pc := 116) X dX11_act_116 hk
  rw [if_neg c24] at hf
  by_cases c25 : p1 = 112
  · rw [if_pos c25] at hf
    refine r_tableIn (pc := 1) X 82 dX11_act_1 (by rw [c25] <;> decide) (by rw [c25] <;> decide) (by rw [c25] <;> rfl) (by decide) ?_
    refine r_aload_n (pc := 82) X dX11_act_82 rfl ?_
    refine r_iload_n (pc := 83) X dX11_act_83 rfl ?_
    refine r_iload_n (pc := 84) X dX11_act_84 rfl ?_
    obtain ⟨u26, eu26, hf⟩ := ob hf
    obtain ⟨o27, eo27, hf⟩ := ob hf
    refine r_callVI (pc := 85) X [.int p2, .int p3] dX11_act_85 ml_X11_267 vo_X11_pour ⟨Nat.le_refl _, Nat.le_refl _⟩ eu26 (ev_X11_pour (d := d - 1) (by omega) _ _ _ _ _ eo27) hd1 rfl (Nat.le_of_ble_eq_true rfl) rfl ?_
    obtain rfl := Option.some.inj hf
    exact r_iret (pc := 88) X dX11_act_88 hk
  rw [if_neg c25] at hf
  have nc1 := lv_neT c1 (show (98 : Int32).toInt = 98 from by decide)
  have nc4 := lv_neT c4 (show (99 : Int32).toInt = 99 from by decide)
  have nc5 := lv_neT c5 (show (100 : Int32).toInt = 100 from by decide)
  have nc6 := lv_neT c6 (show (101 : Int32).toInt = 101 from by decide)
  have nc7 := lv_neT c7 (show (102 : Int32).toInt = 102 from by decide)
  have nc8 := lv_neT c8 (show (103 : Int32).toInt = 103 from by decide)
  have nc9 := lv_neT c9 (show (104 : Int32).toInt = 104 from by decide)
  have nc10 := lv_neT c10 (show (105 : Int32).toInt = 105 from by decide)
  have nc11 := lv_neT c11 (show (106 : Int32).toInt = 106 from by decide)
  have nc12 := lv_neT c12 (show (107 : Int32).toInt = 107 from by decide)
  have nc15 := lv_neT c15 (show (108 : Int32).toInt = 108 from by decide)
  have nc18 := lv_neT c18 (show (109 : Int32).toInt = 109 from by decide)
  have nc21 := lv_neT c21 (show (110 : Int32).toInt = 110 from by decide)
  have nc24 := lv_neT c24 (show (111 : Int32).toInt = 111 from by decide)
  have nc25 := lv_neT c25 (show (112 : Int32).toInt = 112 from by decide)
  refine r_tableOut (pc := 1) X 115 dX11_act_1 (by omega) (by decide) ?_
  refine r_iconst (pc := 115) X (-1) dX11_act_115 (by decide) ?_
  obtain rfl := Option.some.inj hf
  exact r_iret (pc := 116) X dX11_act_116 hk

theorem dX11_actThatCanBeUndone_0 : decode cX11_actThatCanBeUndone 0 = .ok (.aload_n 0, 1) := by decide +kernel
theorem dX11_actThatCanBeUndone_1 : decode cX11_actThatCanBeUndone 1 = .ok (.getfield 65, 3) := by decide +kernel
theorem dX11_actThatCanBeUndone_4 : decode cX11_actThatCanBeUndone 4 = .ok (.aload_n 0, 1) := by decide +kernel
theorem dX11_actThatCanBeUndone_5 : decode cX11_actThatCanBeUndone 5 = .ok (.getfield 61, 3) := by decide +kernel
theorem dX11_actThatCanBeUndone_8 : decode cX11_actThatCanBeUndone 8 = .ok (.invokevirtual 255, 3) := by decide +kernel
theorem dX11_actThatCanBeUndone_11 : decode cX11_actThatCanBeUndone 11 = .ok (.aload_n 0, 1) := by decide +kernel
theorem dX11_actThatCanBeUndone_12 : decode cX11_actThatCanBeUndone 12 = .ok (.iload_n 1, 1) := by decide +kernel
theorem dX11_actThatCanBeUndone_13 : decode cX11_actThatCanBeUndone 13 = .ok (.iload_n 2, 1) := by decide +kernel
theorem dX11_actThatCanBeUndone_14 : decode cX11_actThatCanBeUndone 14 = .ok (.iload_n 3, 1) := by decide +kernel
theorem dX11_actThatCanBeUndone_15 : decode cX11_actThatCanBeUndone 15 = .ok (.invokevirtual 258, 3) := by decide +kernel
theorem dX11_actThatCanBeUndone_18 : decode cX11_actThatCanBeUndone 18 = .ok (.istore 4, 2) := by decide +kernel
theorem dX11_actThatCanBeUndone_20 : decode cX11_actThatCanBeUndone 20 = .ok (.iload_n 1, 1) := by decide +kernel
theorem dX11_actThatCanBeUndone_21 : decode cX11_actThatCanBeUndone 21 = .ok (.bipush 110, 2) := by decide +kernel
theorem dX11_actThatCanBeUndone_23 : decode cX11_actThatCanBeUndone 23 = .ok (.if_icmp .ne 11, 3) := by decide +kernel
theorem dX11_actThatCanBeUndone_26 : decode cX11_actThatCanBeUndone 26 = .ok (.iload_n 2, 1) := by decide +kernel
theorem dX11_actThatCanBeUndone_27 : decode cX11_actThatCanBeUndone 27 = .ok (.ifCond .ne 7, 3) := by decide +kernel
theorem dX11_actThatCanBeUndone_30 : decode cX11_actThatCanBeUndone 30 = .ok (.iconst 1, 1) := by decide +kernel
theorem dX11_actThatCanBeUndone_31 : decode cX11_actThatCanBeUndone 31 = .ok (.goto 4, 3) := by decide +kernel
theorem dX11_actThatCanBeUndone_34 : decode cX11_actThatCanBeUndone 34 = .ok (.iconst 0, 1) := by decide +kernel
theorem dX11_actThatCanBeUndone_35 : decode cX11_actThatCanBeUndone 35 = .ok (.istore 5, 2) := by decide +kernel
theorem dX11_actThatCanBeUndone_37 : decode cX11_actThatCanBeUndone 37 = .ok (.iload 4, 2) := by decide +kernel
theorem dX11_actThatCanBeUndone_39 : decode cX11_actThatCanBeUndone 39 = .ok (.ifCond .lt 19, 3) := by decide +kernel
theorem dX11_actThatCanBeUndone_42 : decode cX11_actThatCanBeUndone 42 = .ok (.iload 5, 2) := by decide +kernel
theorem dX11_actThatCanBeUndone_44 : decode cX11_actThatCanBeUndone 44 = .ok (.ifCond .ne 14, 3) := by decide +kernel
theorem dX11_actThatCanBeUndone_47 : decode cX11_actThatCanBeUndone 47 = .ok (.aload_n 0, 1) := by decide +kernel
theorem dX11_actThatCanBeUndone_48 : decode cX11_actThatCanBeUndone 48 = .ok (.getfield 74, 3) := by decide +kernel
theorem dX11_actThatCanBeUndone_51 : decode cX11_actThatCanBeUndone 51 = .ok (.aload_n 0, 1) := by decide +kernel
theorem dX11_actThatCanBeUndone_52 : decode cX11_actThatCanBeUndone 52 = .ok (.getfield 65, 3) := by decide +kernel
theorem dX11_actThatCanBeUndone_55 : decode cX11_actThatCanBeUndone 55 = .ok (.invokevirtual 261, 3) := by decide +kernel
theorem dX11_actThatCanBeUndone_58 : decode cX11_actThatCanBeUndone 58 = .ok (.iload 4, 2) := by decide +kernel
theorem dX11_actThatCanBeUndone_60 : decode cX11_actThatCanBeUndone 60 = .ok (.ireturn, 1) := by decide +kernel
def fn_X11_actThatCanBeUndone (h : aH) (p0 : Nat) (p1 : Int32) (p2 : Int32) (p3 : Int32) : Option (Int32 × aH) :=
  (gR h p0 10 8).bind fun a1 =>
  (gR h p0 10 7).bind fun a2 =>
  (ck h a1 6).bind fun u3 =>
  (fn_X7_takes h a1 a2).bind fun h4 =>
  (ck h4 p0 10).bind fun u5 =>
  (fn_X11_act h4 p0 p1 p2 p3).bind fun o6 =>
  ((
    if p1 = 110 then
      if p2 = 0 then
        some 1
      else
        some 0
    else
      some 0
  ) : Option (Int32)).bind fun t7 =>
  if o6.1 < 0 then
    some (o6.1, o6.2)
  else
    if t7 = 0 then
      (gR o6.2 p0 10 10).bind fun a8 =>
      (gR o6.2 p0 10 8).bind fun a9 =>
      (ck o6.2 a8 1).bind fun u10 =>
      (fn_X2_push o6.2 a8 a9).bind fun h11 =>
      some (o6.1, h11)
    else
      some (o6.1, o6.2)
set_option maxRecDepth 20000 in
set_option maxHeartbeats 4000000 in
theorem ev_X11_actThatCanBeUndone {l : Launch} {g : aG} {d : Nat} (hd : 6 ≤ d) (h : aH) (p0 : Nat) (p1 : Int32) (p2 : Int32) (p3 : Int32) (o : Int32 × aH) (hf : fn_X11_actThatCanBeUndone h p0 p1 p2 p3 = some o) : EvM l g d yX11_actThatCanBeUndone cX11_actThatCanBeUndone 6 (some .int) [.ref p0, .int p1, .int p2, .int p3] h (some (.int o.1), o.2) := by
  refine EvM.of mk_X11_actThatCanBeUndone (Nat.le_of_ble_eq_true rfl) ?_
  intro Γ hl hg hq X
  have hd1 : 1 ≤ d := by omega
  have hk : RqI Γ o := hq
  unfold fn_X11_actThatCanBeUndone at hf
  show Jd Γ (0, 0) 0 [some (.ref p0), some (.int p1), some (.int p2), some (.int p3), none, none] [] h
  refine r_aload_n (pc := 0) X dX11_actThatCanBeUndone_0 rfl ?_
  obtain ⟨a1, ea1, hf⟩ := ob hf
  refine r_getR (pc := 1) X dX11_actThatCanBeUndone_1 fl_X11_65 rfl ea1 ?_
  refine r_aload_n (pc := 4) X dX11_actThatCanBeUndone_4 rfl ?_
  obtain ⟨a2, ea2, hf⟩ := ob hf
  refine r_getR (pc := 5) X dX11_actThatCanBeUndone_5 fl_X11_61 rfl ea2 ?_
  obtain ⟨u3, eu3, hf⟩ := ob hf
  obtain ⟨h4, eh4, hf⟩ := ob hf
  refine r_callVV (pc := 8) X [.ref a2] dX11_actThatCanBeUndone_8 ml_X11_255 vo_X7_takes ⟨Nat.le_refl _, Nat.le_refl _⟩ eu3 (ev_X7_takes (d := d - 1) (by omega) _ _ _ _ eh4) hd1 rfl (Nat.le_of_ble_eq_true rfl) rfl ?_
  refine r_aload_n (pc := 11) X dX11_actThatCanBeUndone_11 rfl ?_
  refine r_iload_n (pc := 12) X dX11_actThatCanBeUndone_12 rfl ?_
  refine r_iload_n (pc := 13) X dX11_actThatCanBeUndone_13 rfl ?_
  refine r_iload_n (pc := 14) X dX11_actThatCanBeUndone_14 rfl ?_
  obtain ⟨u5, eu5, hf⟩ := ob hf
  obtain ⟨o6, eo6, hf⟩ := ob hf
  refine r_callVI (pc := 15) X [.int p1, .int p2, .int p3] dX11_actThatCanBeUndone_15 ml_X11_258 vo_X11_act ⟨Nat.le_refl _, Nat.le_refl _⟩ eu5 (ev_X11_act (d := d - 1) (by omega) _ _ _ _ _ _ eo6) hd1 rfl (Nat.le_of_ble_eq_true rfl) rfl ?_
  refine r_istore (pc := 18) X [some (.ref p0), some (.int p1), some (.int p2), some (.int p3), some (.int o6.1), none] dX11_actThatCanBeUndone_18 (by decide) rfl ?_
  refine r_iload_n (pc := 20) X dX11_actThatCanBeUndone_20 rfl ?_
  refine r_bipush (pc := 21) X 110 dX11_actThatCanBeUndone_21 (by decide) ?_
  obtain ⟨t7, et7, hf⟩ := ob hf
  have Jt7 : Jd Γ (0, 0) 35 [some (.ref p0), some (.int p1), some (.int p2), some (.int p3), some (.int o6.1), none] [.int t7] o6.2 := by
    refine r_istore (pc := 35) X [some (.ref p0), some (.int p1), some (.int p2), some (.int p3), some (.int o6.1), some (.int t7)] dX11_actThatCanBeUndone_35 (by decide) rfl ?_
    refine r_iload (pc := 37) X dX11_actThatCanBeUndone_37 rfl ?_
    refine r_if_lt (pc := 39) X 58 dX11_actThatCanBeUndone_39 (by decide) (fun c13 => ?_) (fun c13 => ?_)
    · rw [if_pos c13] at hf
      refine r_iload (pc := 58) X dX11_actThatCanBeUndone_58 rfl ?_
      obtain rfl := Option.some.inj hf
      exact r_iret (pc := 60) X dX11_actThatCanBeUndone_60 hk
    · rw [if_neg c13] at hf
      refine r_iload (pc := 42) X dX11_actThatCanBeUndone_42 rfl ?_
      refine r_if_ne (pc := 44) X 58 dX11_actThatCanBeUndone_44 (by decide) (fun c12 => ?_) (fun c12 => ?_)
      · rw [if_neg c12] at hf
        refine r_iload (pc := 58) X dX11_actThatCanBeUndone_58 rfl ?_
        obtain rfl := Option.some.inj hf
        exact r_iret (pc := 60) X dX11_actThatCanBeUndone_60 hk
      · rw [if_pos c12] at hf
        refine r_aload_n (pc := 47) X dX11_actThatCanBeUndone_47 rfl ?_
        obtain ⟨a8, ea8, hf⟩ := ob hf
        refine r_getR (pc := 48) X dX11_actThatCanBeUndone_48 fl_X11_74 rfl ea8 ?_
        refine r_aload_n (pc := 51) X dX11_actThatCanBeUndone_51 rfl ?_
        obtain ⟨a9, ea9, hf⟩ := ob hf
        refine r_getR (pc := 52) X dX11_actThatCanBeUndone_52 fl_X11_65 rfl ea9 ?_
        obtain ⟨u10, eu10, hf⟩ := ob hf
        obtain ⟨h11, eh11, hf⟩ := ob hf
        refine r_callVV (pc := 55) X [.ref a9] dX11_actThatCanBeUndone_55 ml_X11_261 vo_X2_push ⟨Nat.le_refl _, Nat.le_refl _⟩ eu10 (ev_X2_push (d := d - 1) (by omega) _ _ _ _ eh11) hd1 rfl (Nat.le_of_ble_eq_true rfl) rfl ?_
        refine r_iload (pc := 58) X dX11_actThatCanBeUndone_58 rfl ?_
        obtain rfl := Option.some.inj hf
        exact r_iret (pc := 60) X dX11_actThatCanBeUndone_60 hk
  refine r_icmp_ne (pc := 23) X 34 dX11_actThatCanBeUndone_23 (by decide) (fun c15 => ?_) (fun c15 => ?_)
  · rw [if_neg c15] at et7
    refine r_iconst (pc := 34) X 0 dX11_actThatCanBeUndone_34 (by decide) ?_
    obtain rfl := Option.some.inj et7
    exact Jt7
  · rw [if_pos c15] at et7
    refine r_iload_n (pc := 26) X dX11_actThatCanBeUndone_26 rfl ?_
    refine r_if_ne (pc := 27) X 34 dX11_actThatCanBeUndone_27 (by decide) (fun c14 => ?_) (fun c14 => ?_)
    · rw [if_neg c14] at et7
      refine r_iconst (pc := 34) X 0 dX11_actThatCanBeUndone_34 (by decide) ?_
      obtain rfl := Option.some.inj et7
      exact Jt7
    · rw [if_pos c14] at et7
      refine r_iconst (pc := 30) X 1 dX11_actThatCanBeUndone_30 (by decide) ?_
      refine r_goto (pc := 31) X 35 dX11_actThatCanBeUndone_31 (by decide) ?_
      obtain rfl := Option.some.inj et7
      exact Jt7

theorem dX11_hours_0 : decode cX11_hours 0 = .ok (.aload_n 0, 1) := by decide +kernel
theorem dX11_hours_1 : decode cX11_hours 1 = .ok (.bipush 110, 2) := by decide +kernel
theorem dX11_hours_3 : decode cX11_hours 3 = .ok (.iload_n 1, 1) := by decide +kernel
theorem dX11_hours_4 : decode cX11_hours 4 = .ok (.iconst 0, 1) := by decide +kernel
theorem dX11_hours_5 : decode cX11_hours 5 = .ok (.invokevirtual 238, 3) := by decide +kernel
theorem dX11_hours_8 : decode cX11_hours 8 = .ok (.istore_n 2, 1) := by decide +kernel
theorem dX11_hours_9 : decode cX11_hours 9 = .ok (.iload_n 2, 1) := by decide +kernel
theorem dX11_hours_10 : decode cX11_hours 10 = .ok (.ifCond .lt 40, 3) := by decide +kernel
theorem dX11_hours_13 : decode cX11_hours 13 = .ok (.aload_n 0, 1) := by decide +kernel
theorem dX11_hours_14 : decode cX11_hours 14 = .ok (.getfield 81, 3) := by decide +kernel
theorem dX11_hours_17 : decode cX11_hours 17 = .ok (.invokevirtual 242, 3) := by decide +kernel
theorem dX11_hours_20 : decode cX11_hours 20 = .ok (.aload_n 0, 1) := by decide +kernel
theorem dX11_hours_21 : decode cX11_hours 21 = .ok (.getfield 81, 3) := by decide +kernel
theorem dX11_hours_24 : decode cX11_hours 24 = .ok (.aload_n 0, 1) := by decide +kernel
theorem dX11_hours_25 : decode cX11_hours 25 = .ok (.getfield 19, 3) := by decide +kernel
theorem dX11_hours_28 : decode cX11_hours 28 = .ok (.getfield 245, 3) := by decide +kernel
theorem dX11_hours_31 : decode cX11_hours 31 = .ok (.i2l, 1) := by decide +kernel
theorem dX11_hours_32 : decode cX11_hours 32 = .ok (.invokevirtual 248, 3) := by decide +kernel
theorem dX11_hours_35 : decode cX11_hours 35 = .ok (.aload_n 0, 1) := by decide +kernel
theorem dX11_hours_36 : decode cX11_hours 36 = .ok (.getfield 81, 3) := by decide +kernel
theorem dX11_hours_39 : decode cX11_hours 39 = .ok (.aload_n 0, 1) := by decide +kernel
theorem dX11_hours_40 : decode cX11_hours 40 = .ok (.getfield 19, 3) := by decide +kernel
theorem dX11_hours_43 : decode cX11_hours 43 = .ok (.getfield 252, 3) := by decide +kernel
theorem dX11_hours_46 : decode cX11_hours 46 = .ok (.i2l, 1) := by decide +kernel
theorem dX11_hours_47 : decode cX11_hours 47 = .ok (.invokevirtual 248, 3) := by decide +kernel
theorem dX11_hours_50 : decode cX11_hours 50 = .ok (.iload_n 2, 1) := by decide +kernel
theorem dX11_hours_51 : decode cX11_hours 51 = .ok (.ireturn, 1) := by decide +kernel
def fn_X11_hours (h : aH) (p0 : Nat) (p1 : Int32) : Option (Int32 × aH) :=
  (ck h p0 10).bind fun u1 =>
  (fn_X11_actThatCanBeUndone h p0 110 p1 0).bind fun o2 =>
  if o2.1 < 0 then
    some (o2.1, o2.2)
  else
    (gR o2.2 p0 10 11).bind fun a3 =>
    (ck o2.2 a3 2).bind fun u4 =>
    (fn_X3_begin o2.2 a3).bind fun h5 =>
    (gR h5 p0 10 11).bind fun a6 =>
    (gR h5 p0 10 1).bind fun a7 =>
    (gI h5 a7 0 8).bind fun x8 =>
    (ck h5 a6 2).bind fun u9 =>
    (fn_X3_add h5 a6 (Int32.toInt64 x8)).bind fun h10 =>
    (gR h10 p0 10 11).bind fun a11 =>
    (gR h10 p0 10 1).bind fun a12 =>
    (gI h10 a12 0 9).bind fun x13 =>
    (ck h10 a11 2).bind fun u14 =>
    (fn_X3_add h10 a11 (Int32.toInt64 x13)).bind fun h15 =>
    some (o2.1, h15)
set_option maxRecDepth 20000 in
set_option maxHeartbeats 4000000 in
theorem ev_X11_hours {l : Launch} {g : aG} {d : Nat} (hd : 7 ≤ d) (h : aH) (p0 : Nat) (p1 : Int32) (o : Int32 × aH) (hf : fn_X11_hours h p0 p1 = some o) : EvM l g d yX11_hours cX11_hours 3 (some .int) [.ref p0, .int p1] h (some (.int o.1), o.2) := by
  refine EvM.of mk_X11_hours (Nat.le_of_ble_eq_true rfl) ?_
  intro Γ hl hg hq X
  have hd1 : 1 ≤ d := by omega
  have hk : RqI Γ o := hq
  unfold fn_X11_hours at hf
  show Jd Γ (0, 0) 0 [some (.ref p0), some (.int p1), none] [] h
  refine r_aload_n (pc := 0) X dX11_hours_0 rfl ?_
  refine r_bipush (pc := 1) X 110 dX11_hours_1 (by decide) ?_
  refine r_iload_n (pc := 3) X dX11_hours_3 rfl ?_
  refine r_iconst (pc := 4) X 0 dX11_hours_4 (by decide) ?_
  obtain ⟨u1, eu1, hf⟩ := ob hf
  obtain ⟨o2, eo2, hf⟩ := ob hf
  refine r_callVI (pc := 5) X [.int 110, .int p1, .int 0] dX11_hours_5 ml_X11_238 vo_X11_actThatCanBeUndone ⟨Nat.le_refl _, Nat.le_refl _⟩ eu1 (ev_X11_actThatCanBeUndone (d := d - 1) (by omega) _ _ _ _ _ _ eo2) hd1 rfl (Nat.le_of_ble_eq_true rfl) rfl ?_
  refine r_istore_n (pc := 8) X [some (.ref p0), some (.int p1), some (.int o2.1)] dX11_hours_8 (by decide) rfl ?_
  refine r_iload_n (pc := 9) X dX11_hours_9 rfl ?_
  refine r_if_lt (pc := 10) X 50 dX11_hours_10 (by decide) (fun c16 => ?_) (fun c16 => ?_)
  · rw [if_pos c16] at hf
    refine r_iload_n (pc := 50) X dX11_hours_50 rfl ?_
    obtain rfl := Option.some.inj hf
    exact r_iret (pc := 51) X dX11_hours_51 hk
  · rw [if_neg c16] at hf
    refine r_aload_n (pc := 13) X dX11_hours_13 rfl ?_
    obtain ⟨a3, ea3, hf⟩ := ob hf
    refine r_getR (pc := 14) X dX11_hours_14 fl_X11_81 rfl ea3 ?_
    obtain ⟨u4, eu4, hf⟩ := ob hf
    obtain ⟨h5, eh5, hf⟩ := ob hf
    refine r_callVV (pc := 17) X [] dX11_hours_17 ml_X11_242 vo_X3_begin ⟨Nat.le_refl _, Nat.le_refl _⟩ eu4 (ev_X3_begin (d := d - 1) (by omega) _ _ _ eh5) hd1 rfl (Nat.le_of_ble_eq_true rfl) rfl ?_
    refine r_aload_n (pc := 20) X dX11_hours_20 rfl ?_
    obtain ⟨a6, ea6, hf⟩ := ob hf
    refine r_getR (pc := 21) X dX11_hours_21 fl_X11_81 rfl ea6 ?_
    refine r_aload_n (pc := 24) X dX11_hours_24 rfl ?_
    obtain ⟨a7, ea7, hf⟩ := ob hf
    refine r_getR (pc := 25) X dX11_hours_25 fl_X11_19 rfl ea7 ?_
    obtain ⟨x8, ex8, hf⟩ := ob hf
    refine r_getI (pc := 28) X dX11_hours_28 fl_X11_245 rfl ex8 ?_
    refine r_i2l (pc := 31) X dX11_hours_31 ?_
    obtain ⟨u9, eu9, hf⟩ := ob hf
    obtain ⟨h10, eh10, hf⟩ := ob hf
    refine r_callVV (pc := 32) X [.long (Int32.toInt64 x8)] dX11_hours_32 ml_X11_248 vo_X3_add ⟨Nat.le_refl _, Nat.le_refl _⟩ eu9 (ev_X3_add (d := d - 1) (by omega) _ _ _ _ eh10) hd1 rfl (Nat.le_of_ble_eq_true rfl) rfl ?_
    refine r_aload_n (pc := 35) X dX11_hours_35 rfl ?_
    obtain ⟨a11, ea11, hf⟩ := ob hf
    refine r_getR (pc := 36) X dX11_hours_36 fl_X11_81 rfl ea11 ?_
    refine r_aload_n (pc := 39) X dX11_hours_39 rfl ?_
    obtain ⟨a12, ea12, hf⟩ := ob hf
    refine r_getR (pc := 40) X dX11_hours_40 fl_X11_19 rfl ea12 ?_
    obtain ⟨x13, ex13, hf⟩ := ob hf
    refine r_getI (pc := 43) X dX11_hours_43 fl_X11_252 rfl ex13 ?_
    refine r_i2l (pc := 46) X dX11_hours_46 ?_
    obtain ⟨u14, eu14, hf⟩ := ob hf
    obtain ⟨h15, eh15, hf⟩ := ob hf
    refine r_callVV (pc := 47) X [.long (Int32.toInt64 x13)] dX11_hours_47 ml_X11_248 vo_X3_add ⟨Nat.le_refl _, Nat.le_refl _⟩ eu14 (ev_X3_add (d := d - 1) (by omega) _ _ _ _ eh15) hd1 rfl (Nat.le_of_ble_eq_true rfl) rfl ?_
    refine r_iload_n (pc := 50) X dX11_hours_50 rfl ?_
    obtain rfl := Option.some.inj hf
    exact r_iret (pc := 51) X dX11_hours_51 hk

theorem dX11_pours_0 : decode cX11_pours 0 = .ok (.aload_n 0, 1) := by decide +kernel
theorem dX11_pours_1 : decode cX11_pours 1 = .ok (.bipush 112, 2) := by decide +kernel
theorem dX11_pours_3 : decode cX11_pours 3 = .ok (.iload_n 1, 1) := by decide +kernel
theorem dX11_pours_4 : decode cX11_pours 4 = .ok (.iload_n 2, 1) := by decide +kernel
theorem dX11_pours_5 : decode cX11_pours 5 = .ok (.invokevirtual 238, 3) := by decide +kernel
theorem dX11_pours_8 : decode cX11_pours 8 = .ok (.ireturn, 1) := by decide +kernel
def fn_X11_pours (h : aH) (p0 : Nat) (p1 : Int32) (p2 : Int32) : Option (Int32 × aH) :=
  (ck h p0 10).bind fun u1 =>
  (fn_X11_actThatCanBeUndone h p0 112 p1 p2).bind fun o2 =>
  some (o2.1, o2.2)
set_option maxRecDepth 20000 in
set_option maxHeartbeats 4000000 in
theorem ev_X11_pours {l : Launch} {g : aG} {d : Nat} (hd : 7 ≤ d) (h : aH) (p0 : Nat) (p1 : Int32) (p2 : Int32) (o : Int32 × aH) (hf : fn_X11_pours h p0 p1 p2 = some o) : EvM l g d yX11_pours cX11_pours 3 (some .int) [.ref p0, .int p1, .int p2] h (some (.int o.1), o.2) := by
  refine EvM.of mk_X11_pours (Nat.le_of_ble_eq_true rfl) ?_
  intro Γ hl hg hq X
  have hd1 : 1 ≤ d := by omega
  have hk : RqI Γ o := hq
  unfold fn_X11_pours at hf
  show Jd Γ (0, 0) 0 [some (.ref p0), some (.int p1), some (.int p2)] [] h
  refine r_aload_n (pc := 0) X dX11_pours_0 rfl ?_
  refine r_bipush (pc := 1) X 112 dX11_pours_1 (by decide) ?_
  refine r_iload_n (pc := 3) X dX11_pours_3 rfl ?_
  refine r_iload_n (pc := 4) X dX11_pours_4 rfl ?_
  obtain ⟨u1, eu1, hf⟩ := ob hf
  obtain ⟨o2, eo2, hf⟩ := ob hf
  refine r_callVI (pc := 5) X [.int 112, .int p1, .int p2] dX11_pours_5 ml_X11_238 vo_X11_actThatCanBeUndone ⟨Nat.le_refl _, Nat.le_refl _⟩ eu1 (ev_X11_actThatCanBeUndone (d := d - 1) (by omega) _ _ _ _ _ _ eo2) hd1 rfl (Nat.le_of_ble_eq_true rfl) rfl ?_
  obtain rfl := Option.some.inj hf
  exact r_iret (pc := 8) X dX11_pours_8 hk

theorem dX11_lets_0 : decode cX11_lets 0 = .ok (.aload_n 0, 1) := by decide +kernel
theorem dX11_lets_1 : decode cX11_lets 1 = .ok (.bipush 108, 2) := by decide +kernel
theorem dX11_lets_3 : decode cX11_lets 3 = .ok (.iload_n 1, 1) := by decide +kernel
theorem dX11_lets_4 : decode cX11_lets 4 = .ok (.iload_n 2, 1) := by decide +kernel
theorem dX11_lets_5 : decode cX11_lets 5 = .ok (.invokevirtual 238, 3) := by decide +kernel
theorem dX11_lets_8 : decode cX11_lets 8 = .ok (.ireturn, 1) := by decide +kernel
def fn_X11_lets (h : aH) (p0 : Nat) (p1 : Int32) (p2 : Int32) : Option (Int32 × aH) :=
  (ck h p0 10).bind fun u1 =>
  (fn_X11_actThatCanBeUndone h p0 108 p1 p2).bind fun o2 =>
  some (o2.1, o2.2)
set_option maxRecDepth 20000 in
set_option maxHeartbeats 4000000 in
theorem ev_X11_lets {l : Launch} {g : aG} {d : Nat} (hd : 7 ≤ d) (h : aH) (p0 : Nat) (p1 : Int32) (p2 : Int32) (o : Int32 × aH) (hf : fn_X11_lets h p0 p1 p2 = some o) : EvM l g d yX11_lets cX11_lets 3 (some .int) [.ref p0, .int p1, .int p2] h (some (.int o.1), o.2) := by
  refine EvM.of mk_X11_lets (Nat.le_of_ble_eq_true rfl) ?_
  intro Γ hl hg hq X
  have hd1 : 1 ≤ d := by omega
  have hk : RqI Γ o := hq
  unfold fn_X11_lets at hf
  show Jd Γ (0, 0) 0 [some (.ref p0), some (.int p1), some (.int p2)] [] h
  refine r_aload_n (pc := 0) X dX11_lets_0 rfl ?_
  refine r_bipush (pc := 1) X 108 dX11_lets_1 (by decide) ?_
  refine r_iload_n (pc := 3) X dX11_lets_3 rfl ?_
  refine r_iload_n (pc := 4) X dX11_lets_4 rfl ?_
  obtain ⟨u1, eu1, hf⟩ := ob hf
  obtain ⟨o2, eo2, hf⟩ := ob hf
  refine r_callVI (pc := 5) X [.int 108, .int p1, .int p2] dX11_lets_5 ml_X11_238 vo_X11_actThatCanBeUndone ⟨Nat.le_refl _, Nat.le_refl _⟩ eu1 (ev_X11_actThatCanBeUndone (d := d - 1) (by omega) _ _ _ _ _ _ eo2) hd1 rfl (Nat.le_of_ble_eq_true rfl) rfl ?_
  obtain rfl := Option.some.inj hf
  exact r_iret (pc := 8) X dX11_lets_8 hk

theorem dX11_boats_0 : decode cX11_boats 0 = .ok (.aload_n 0, 1) := by decide +kernel
theorem dX11_boats_1 : decode cX11_boats 1 = .ok (.bipush 98, 2) := by decide +kernel
theorem dX11_boats_3 : decode cX11_boats 3 = .ok (.iload_n 1, 1) := by decide +kernel
theorem dX11_boats_4 : decode cX11_boats 4 = .ok (.iconst 0, 1) := by decide +kernel
theorem dX11_boats_5 : decode cX11_boats 5 = .ok (.invokevirtual 238, 3) := by decide +kernel
theorem dX11_boats_8 : decode cX11_boats 8 = .ok (.ireturn, 1) := by decide +kernel
def fn_X11_boats (h : aH) (p0 : Nat) (p1 : Int32) : Option (Int32 × aH) :=
  (ck h p0 10).bind fun u1 =>
  (fn_X11_actThatCanBeUndone h p0 98 p1 0).bind fun o2 =>
  some (o2.1, o2.2)
set_option maxRecDepth 20000 in
set_option maxHeartbeats 4000000 in
theorem ev_X11_boats {l : Launch} {g : aG} {d : Nat} (hd : 7 ≤ d) (h : aH) (p0 : Nat) (p1 : Int32) (o : Int32 × aH) (hf : fn_X11_boats h p0 p1 = some o) : EvM l g d yX11_boats cX11_boats 2 (some .int) [.ref p0, .int p1] h (some (.int o.1), o.2) := by
  refine EvM.of mk_X11_boats (Nat.le_of_ble_eq_true rfl) ?_
  intro Γ hl hg hq X
  have hd1 : 1 ≤ d := by omega
  have hk : RqI Γ o := hq
  unfold fn_X11_boats at hf
  show Jd Γ (0, 0) 0 [some (.ref p0), some (.int p1)] [] h
  refine r_aload_n (pc := 0) X dX11_boats_0 rfl ?_
  refine r_bipush (pc := 1) X 98 dX11_boats_1 (by decide) ?_
  refine r_iload_n (pc := 3) X dX11_boats_3 rfl ?_
  refine r_iconst (pc := 4) X 0 dX11_boats_4 (by decide) ?_
  obtain ⟨u1, eu1, hf⟩ := ob hf
  obtain ⟨o2, eo2, hf⟩ := ob hf
  refine r_callVI (pc := 5) X [.int 98, .int p1, .int 0] dX11_boats_5 ml_X11_238 vo_X11_actThatCanBeUndone ⟨Nat.le_refl _, Nat.le_refl _⟩ eu1 (ev_X11_actThatCanBeUndone (d := d - 1) (by omega) _ _ _ _ _ _ eo2) hd1 rfl (Nat.le_of_ble_eq_true rfl) rfl ?_
  obtain rfl := Option.some.inj hf
  exact r_iret (pc := 8) X dX11_boats_8 hk

theorem dX11_sticks_0 : decode cX11_sticks 0 = .ok (.aload_n 0, 1) := by decide +kernel
theorem dX11_sticks_1 : decode cX11_sticks 1 = .ok (.bipush 107, 2) := by decide +kernel
theorem dX11_sticks_3 : decode cX11_sticks 3 = .ok (.iload_n 1, 1) := by decide +kernel
theorem dX11_sticks_4 : decode cX11_sticks 4 = .ok (.iconst 0, 1) := by decide +kernel
theorem dX11_sticks_5 : decode cX11_sticks 5 = .ok (.invokevirtual 238, 3) := by decide +kernel
theorem dX11_sticks_8 : decode cX11_sticks 8 = .ok (.ireturn, 1) := by decide +kernel
def fn_X11_sticks (h : aH) (p0 : Nat) (p1 : Int32) : Option (Int32 × aH) :=
  (ck h p0 10).bind fun u1 =>
  (fn_X11_actThatCanBeUndone h p0 107 p1 0).bind fun o2 =>
  some (o2.1, o2.2)
set_option maxRecDepth 20000 in
set_option maxHeartbeats 4000000 in
theorem ev_X11_sticks {l : Launch} {g : aG} {d : Nat} (hd : 7 ≤ d) (h : aH) (p0 : Nat) (p1 : Int32) (o : Int32 × aH) (hf : fn_X11_sticks h p0 p1 = some o) : EvM l g d yX11_sticks cX11_sticks 2 (some .int) [.ref p0, .int p1] h (some (.int o.1), o.2) := by
  refine EvM.of mk_X11_sticks (Nat.le_of_ble_eq_true rfl) ?_
  intro Γ hl hg hq X
  have hd1 : 1 ≤ d := by omega
  have hk : RqI Γ o := hq
  unfold fn_X11_sticks at hf
  show Jd Γ (0, 0) 0 [some (.ref p0), some (.int p1)] [] h
  refine r_aload_n (pc := 0) X dX11_sticks_0 rfl ?_
  refine r_bipush (pc := 1) X 107 dX11_sticks_1 (by decide) ?_
  refine r_iload_n (pc := 3) X dX11_sticks_3 rfl ?_
  refine r_iconst (pc := 4) X 0 dX11_sticks_4 (by decide) ?_
  obtain ⟨u1, eu1, hf⟩ := ob hf
  obtain ⟨o2, eo2, hf⟩ := ob hf
  refine r_callVI (pc := 5) X [.int 107, .int p1, .int 0] dX11_sticks_5 ml_X11_238 vo_X11_actThatCanBeUndone ⟨Nat.le_refl _, Nat.le_refl _⟩ eu1 (ev_X11_actThatCanBeUndone (d := d - 1) (by omega) _ _ _ _ _ _ eo2) hd1 rfl (Nat.le_of_ble_eq_true rfl) rfl ?_
  obtain rfl := Option.some.inj hf
  exact r_iret (pc := 8) X dX11_sticks_8 hk

theorem dX11_marks_0 : decode cX11_marks 0 = .ok (.aload_n 0, 1) := by decide +kernel
theorem dX11_marks_1 : decode cX11_marks 1 = .ok (.bipush 109, 2) := by decide +kernel
theorem dX11_marks_3 : decode cX11_marks 3 = .ok (.iload_n 1, 1) := by decide +kernel
theorem dX11_marks_4 : decode cX11_marks 4 = .ok (.iload_n 2, 1) := by decide +kernel
theorem dX11_marks_5 : decode cX11_marks 5 = .ok (.invokevirtual 238, 3) := by decide +kernel
theorem dX11_marks_8 : decode cX11_marks 8 = .ok (.ireturn, 1) := by decide +kernel
def fn_X11_marks (h : aH) (p0 : Nat) (p1 : Int32) (p2 : Int32) : Option (Int32 × aH) :=
  (ck h p0 10).bind fun u1 =>
  (fn_X11_actThatCanBeUndone h p0 109 p1 p2).bind fun o2 =>
  some (o2.1, o2.2)
set_option maxRecDepth 20000 in
set_option maxHeartbeats 4000000 in
theorem ev_X11_marks {l : Launch} {g : aG} {d : Nat} (hd : 7 ≤ d) (h : aH) (p0 : Nat) (p1 : Int32) (p2 : Int32) (o : Int32 × aH) (hf : fn_X11_marks h p0 p1 p2 = some o) : EvM l g d yX11_marks cX11_marks 3 (some .int) [.ref p0, .int p1, .int p2] h (some (.int o.1), o.2) := by
  refine EvM.of mk_X11_marks (Nat.le_of_ble_eq_true rfl) ?_
  intro Γ hl hg hq X
  have hd1 : 1 ≤ d := by omega
  have hk : RqI Γ o := hq
  unfold fn_X11_marks at hf
  show Jd Γ (0, 0) 0 [some (.ref p0), some (.int p1), some (.int p2)] [] h
  refine r_aload_n (pc := 0) X dX11_marks_0 rfl ?_
  refine r_bipush (pc := 1) X 109 dX11_marks_1 (by decide) ?_
  refine r_iload_n (pc := 3) X dX11_marks_3 rfl ?_
  refine r_iload_n (pc := 4) X dX11_marks_4 rfl ?_
  obtain ⟨u1, eu1, hf⟩ := ob hf
  obtain ⟨o2, eo2, hf⟩ := ob hf
  refine r_callVI (pc := 5) X [.int 109, .int p1, .int p2] dX11_marks_5 ml_X11_238 vo_X11_actThatCanBeUndone ⟨Nat.le_refl _, Nat.le_refl _⟩ eu1 (ev_X11_actThatCanBeUndone (d := d - 1) (by omega) _ _ _ _ _ _ eo2) hd1 rfl (Nat.le_of_ble_eq_true rfl) rfl ?_
  obtain rfl := Option.some.inj hf
  exact r_iret (pc := 8) X dX11_marks_8 hk
