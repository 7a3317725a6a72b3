theorem dX11_basin_0 : decode cX11_basin 0 = .ok (.aload_n 0, 1) := by decide +kernel
theorem dX11_basin_1 : decode cX11_basin 1 = .ok (.getfield 19, 3) := by decide +kernel
theorem dX11_basin_4 : decode cX11_basin 4 = .ok (.iload_n 1, 1) := by decide +kernel
theorem dX11_basin_5 : decode cX11_basin 5 = .ok (.invokevirtual 172, 3) := by decide +kernel
theorem dX11_basin_8 : decode cX11_basin 8 = .ok (.ifCond .eq 12, 3) := by decide +kernel
theorem dX11_basin_11 : decode cX11_basin 11 = .ok (.iload_n 2, 1) := by decide +kernel
theorem dX11_basin_12 : decode cX11_basin 12 = .ok (.ifCond .lt 8, 3) := by decide +kernel
theorem dX11_basin_15 : decode cX11_basin 15 = .ok (.iload_n 2, 1) := by decide +kernel
theorem dX11_basin_16 : decode cX11_basin 16 = .ok (.iconst 4, 1) := by decide +kernel
theorem dX11_basin_17 : decode cX11_basin 17 = .ok (.if_icmp .le 13, 3) := by decide +kernel
theorem dX11_basin_20 : decode cX11_basin 20 = .ok (.new 183, 3) := by decide +kernel
theorem dX11_basin_23 : decode cX11_basin 23 = .ok (.dup, 1) := by decide +kernel
theorem dX11_basin_24 : decode cX11_basin 24 = .ok (.ldc 185, 2) := by decide +kernel
theorem dX11_basin_26 : decode cX11_basin 26 = .ok (.invokespecial 187, 3) := by decide +kernel
theorem dX11_basin_29 : decode cX11_basin 29 = .ok (.athrow, 1) := by decide +kernel
theorem dX11_basin_30 : decode cX11_basin 30 = .ok (.iload_n 2, 1) := by decide +kernel
theorem dX11_basin_31 : decode cX11_basin 31 = .ok (.tableswitch 75 0 3 #[29, 39, 49, 66], 29) := by decide +kernel
theorem dX11_basin_60 : decode cX11_basin 60 = .ok (.aload_n 0, 1) := by decide +kernel
theorem dX11_basin_61 : decode cX11_basin 61 = .ok (.getfield 61, 3) := by decide +kernel
theorem dX11_basin_64 : decode cX11_basin 64 = .ok (.getfield 154, 3) := by decide +kernel
theorem dX11_basin_67 : decode cX11_basin 67 = .ok (.iload_n 1, 1) := by decide +kernel
theorem dX11_basin_68 : decode cX11_basin 68 = .ok (.iaload, 1) := by decide +kernel
theorem dX11_basin_69 : decode cX11_basin 69 = .ok (.ireturn, 1) := by decide +kernel
theorem dX11_basin_70 : decode cX11_basin 70 = .ok (.aload_n 0, 1) := by decide +kernel
theorem dX11_basin_71 : decode cX11_basin 71 = .ok (.getfield 61, 3) := by decide +kernel
theorem dX11_basin_74 : decode cX11_basin 74 = .ok (.getfield 157, 3) := by decide +kernel
theorem dX11_basin_77 : decode cX11_basin 77 = .ok (.iload_n 1, 1) := by decide +kernel
theorem dX11_basin_78 : decode cX11_basin 78 = .ok (.iaload, 1) := by decide +kernel
theorem dX11_basin_79 : decode cX11_basin 79 = .ok (.ireturn, 1) := by decide +kernel
theorem dX11_basin_80 : decode cX11_basin 80 = .ok (.aload_n 0, 1) := by decide +kernel
theorem dX11_basin_81 : decode cX11_basin 81 = .ok (.getfield 19, 3) := by decide +kernel
theorem dX11_basin_84 : decode cX11_basin 84 = .ok (.iload_n 1, 1) := by decide +kernel
theorem dX11_basin_85 : decode cX11_basin 85 = .ok (.invokevirtual 190, 3) := by decide +kernel
theorem dX11_basin_88 : decode cX11_basin 88 = .ok (.ifCond .eq 7, 3) := by decide +kernel
theorem dX11_basin_91 : decode cX11_basin 91 = .ok (.iconst 1, 1) := by decide +kernel
theorem dX11_basin_92 : decode cX11_basin 92 = .ok (.goto 4, 3) := by decide +kernel
theorem dX11_basin_95 : decode cX11_basin 95 = .ok (.iconst 0, 1) := by decide +kernel
theorem dX11_basin_96 : decode cX11_basin 96 = .ok (.ireturn, 1) := by decide +kernel
theorem dX11_basin_97 : decode cX11_basin 97 = .ok (.aload_n 0, 1) := by decide +kernel
theorem dX11_basin_98 : decode cX11_basin 98 = .ok (.getfield 19, 3) := by decide +kernel
theorem dX11_basin_101 : decode cX11_basin 101 = .ok (.iload_n 1, 1) := by decide +kernel
theorem dX11_basin_102 : decode cX11_basin 102 = .ok (.invokevirtual 193, 3) := by decide +kernel
theorem dX11_basin_105 : decode cX11_basin 105 = .ok (.ireturn, 1) := by decide +kernel
theorem dX11_basin_106 : decode cX11_basin 106 = .ok (.aload_n 0, 1) := by decide +kernel
theorem dX11_basin_107 : decode cX11_basin 107 = .ok (.getfield 19, 3) := by decide +kernel
theorem dX11_basin_110 : decode cX11_basin 110 = .ok (.iload_n 1, 1) := by decide +kernel
theorem dX11_basin_111 : decode cX11_basin 111 = .ok (.invokevirtual 196, 3) := by decide +kernel
theorem dX11_basin_114 : decode cX11_basin 114 = .ok (.ireturn, 1) := by decide +kernel
def fn_X11_basin (h : aH) (p0 : Nat) (p1 : Int32) (p2 : Int32) : Option (Option (Int32 × aH)) :=
  (gR h p0 10 1).bind fun a1 =>
  (ck h a1 0).bind fun u2 =>
  (fn_X0_hasBasin h a1 p1).bind fun x3 =>
  if x3 = 0 then
    some none
  else
    if p2 < 0 then
      some none
    else
      if p2 ≤ 4 then
        if p2 = 0 then
          (gR h p0 10 7).bind fun a5 =>
          (gR h a5 6 0).bind fun a6 =>
          (aI h a6 14 p1).bind fun x7 =>
          some (some (x7, h))
        else
        if p2 = 1 then
          (gR h p0 10 7).bind fun a9 =>
          (gR h a9 6 1).bind fun a10 =>
          (aI h a10 14 p1).bind fun x11 =>
          some (some (x11, h))
        else
        if p2 = 2 then
          (gR h p0 10 1).bind fun a13 =>
          (ck h a13 0).bind fun u14 =>
          (fn_X0_leaks h a13 p1).bind fun x15 =>
          if x15 = 0 then
            some (some (0, h))
          else
            some (some (1, h))
        else
        if p2 = 3 then
          (gR h p0 10 1).bind fun a18 =>
          (ck h a18 0).bind fun u19 =>
          (fn_X0_sluicesFrom h a18 p1).bind fun x20 =>
          some (some (x20, h))
        else
        (gR h p0 10 1).bind fun a21 =>
        (ck h a21 0).bind fun u22 =>
        (fn_X0_sluicesTo h a21 p1).bind fun x23 =>
        some (some (x23, h))
      else
        some none
set_option maxRecDepth 20000 in
set_option maxHeartbeats 4000000 in
theorem ev_X11_basin {l : Launch} {g : aG} {d : Nat} (hst : l.stackTraces = false) (hd : 6 ≤ d) (h : aH) (p0 : Nat) (p1 : Int32) (p2 : Int32) (o : Option (Int32 × aH)) (hf : fn_X11_basin h p0 p1 p2 = some o) : EvX l g d yX11_basin cX11_basin 3 (some .int) [.ref p0, .int p1, .int p2] h (o.map (fun q => (some (.int q.1), q.2))) := by
  refine EvX.of mk_X11_basin hst (Nat.le_of_ble_eq_true rfl) ?_
  intro Γ hl hg hq X
  have hd1 : 1 ≤ d := by omega
  have hd6 : 6 ≤ d := by omega
  have hk : RqXI Γ h o := hq
  unfold fn_X11_basin at hf
  show Jd Γ (0, 0) 0 [some (.ref p0), some (.int p1), some (.int p2)] [] h
  refine r_aload_n (pc := 0) X dX11_basin_0 rfl ?_
  obtain ⟨a1, ea1, hf⟩ := ob hf
  refine r_getR (pc := 1) X dX11_basin_1 fl_X11_19 rfl ea1 ?_
  refine r_iload_n (pc := 4) X dX11_basin_4 rfl ?_
  obtain ⟨u2, eu2, hf⟩ := ob hf
  obtain ⟨x3, ex3, hf⟩ := ob hf
  refine r_callVI (pc := 5) X [.int p1] dX11_basin_5 ml_X11_172 vo_X0_hasBasin ⟨Nat.zero_le _, Nat.zero_le _⟩ eu2 (ev_X0_hasBasin (d := d - 1) (by omega) _ _ _ _ ex3) hd1 rfl (Nat.le_of_ble_eq_true rfl) rfl ?_
  refine r_if_eq (pc := 8) X 20 dX11_basin_8 (by decide) (fun c26 => ?_) (fun c26 => ?_)
  · rw [if_pos c26] at hf
    obtain rfl := Option.some.inj hf
    exact r_throwS (pc := 20) X hd6 hk hk.2.2.1.2.2.1 dX11_basin_20 dX11_basin_23 dX11_basin_24 dX11_basin_26 dX11_basin_29
  · rw [if_neg c26] at hf
    refine r_iload_n (pc := 11) X dX11_basin_11 rfl ?_
    refine r_if_lt (pc := 12) X 20 dX11_basin_12 (by decide) (fun c25 => ?_) (fun c25 => ?_)
    · rw [if_pos c25] at hf
      obtain rfl := Option.some.inj hf
      exact r_throwS (pc := 20) X hd6 hk hk.2.2.1.2.2.1 dX11_basin_20 dX11_basin_23 dX11_basin_24 dX11_basin_26 dX11_basin_29
    · rw [if_neg c25] at hf
      refine r_iload_n (pc := 15) X dX11_basin_15 rfl ?_
      refine r_iconst (pc := 16) X 4 dX11_basin_16 (by decide) ?_
      refine r_icmp_le (pc := 17) X 30 dX11_basin_17 (by decide) (fun c24 => ?_) (fun c24 => ?_)
      · rw [if_pos c24] at hf
        refine r_iload_n (pc := 30) X dX11_basin_30 rfl ?_
        by_cases c4 : p2 = 0
        · rw [if_pos c4] at hf
          refine r_tableIn (pc := 31) X 60 dX11_basin_31 (by rw [c4] <;> decide) (by rw [c4] <;> decide) (by rw [c4] <;> rfl) (by decide) ?_
          refine r_aload_n (pc := 60) X dX11_basin_60 rfl ?_
          obtain ⟨a5, ea5, hf⟩ := ob hf
          refine r_getR (pc := 61) X dX11_basin_61 fl_X11_61 rfl ea5 ?_
          obtain ⟨a6, ea6, hf⟩ := ob hf
          refine r_getR (pc := 64) X dX11_basin_64 fl_X11_154 rfl ea6 ?_
          refine r_iload_n (pc := 67) X dX11_basin_67 rfl ?_
          obtain ⟨x7, ex7, hf⟩ := ob hf
          refine r_iald (pc := 68) X dX11_basin_68 ex7 ?_
          obtain rfl := Option.some.inj hf
          exact r_iretX (pc := 69) X dX11_basin_69 hk
        rw [if_neg c4] at hf
        by_cases c8 : p2 = 1
        · rw [if_pos c8] at hf
          refine r_tableIn (pc := 31) X 70 dX11_basin_31 (by rw [c8] <;> decide) (by rw [c8] <;> decide) (by rw [c8] <;> rfl) (by decide) ?_
          refine r_aload_n (pc := 70) X dX11_basin_70 rfl ?_
          obtain ⟨a9, ea9, hf⟩ := ob hf
          refine r_getR (pc := 71) X dX11_basin_71 fl_X11_61 rfl ea9 ?_
          obtain ⟨a10, ea10, hf⟩ := ob hf
          refine r_getR (pc := 74) X dX11_basin_74 fl_X11_157 rfl ea10 ?_
          refine r_iload_n (pc := 77) X dX11_basin_77 rfl ?_
          obtain ⟨x11, ex11, hf⟩ := ob hf
          refine r_iald (pc := 78) X dX11_basin_78 ex11 ?_
          obtain rfl := Option.some.inj hf
          exact r_iretX (pc := 79) X dX11_basin_79 hk
        rw [if_neg c8] at hf
        by_cases c12 : p2 = 2
        · rw [if_pos c12] at hf
          refine r_tableIn (pc := 31) X 80 dX11_basin_31 (by rw [c12] <;> decide) (by rw [c12] <;> decide) (by rw [c12] <;> rfl) (by decide) ?_
          refine r_aload_n (pc := 80) X dX11_basin_80 rfl ?_
          obtain ⟨a13, ea13, hf⟩ := ob hf
          refine r_getR (pc := 81) X dX11_basin_81 fl_X11_19 rfl ea13 ?_
          refine r_iload_n (pc := 84) X dX11_basin_84 rfl ?_
          obtain ⟨u14, eu14, hf⟩ := ob hf
          obtain ⟨x15, ex15, hf⟩ := ob hf
          refine r_callVI (pc := 85) X [.int p1] dX11_basin_85 ml_X11_190 vo_X0_leaks ⟨Nat.zero_le _, Nat.zero_le _⟩ eu14 (ev_X0_leaks (d := d - 1) (by omega) _ _ _ _ ex15) hd1 rfl (Nat.le_of_ble_eq_true rfl) rfl ?_
          refine r_if_eq (pc := 88) X 95 dX11_basin_88 (by decide) (fun c16 => ?_) (fun c16 => ?_)
          · rw [if_pos c16] at hf
            refine r_iconst (pc := 95) X 0 dX11_basin_95 (by decide) ?_
            obtain rfl := Option.some.inj hf
            exact r_iretX (pc := 96) X dX11_basin_96 hk
          · rw [if_neg c16] at hf
            refine r_iconst (pc := 91) X 1 dX11_basin_91 (by decide) ?_
            refine r_goto (pc := 92) X 96 dX11_basin_92 (by decide) ?_
            obtain rfl := Option.some.inj hf
            exact r_iretX (pc := 96) X dX11_basin_96 hk
        rw [if_neg c12] at hf
        by_cases c17 : p2 = 3
        · rw [if_pos c17] at hf
          refine r_tableIn (pc := 31) X 97 dX11_basin_31 (by rw [c17] <;> decide) (by rw [c17] <;> decide) (by rw [c17] <;> rfl) (by decide) ?_
          refine r_aload_n (pc := 97) X dX11_basin_97 rfl ?_
          obtain ⟨a18, ea18, hf⟩ := ob hf
          refine r_getR (pc := 98) X dX11_basin_98 fl_X11_19 rfl ea18 ?_
          refine r_iload_n (pc := 101) X dX11_basin_101 rfl ?_
          obtain ⟨u19, eu19, hf⟩ := ob hf
          obtain ⟨x20, ex20, hf⟩ := ob hf
          refine r_callVI (pc := 102) X [.int p1] dX11_basin_102 ml_X11_193 vo_X0_sluicesFrom ⟨Nat.zero_le _, Nat.zero_le _⟩ eu19 (ev_X0_sluicesFrom (d := d - 1) (by omega) _ _ _ _ ex20) hd1 rfl (Nat.le_of_ble_eq_true rfl) rfl ?_
          obtain rfl := Option.some.inj hf
          exact r_iretX (pc := 105) X dX11_basin_105 hk
        rw [if_neg c17] at hf
        have nc4 := lv_neT c4 (show (0 : Int32).toInt = 0 from by decide)
        have nc8 := lv_neT c8 (show (1 : Int32).toInt = 1 from by decide)
        have nc12 := lv_neT c12 (show (2 : Int32).toInt = 2 from by decide)
        have nc17 := lv_neT c17 (show (3 : Int32).toInt = 3 from by decide)
        refine r_tableOut (pc := 31) X 106 dX11_basin_31 (by omega) (by decide) ?_
        refine r_aload_n (pc := 106) X dX11_basin_106 rfl ?_
        obtain ⟨a21, ea21, hf⟩ := ob hf
        refine r_getR (pc := 107) X dX11_basin_107 fl_X11_19 rfl ea21 ?_
        refine r_iload_n (pc := 110) X dX11_basin_110 rfl ?_
        obtain ⟨u22, eu22, hf⟩ := ob hf
        obtain ⟨x23, ex23, hf⟩ := ob hf
        refine r_callVI (pc := 111) X [.int p1] dX11_basin_111 ml_X11_196 vo_X0_sluicesTo ⟨Nat.zero_le _, Nat.zero_le _⟩ eu22 (ev_X0_sluicesTo (d := d - 1) (by omega) _ _ _ _ ex23) hd1 rfl (Nat.le_of_ble_eq_true rfl) rfl ?_
        obtain rfl := Option.some.inj hf
        exact r_iretX (pc := 114) X dX11_basin_114 hk
      · rw [if_neg c24] at hf
        obtain rfl := Option.some.inj hf
        exact r_throwS (pc := 20) X hd6 hk hk.2.2.1.2.2.1 dX11_basin_20 dX11_basin_23 dX11_basin_24 dX11_basin_26 dX11_basin_29

theorem dX11_sluice_0 : decode cX11_sluice 0 = .ok (.aload_n 0, 1) := by decide +kernel
theorem dX11_sluice_1 : decode cX11_sluice 1 = .ok (.getfield 19, 3) := by decide +kernel
theorem dX11_sluice_4 : decode cX11_sluice 4 = .ok (.iload_n 1, 1) := by decide +kernel
theorem dX11_sluice_5 : decode cX11_sluice 5 = .ok (.invokevirtual 199, 3) := by decide +kernel
theorem dX11_sluice_8 : decode cX11_sluice 8 = .ok (.ifCond .eq 12, 3) := by decide +kernel
theorem dX11_sluice_11 : decode cX11_sluice 11 = .ok (.iload_n 2, 1) := by decide +kernel
theorem dX11_sluice_12 : decode cX11_sluice 12 = .ok (.ifCond .lt 8, 3) := by decide +kernel
theorem dX11_sluice_15 : decode cX11_sluice 15 = .ok (.iload_n 2, 1) := by decide +kernel
theorem dX11_sluice_16 : decode cX11_sluice 16 = .ok (.iconst 5, 1) := by decide +kernel
theorem dX11_sluice_17 : decode cX11_sluice 17 = .ok (.if_icmp .le 13, 3) := by decide +kernel
theorem dX11_sluice_20 : decode cX11_sluice 20 = .ok (.new 183, 3) := by decide +kernel
theorem dX11_sluice_23 : decode cX11_sluice 23 = .ok (.dup, 1) := by decide +kernel
theorem dX11_sluice_24 : decode cX11_sluice 24 = .ok (.ldc 202, 2) := by decide +kernel
theorem dX11_sluice_26 : decode cX11_sluice 26 = .ok (.invokespecial 187, 3) := by decide +kernel
theorem dX11_sluice_29 : decode cX11_sluice 29 = .ok (.athrow, 1) := by decide +kernel
theorem dX11_sluice_30 : decode cX11_sluice 30 = .ok (.iload_n 2, 1) := by decide +kernel
theorem dX11_sluice_31 : decode cX11_sluice 31 = .ok (.tableswitch 87 0 4 #[33, 43, 53, 63, 75], 33) := by decide +kernel
theorem dX11_sluice_64 : decode cX11_sluice 64 = .ok (.aload_n 0, 1) := by decide +kernel
theorem dX11_sluice_65 : decode cX11_sluice 65 = .ok (.getfield 19, 3) := by decide +kernel
theorem dX11_sluice_68 : decode cX11_sluice 68 = .ok (.getfield 204, 3) := by decide +kernel
theorem dX11_sluice_71 : decode cX11_sluice 71 = .ok (.iload_n 1, 1) := by decide +kernel
theorem dX11_sluice_72 : decode cX11_sluice 72 = .ok (.iaload, 1) := by decide +kernel
theorem dX11_sluice_73 : decode cX11_sluice 73 = .ok (.ireturn, 1) := by decide +kernel
theorem dX11_sluice_74 : decode cX11_sluice 74 = .ok (.aload_n 0, 1) := by decide +kernel
theorem dX11_sluice_75 : decode cX11_sluice 75 = .ok (.getfield 19, 3) := by decide +kernel
theorem dX11_sluice_78 : decode cX11_sluice 78 = .ok (.getfield 207, 3) := by decide +kernel
theorem dX11_sluice_81 : decode cX11_sluice 81 = .ok (.iload_n 1, 1) := by decide +kernel
theorem dX11_sluice_82 : decode cX11_sluice 82 = .ok (.iaload, 1) := by decide +kernel
theorem dX11_sluice_83 : decode cX11_sluice 83 = .ok (.ireturn, 1) := by decide +kernel
theorem dX11_sluice_84 : decode cX11_sluice 84 = .ok (.aload_n 0, 1) := by decide +kernel
theorem dX11_sluice_85 : decode cX11_sluice 85 = .ok (.getfield 19, 3) := by decide +kernel
theorem dX11_sluice_88 : decode cX11_sluice 88 = .ok (.getfield 210, 3) := by decide +kernel
theorem dX11_sluice_91 : decode cX11_sluice 91 = .ok (.iload_n 1, 1) := by decide +kernel
theorem dX11_sluice_92 : decode cX11_sluice 92 = .ok (.iaload, 1) := by decide +kernel
theorem dX11_sluice_93 : decode cX11_sluice 93 = .ok (.ireturn, 1) := by decide +kernel
theorem dX11_sluice_94 : decode cX11_sluice 94 = .ok (.aload_n 0, 1) := by decide +kernel
theorem dX11_sluice_95 : decode cX11_sluice 95 = .ok (.getfield 61, 3) := by decide +kernel
theorem dX11_sluice_98 : decode cX11_sluice 98 = .ok (.getfield 213, 3) := by decide +kernel
theorem dX11_sluice_101 : decode cX11_sluice 101 = .ok (.iload_n 1, 1) := by decide +kernel
theorem dX11_sluice_102 : decode cX11_sluice 102 = .ok (.ishr, 1) := by decide +kernel
theorem dX11_sluice_103 : decode cX11_sluice 103 = .ok (.iconst 1, 1) := by decide +kernel
theorem dX11_sluice_104 : decode cX11_sluice 104 = .ok (.iand, 1) := by decide +kernel
theorem dX11_sluice_105 : decode cX11_sluice 105 = .ok (.ireturn, 1) := by decide +kernel
theorem dX11_sluice_106 : decode cX11_sluice 106 = .ok (.aload_n 0, 1) := by decide +kernel
theorem dX11_sluice_107 : decode cX11_sluice 107 = .ok (.getfield 61, 3) := by decide +kernel
theorem dX11_sluice_110 : decode cX11_sluice 110 = .ok (.getfield 216, 3) := by decide +kernel
theorem dX11_sluice_113 : decode cX11_sluice 113 = .ok (.iload_n 1, 1) := by decide +kernel
theorem dX11_sluice_114 : decode cX11_sluice 114 = .ok (.ishr, 1) := by decide +kernel
theorem dX11_sluice_115 : decode cX11_sluice 115 = .ok (.iconst 1, 1) := by decide +kernel
theorem dX11_sluice_116 : decode cX11_sluice 116 = .ok (.iand, 1) := by decide +kernel
theorem dX11_sluice_117 : decode cX11_sluice 117 = .ok (.ireturn, 1) := by decide +kernel
theorem dX11_sluice_118 : decode cX11_sluice 118 = .ok (.aload_n 0, 1) := by decide +kernel
theorem dX11_sluice_119 : decode cX11_sluice 119 = .ok (.getfield 19, 3) := by decide +kernel
theorem dX11_sluice_122 : decode cX11_sluice 122 = .ok (.aload_n 0, 1) := by decide +kernel
theorem dX11_sluice_123 : decode cX11_sluice 123 = .ok (.getfield 61, 3) := by decide +kernel
theorem dX11_sluice_126 : decode cX11_sluice 126 = .ok (.aload_n 0, 1) := by decide +kernel
theorem dX11_sluice_127 : decode cX11_sluice 127 = .ok (.getfield 42, 3) := by decide +kernel
theorem dX11_sluice_130 : decode cX11_sluice 130 = .ok (.iload_n 1, 1) := by decide +kernel
theorem dX11_sluice_131 : decode cX11_sluice 131 = .ok (.invokevirtual 219, 3) := by decide +kernel
theorem dX11_sluice_134 : decode cX11_sluice 134 = .ok (.ireturn, 1) := by decide +kernel
def fn_X11_sluice (h : aH) (p0 : Nat) (p1 : Int32) (p2 : Int32) : Option (Option (Int32 × aH)) :=
  (gR h p0 10 1).bind fun a1 =>
  (ck h a1 0).bind fun u2 =>
  (fn_X0_hasSluice h a1 p1).bind fun x3 =>
  if x3 = 0 then
    some none
  else
    if p2 < 0 then
      some none
    else
      if p2 ≤ 5 then
        if p2 = 0 then
          (gR h p0 10 1).bind fun a5 =>
          (gR h a5 0 3).bind fun a6 =>
          (aI h a6 14 p1).bind fun x7 =>
          some (some (x7, h))
        else
        if p2 = 1 then
          (gR h p0 10 1).bind fun a9 =>
          (gR h a9 0 4).bind fun a10 =>
          (aI h a10 14 p1).bind fun x11 =>
          some (some (x11, h))
        else
        if p2 = 2 then
          (gR h p0 10 1).bind fun a13 =>
          (gR h a13 0 5).bind fun a14 =>
          (aI h a14 14 p1).bind fun x15 =>
          some (some (x15, h))
        else
        if p2 = 3 then
          (gR h p0 10 7).bind fun a17 =>
          (gI h a17 6 2).bind fun x18 =>
          some (some (((x18 >>> (p1 &&& 31)) &&& 1), h))
        else
        if p2 = 4 then
          (gR h p0 10 7).bind fun a20 =>
          (gI h a20 6 3).bind fun x21 =>
          some (some (((x21 >>> (p1 &&& 31)) &&& 1), h))
        else
        (gR h p0 10 1).bind fun a22 =>
        (gR h p0 10 7).bind fun a23 =>
        (gR h p0 10 4).bind fun a24 =>
        (ck h a22 0).bind fun u25 =>
        (fn_X0_flow h a22 a23 a24 p1).bind fun o26 =>
        some (some (o26.1, o26.2))
      else
        some none
set_option maxRecDepth 20000 in
set_option maxHeartbeats 4000000 in
theorem ev_X11_sluice {l : Launch} {g : aG} {d : Nat} (hst : l.stackTraces = false) (hd : 6 ≤ d) (h : aH) (p0 : Nat) (p1 : Int32) (p2 : Int32) (o : Option (Int32 × aH)) (hf : fn_X11_sluice h p0 p1 p2 = some o) : EvX l g d yX11_sluice cX11_sluice 3 (some .int) [.ref p0, .int p1, .int p2] h (o.map (fun q => (some (.int q.1), q.2))) := by
  refine EvX.of mk_X11_sluice hst (Nat.le_of_ble_eq_true rfl) ?_
  intro Γ hl hg hq X
  have hd1 : 1 ≤ d := by omega
  have hd6 : 6 ≤ d := by omega
  have hk : RqXI Γ h o := hq
  unfold fn_X11_sluice at hf
  show Jd Γ (0, 0) 0 [some (.ref p0), some (.int p1), some (.int p2)] [] h
  refine r_aload_n (pc := 0) X dX11_sluice_0 rfl ?_
  obtain ⟨a1, ea1, hf⟩ := ob hf
  refine r_getR (pc := 1) X dX11_sluice_1 fl_X11_19 rfl ea1 ?_
  refine r_iload_n (pc := 4) X dX11_sluice_4 rfl ?_
  obtain ⟨u2, eu2, hf⟩ := ob hf
  obtain ⟨x3, ex3, hf⟩ := ob hf
  refine r_callVI (pc := 5) X [.int p1] dX11_sluice_5 ml_X11_199 vo_X0_hasSluice ⟨Nat.zero_le _, Nat.zero_le _⟩ eu2 (ev_X0_hasSluice (d := d - 1) (by omega) _ _ _ _ ex3) hd1 rfl (Nat.le_of_ble_eq_true rfl) rfl ?_
  refine r_if_eq (pc := 8) X 20 dX11_sluice_8 (by decide) (fun c29 => ?_) (fun c29 => ?_)
  · rw [if_pos c29] at hf
    obtain rfl := Option.some.inj hf
    exact r_throwS (pc := 20) X hd6 hk hk.2.2.1.2.2.2.1 dX11_sluice_20 dX11_sluice_23 dX11_sluice_24 dX11_sluice_26 dX11_sluice_29
  · rw [if_neg c29] at hf
    refine r_iload_n (pc := 11) X dX11_sluice_11 rfl ?_
    refine r_if_lt (pc := 12) X 20 dX11_sluice_12 (by decide) (fun c28 => ?_) (fun c28 => ?_)
    · rw [if_pos c28] at hf
      obtain rfl := Option.some.inj hf
      exact r_throwS (pc := 20) X hd6 hk hk.2.2.1.2.2.2.1 dX11_sluice_20 dX11_sluice_23 dX11_sluice_24 dX11_sluice_26 dX11_sluice_29
    · rw [if_neg c28] at hf
      refine r_iload_n (pc := 15) X dX11_sluice_15 rfl ?_
      refine r_iconst (pc := 16) X 5 dX11_sluice_16 (by decide) ?_
      refine r_icmp_le (pc := 17) X 30 dX11_sluice_17 (by decide) (fun c27 => ?_) (fun c27 => ?_)
      · rw [if_pos c27] at hf
        refine r_iload_n (pc := 30) X dX11_sluice_30 rfl ?_
        by_cases c4 : p2 = 0
        · rw [if_pos c4] at hf
          refine r_tableIn (pc := 31) X 64 dX11_sluice_31 (by rw [c4] <;> decide) (by rw [c4] <;> decide) (by rw [c4] <;> rfl) (by decide) ?_
          refine r_aload_n (pc := 64) X dX11_sluice_64 rfl ?_
          obtain ⟨a5, ea5, hf⟩ := ob hf
          refine r_getR (pc := 65) X dX11_sluice_65 fl_X11_19 rfl ea5 ?_
          obtain ⟨a6, ea6, hf⟩ := ob hf
          refine r_getR (pc := 68) X dX11_sluice_68 fl_X11_204 rfl ea6 ?_
          refine r_iload_n (pc := 71) X dX11_sluice_71 rfl ?_
          obtain ⟨x7, ex7, hf⟩ := ob hf
          refine r_iald (pc := 72) X dX11_sluice_72 ex7 ?_
          obtain rfl := Option.some.inj hf
          exact r_iretX (pc := 73) X dX11_sluice_73 hk
        rw [if_neg c4] at hf
        by_cases c8 : p2 = 1
        · rw [if_pos c8] at hf
          refine r_tableIn (pc := 31) X 74 dX11_sluice_31 (by rw [c8] <;> decide) (by rw [c8] <;> decide) (by rw [c8] <;> rfl) (by decide) ?_
          refine r_aload_n (pc := 74) X dX11_sluice_74 rfl ?_
          obtain ⟨a9, ea9, hf⟩ := ob hf
          refine r_getR (pc := 75) X dX11_sluice_75 fl_X11_19 rfl ea9 ?_
          obtain ⟨a10, ea10, hf⟩ := ob hf
          refine r_getR (pc := 78) X dX11_sluice_78 fl_X11_207 rfl ea10 ?_
          refine r_iload_n (pc := 81) X dX11_sluice_81 rfl ?_
          obtain ⟨x11, ex11, hf⟩ := ob hf
          refine r_iald (pc := 82) X dX11_sluice_82 ex11 ?_
          obtain rfl := Option.some.inj hf
          exact r_iretX (pc := 83) X dX11_sluice_83 hk
        rw [if_neg c8] at hf
        by_cases c12 : p2 = 2
        · rw [if_pos c12] at hf
          refine r_tableIn (pc := 31) X 84 dX11_sluice_31 (by rw [c12] <;> decide) (by rw [c12] <;> decide) (by rw [c12] <;> rfl) (by decide) ?_
          refine r_aload_n (pc := 84) X dX11_sluice_84 rfl ?_
          obtain ⟨a13, ea13, hf⟩ := ob hf
          refine r_getR (pc := 85) X dX11_sluice_85 fl_X11_19 rfl ea13 ?_
          obtain ⟨a14, ea14, hf⟩ := ob hf
          refine r_getR (pc := 88) X dX11_sluice_88 fl_X11_210 rfl ea14 ?_
          refine r_iload_n (pc := 91) X dX11_sluice_91 rfl ?_
          obtain ⟨x15, ex15, hf⟩ := ob hf
          refine r_iald (pc := 92) X dX11_sluice_92 ex15 ?_
          obtain rfl := Option.some.inj hf
          exact r_iretX (pc := 93) X dX11_sluice_93 hk
        rw [if_neg c12] at hf
        by_cases c16 : p2 = 3
        · rw [if_pos c16] at hf
          refine r_tableIn (pc := 31) X 94 dX11_sluice_31 (by rw [c16] <;> decide) (by rw [c16] <;> decide) (by rw [c16] <;> rfl) (by decide) ?_
          refine r_aload_n (pc := 94) X dX11_sluice_94 rfl ?_
          obtain ⟨a17, ea17, hf⟩ := ob hf
          refine r_getR (pc := 95) X dX11_sluice_95 fl_X11_61 rfl ea17 ?_
          obtain ⟨x18, ex18, hf⟩ := ob hf
          refine r_getI (pc := 98) X dX11_sluice_98 fl_X11_213 rfl ex18 ?_
          refine r_iload_n (pc := 101) X dX11_sluice_101 rfl ?_
          refine r_ishr (pc := 102) X dX11_sluice_102 ?_
          refine r_iconst (pc := 103) X 1 dX11_sluice_103 (by decide) ?_
          refine r_iand (pc := 104) X dX11_sluice_104 ?_
          obtain rfl := Option.some.inj hf
          exact r_iretX (pc := 105) X dX11_sluice_105 hk
        rw [if_neg c16] at hf
        by_cases c19 : p2 = 4
        · rw [if_pos c19] at hf
          refine r_tableIn (pc := 31) X 106 dX11_sluice_31 (by rw [c19] <;> decide) (by rw [c19] <;> decide) (by rw [c19] <;> rfl) (by decide) ?_
          refine r_aload_n (pc := 106) X dX11_sluice_106 rfl ?_
          obtain ⟨a20, ea20, hf⟩ := ob hf
          refine r_getR (pc := 107) X dX11_sluice_107 fl_X11_61 rfl ea20 ?_
          obtain ⟨x21, ex21, hf⟩ := ob hf
          refine r_getI (pc := 110) X dX11_sluice_110 fl_X11_216 rfl ex21 ?_
          refine r_iload_n (pc := 113) X dX11_sluice_113 rfl ?_
          refine r_ishr (pc := 114) X dX11_sluice_114 ?_
          refine r_iconst (pc := 115) X 1 dX11_sluice_115 (by decide) ?_
          refine r_iand (pc := 116) X dX11_sluice_116 ?_
          obtain rfl := Option.some.inj hf
          exact r_iretX (pc := 117) X dX11_sluice_117 hk
        rw [if_neg c19] at hf
        have nc4 := lv_neT c4 (show (0 : Int32).toInt = 0 from by decide)
        have nc8 := lv_neT c8 (show (1 : Int32).toInt = 1 from by decide)
        have nc12 := lv_neT c12 (show (2 : Int32).toInt = 2 from by decide)
        have nc16 := lv_neT c16 (show (3 : Int32).toInt = 3 from by decide)
        have nc19 := lv_neT c19 (show (4 : Int32).toInt = 4 from by decide)
        refine r_tableOut (pc := 31) X 118 dX11_sluice_31 (by omega) (by decide) ?_
        refine r_aload_n (pc := 118) X dX11_sluice_118 rfl ?_
        obtain ⟨a22, ea22, hf⟩ := ob hf
        refine r_getR (pc := 119) X dX11_sluice_119 fl_X11_19 rfl ea22 ?_
        refine r_aload_n (pc := 122) X dX11_sluice_122 rfl ?_
        obtain ⟨a23, ea23, hf⟩ := ob hf
        refine r_getR (pc := 123) X dX11_sluice_123 fl_X11_61 rfl ea23 ?_
        refine r_aload_n (pc := 126) X dX11_sluice_126 rfl ?_
        obtain ⟨a24, ea24, hf⟩ := ob hf
        refine r_getR (pc := 127) X dX11_sluice_127 fl_X11_42 rfl ea24 ?_
        refine r_iload_n (pc := 130) X dX11_sluice_130 rfl ?_
        obtain ⟨u25, eu25, hf⟩ := ob hf
        obtain ⟨o26, eo26, hf⟩ := ob hf
        refine r_callVI (pc := 131) X [.ref a23, .ref a24, .int p1] dX11_sluice_131 ml_X11_219 vo_X0_flow ⟨Nat.zero_le _, Nat.zero_le _⟩ eu25 (ev_X0_flow (d := d - 1) (by omega) _ _ _ _ _ _ eo26) hd1 rfl (Nat.le_of_ble_eq_true rfl) rfl ?_
        obtain rfl := Option.some.inj hf
        exact r_iretX (pc := 134) X dX11_sluice_134 hk
      · rw [if_neg c27] at hf
        obtain rfl := Option.some.inj hf
        exact r_throwS (pc := 20) X hd6 hk hk.2.2.1.2.2.2.1 dX11_sluice_20 dX11_sluice_23 dX11_sluice_24 dX11_sluice_26 dX11_sluice_29

theorem dX11_row_0 : decode cX11_row 0 = .ok (.iload_n 1, 1) := by decide +kernel
theorem dX11_row_1 : decode cX11_row 1 = .ok (.ifCond .lt 14, 3) := by decide +kernel
theorem dX11_row_4 : decode cX11_row 4 = .ok (.iload_n 1, 1) := by decide +kernel
theorem dX11_row_5 : decode cX11_row 5 = .ok (.aload_n 0, 1) := by decide +kernel
theorem dX11_row_6 : decode cX11_row 6 = .ok (.getfield 81, 3) := by decide +kernel
theorem dX11_row_9 : decode cX11_row 9 = .ok (.getfield 490, 3) := by decide +kernel
theorem dX11_row_12 : decode cX11_row 12 = .ok (.if_icmp .lt 14, 3) := by decide +kernel
theorem dX11_row_15 : decode cX11_row 15 = .ok (.new 183, 3) := by decide +kernel
theorem dX11_row_18 : decode cX11_row 18 = .ok (.dup, 1) := by decide +kernel
theorem dX11_row_19 : decode cX11_row 19 = .ok (.ldc_w 491, 3) := by decide +kernel
theorem dX11_row_22 : decode cX11_row 22 = .ok (.invokespecial 187, 3) := by decide +kernel
theorem dX11_row_25 : decode cX11_row 25 = .ok (.athrow, 1) := by decide +kernel
theorem dX11_row_26 : decode cX11_row 26 = .ok (.aload_n 0, 1) := by decide +kernel
theorem dX11_row_27 : decode cX11_row 27 = .ok (.getfield 81, 3) := by decide +kernel
theorem dX11_row_30 : decode cX11_row 30 = .ok (.getfield 493, 3) := by decide +kernel
theorem dX11_row_33 : decode cX11_row 33 = .ok (.iload_n 1, 1) := by decide +kernel
theorem dX11_row_34 : decode cX11_row 34 = .ok (.laload, 1) := by decide +kernel
theorem dX11_row_35 : decode cX11_row 35 = .ok (.lreturn, 1) := by decide +kernel
def fn_X11_row (h : aH) (p0 : Nat) (p1 : Int32) : Option (Option (Int64 × aH)) :=
  if p1 < 0 then
    some none
  else
    (gR h p0 10 11).bind fun a1 =>
    (gI h a1 2 1).bind fun x2 =>
    if p1 < x2 then
      (gR h p0 10 11).bind fun a3 =>
      (gR h a3 2 0).bind fun a4 =>
      (aJ h a4 p1).bind fun y5 =>
      some (some (y5, h))
    else
      some none
set_option maxRecDepth 20000 in
set_option maxHeartbeats 4000000 in
theorem ev_X11_row {l : Launch} {g : aG} {d : Nat} (hst : l.stackTraces = false) (hd : 6 ≤ d) (h : aH) (p0 : Nat) (p1 : Int32) (o : Option (Int64 × aH)) (hf : fn_X11_row h p0 p1 = some o) : EvX l g d yX11_row cX11_row 2 (some .long) [.ref p0, .int p1] h (o.map (fun q => (some (.long q.1), q.2))) := by
  refine EvX.of mk_X11_row hst (Nat.le_of_ble_eq_true rfl) ?_
  intro Γ hl hg hq X
  have hd1 : 1 ≤ d := by omega
  have hd6 : 6 ≤ d := by omega
  have hk : RqXJ Γ h o := hq
  unfold fn_X11_row at hf
  show Jd Γ (0, 0) 0 [some (.ref p0), some (.int p1)] [] h
  refine r_iload_n (pc := 0) X dX11_row_0 rfl ?_
  refine r_if_lt (pc := 1) X 15 dX11_row_1 (by decide) (fun c7 => ?_) (fun c7 => ?_)
  · rw [if_pos c7] at hf
    obtain rfl := Option.some.inj hf
    exact r_throwSW (pc := 15) X hd6 hk hk.2.2.1.2.2.2.2 dX11_row_15 dX11_row_18 dX11_row_19 dX11_row_22 dX11_row_25
  · rw [if_neg c7] at hf
    refine r_iload_n (pc := 4) X dX11_row_4 rfl ?_
    refine r_aload_n (pc := 5) X dX11_row_5 rfl ?_
    obtain ⟨a1, ea1, hf⟩ := ob hf
    refine r_getR (pc := 6) X dX11_row_6 fl_X11_81 rfl ea1 ?_
    obtain ⟨x2, ex2, hf⟩ := ob hf
    refine r_getI (pc := 9) X dX11_row_9 fl_X11_490 rfl ex2 ?_
    refine r_icmp_lt (pc := 12) X 26 dX11_row_12 (by decide) (fun c6 => ?_) (fun c6 => ?_)
    · rw [if_pos c6] at hf
      refine r_aload_n (pc := 26) X dX11_row_26 rfl ?_
      obtain ⟨a3, ea3, hf⟩ := ob hf
      refine r_getR (pc := 27) X dX11_row_27 fl_X11_81 rfl ea3 ?_
      obtain ⟨a4, ea4, hf⟩ := ob hf
      refine r_getR (pc := 30) X dX11_row_30 fl_X11_493 rfl ea4 ?_
      refine r_iload_n (pc := 33) X dX11_row_33 rfl ?_
      obtain ⟨y5, ey5, hf⟩ := ob hf
      refine r_lald (pc := 34) X dX11_row_34 ey5 ?_
      obtain rfl := Option.some.inj hf
      exact r_lretX (pc := 35) X dX11_row_35 hk
    · rw [if_neg c6] at hf
      obtain rfl := Option.some.inj hf
      exact r_throwSW (pc := 15) X hd6 hk hk.2.2.1.2.2.2.2 dX11_row_15 dX11_row_18 dX11_row_19 dX11_row_22 dX11_row_25
