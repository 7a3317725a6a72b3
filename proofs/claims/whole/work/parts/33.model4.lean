theorem dX12_levelBy_0 : decode cX12_levelBy 0 = .ok (.aload_n 0, 1) := by decide +kernel
theorem dX12_levelBy_1 : decode cX12_levelBy 1 = .ok (.iload_n 1, 1) := by decide +kernel
theorem dX12_levelBy_2 : decode cX12_levelBy 2 = .ok (.invokevirtual 344, 3) := by decide +kernel
theorem dX12_levelBy_5 : decode cX12_levelBy 5 = .ok (.aload_n 0, 1) := by decide +kernel
theorem dX12_levelBy_6 : decode cX12_levelBy 6 = .ok (.aload_n 0, 1) := by decide +kernel
theorem dX12_levelBy_7 : decode cX12_levelBy 7 = .ok (.getfield 48, 3) := by decide +kernel
theorem dX12_levelBy_10 : decode cX12_levelBy 10 = .ok (.iload_n 3, 1) := by decide +kernel
theorem dX12_levelBy_11 : decode cX12_levelBy 11 = .ok (.invokevirtual 267, 3) := by decide +kernel
theorem dX12_levelBy_14 : decode cX12_levelBy 14 = .ok (.aload_n 0, 1) := by decide +kernel
theorem dX12_levelBy_15 : decode cX12_levelBy 15 = .ok (.getfield 48, 3) := by decide +kernel
theorem dX12_levelBy_18 : decode cX12_levelBy 18 = .ok (.iload_n 2, 1) := by decide +kernel
theorem dX12_levelBy_19 : decode cX12_levelBy 19 = .ok (.iaload, 1) := by decide +kernel
theorem dX12_levelBy_20 : decode cX12_levelBy 20 = .ok (.ireturn, 1) := by decide +kernel
def fn_X12_levelBy (h : aH) (p0 : Nat) (p1 : Int32) (p2 : Int32) (p3 : Int32) : Option (Int32 × aH) :=
  (ck h p0 11).bind fun u1 =>
  (fn_X12_beginStuck h p0 p1).bind fun h2 =>
  (gR h2 p0 11 26).bind fun a3 =>
  (ck h2 p0 11).bind fun u4 =>
  (fn_X12_goHours h2 p0 a3 p3).bind fun h5 =>
  (gR h5 p0 11 26).bind fun a6 =>
  (aI h5 a6 14 p2).bind fun x7 =>
  some (x7, h5)
set_option maxRecDepth 20000 in
set_option maxHeartbeats 4000000 in
theorem ev_X12_levelBy {l : Launch} {g : aG} {d : Nat} (hd : 247 ≤ d) (h : aH) (p0 : Nat) (p1 : Int32) (p2 : Int32) (p3 : Int32) (o : Int32 × aH) (hf : fn_X12_levelBy h p0 p1 p2 p3 = some o) : EvM l g d yX12_levelBy cX12_levelBy 4 (some .int) [.ref p0, .int p1, .int p2, .int p3] h (some (.int o.1), o.2) := by
  refine EvM.of mk_X12_levelBy (Nat.le_of_ble_eq_true rfl) ?_
  intro Γ hl hg hq X
  have hd1 : 1 ≤ d := by omega
  have hk : RqI Γ o := hq
  unfold fn_X12_levelBy at hf
  show Jd Γ (0, 0) 0 [some (.ref p0), some (.int p1), some (.int p2), some (.int p3)] [] h
  refine r_aload_n (pc := 0) X dX12_levelBy_0 rfl ?_
  refine r_iload_n (pc := 1) X dX12_levelBy_1 rfl ?_
  obtain ⟨u1, eu1, hf⟩ := ob hf
  obtain ⟨h2, eh2, hf⟩ := ob hf
  refine r_callVV (pc := 2) X [.int p1] dX12_levelBy_2 ml_X12_344 vo_X12_beginStuck ⟨Nat.le_refl _, Nat.le_refl _⟩ eu1 (ev_X12_beginStuck (d := d - 1) (by omega) _ _ _ _ eh2) hd1 rfl (Nat.le_of_ble_eq_true rfl) rfl ?_
  refine r_aload_n (pc := 5) X dX12_levelBy_5 rfl ?_
  refine r_aload_n (pc := 6) X dX12_levelBy_6 rfl ?_
  obtain ⟨a3, ea3, hf⟩ := ob hf
  refine r_getR (pc := 7) X dX12_levelBy_7 fl_X12_48 rfl ea3 ?_
  refine r_iload_n (pc := 10) X dX12_levelBy_10 rfl ?_
  obtain ⟨u4, eu4, hf⟩ := ob hf
  obtain ⟨h5, eh5, hf⟩ := ob hf
  refine r_callVV (pc := 11) X [.ref a3, .int p3] dX12_levelBy_11 ml_X12_267 vo_X12_goHours ⟨Nat.le_refl _, Nat.le_refl _⟩ eu4 (ev_X12_goHours (d := d - 1) (by omega) _ _ _ _ _ eh5) hd1 rfl (Nat.le_of_ble_eq_true rfl) rfl ?_
  refine r_aload_n (pc := 14) X dX12_levelBy_14 rfl ?_
  obtain ⟨a6, ea6, hf⟩ := ob hf
  refine r_getR (pc := 15) X dX12_levelBy_15 fl_X12_48 rfl ea6 ?_
  refine r_iload_n (pc := 18) X dX12_levelBy_18 rfl ?_
  obtain ⟨x7, ex7, hf⟩ := ob hf
  refine r_iald (pc := 19) X dX12_levelBy_19 ex7 ?_
  obtain rfl := Option.some.inj hf
  exact r_iret (pc := 20) X dX12_levelBy_20 hk

theorem dX12_needs_0 : decode cX12_needs 0 = .ok (.aload_n 0, 1) := by decide +kernel
theorem dX12_needs_1 : decode cX12_needs 1 = .ok (.iconst 0, 1) := by decide +kernel
theorem dX12_needs_2 : decode cX12_needs 2 = .ok (.putfield 100, 3) := by decide +kernel
theorem dX12_needs_5 : decode cX12_needs 5 = .ok (.aload_n 0, 1) := by decide +kernel
theorem dX12_needs_6 : decode cX12_needs 6 = .ok (.iload_n 1, 1) := by decide +kernel
theorem dX12_needs_7 : decode cX12_needs 7 = .ok (.invokevirtual 114, 3) := by decide +kernel
theorem dX12_needs_10 : decode cX12_needs 10 = .ok (.ifCond .eq 10, 3) := by decide +kernel
theorem dX12_needs_13 : decode cX12_needs 13 = .ok (.iload_n 2, 1) := by decide +kernel
theorem dX12_needs_14 : decode cX12_needs 14 = .ok (.invokestatic 321, 3) := by decide +kernel
theorem dX12_needs_17 : decode cX12_needs 17 = .ok (.ifCond .ne 5, 3) := by decide +kernel
theorem dX12_needs_20 : decode cX12_needs 20 = .ok (.iconst (-1), 1) := by decide +kernel
theorem dX12_needs_21 : decode cX12_needs 21 = .ok (.ireturn, 1) := by decide +kernel
theorem dX12_needs_22 : decode cX12_needs 22 = .ok (.aload_n 0, 1) := by decide +kernel
theorem dX12_needs_23 : decode cX12_needs 23 = .ok (.iconst (-1), 1) := by decide +kernel
theorem dX12_needs_24 : decode cX12_needs 24 = .ok (.iload_n 1, 1) := by decide +kernel
theorem dX12_needs_25 : decode cX12_needs 25 = .ok (.iload_n 2, 1) := by decide +kernel
theorem dX12_needs_26 : decode cX12_needs 26 = .ok (.invokevirtual 357, 3) := by decide +kernel
theorem dX12_needs_29 : decode cX12_needs 29 = .ok (.istore_n 3, 1) := by decide +kernel
theorem dX12_needs_30 : decode cX12_needs 30 = .ok (.iconst 0, 1) := by decide +kernel
theorem dX12_needs_31 : decode cX12_needs 31 = .ok (.istore 4, 2) := by decide +kernel
theorem dX12_needs_33 : decode cX12_needs 33 = .ok (.iconst 0, 1) := by decide +kernel
theorem dX12_needs_34 : decode cX12_needs 34 = .ok (.istore 5, 2) := by decide +kernel
theorem dX12_needs_36 : decode cX12_needs 36 = .ok (.iload 5, 2) := by decide +kernel
theorem dX12_needs_38 : decode cX12_needs 38 = .ok (.aload_n 0, 1) := by decide +kernel
theorem dX12_needs_39 : decode cX12_needs 39 = .ok (.getfield 118, 3) := by decide +kernel
theorem dX12_needs_42 : decode cX12_needs 42 = .ok (.if_icmp .ge 49, 3) := by decide +kernel
theorem dX12_needs_45 : decode cX12_needs 45 = .ok (.iload 4, 2) := by decide +kernel
theorem dX12_needs_47 : decode cX12_needs 47 = .ok (.aload_n 0, 1) := by decide +kernel
theorem dX12_needs_48 : decode cX12_needs 48 = .ok (.getfield 9, 3) := by decide +kernel
theorem dX12_needs_51 : decode cX12_needs 51 = .ok (.bipush 13, 2) := by decide +kernel
theorem dX12_needs_53 : decode cX12_needs 53 = .ok (.iaload, 1) := by decide +kernel
theorem dX12_needs_54 : decode cX12_needs 54 = .ok (.iload 5, 2) := by decide +kernel
theorem dX12_needs_56 : decode cX12_needs 56 = .ok (.invokestatic 252, 3) := by decide +kernel
theorem dX12_needs_59 : decode cX12_needs 59 = .ok (.ifCond .ne 22, 3) := by decide +kernel
theorem dX12_needs_62 : decode cX12_needs 62 = .ok (.aload_n 0, 1) := by decide +kernel
theorem dX12_needs_63 : decode cX12_needs 63 = .ok (.iload 5, 2) := by decide +kernel
theorem dX12_needs_65 : decode cX12_needs 65 = .ok (.iload_n 1, 1) := by decide +kernel
theorem dX12_needs_66 : decode cX12_needs 66 = .ok (.iload_n 2, 1) := by decide +kernel
theorem dX12_needs_67 : decode cX12_needs 67 = .ok (.invokevirtual 357, 3) := by decide +kernel
theorem dX12_needs_70 : decode cX12_needs 70 = .ok (.iload_n 3, 1) := by decide +kernel
theorem dX12_needs_71 : decode cX12_needs 71 = .ok (.if_icmp .eq 10, 3) := by decide +kernel
theorem dX12_needs_74 : decode cX12_needs 74 = .ok (.iconst 1, 1) := by decide +kernel
theorem dX12_needs_75 : decode cX12_needs 75 = .ok (.iload 5, 2) := by decide +kernel
theorem dX12_needs_77 : decode cX12_needs 77 = .ok (.ishl, 1) := by decide +kernel
theorem dX12_needs_78 : decode cX12_needs 78 = .ok (.goto 4, 3) := by decide +kernel
theorem dX12_needs_81 : decode cX12_needs 81 = .ok (.iconst 0, 1) := by decide +kernel
theorem dX12_needs_82 : decode cX12_needs 82 = .ok (.ior, 1) := by decide +kernel
theorem dX12_needs_83 : decode cX12_needs 83 = .ok (.istore 4, 2) := by decide +kernel
theorem dX12_needs_85 : decode cX12_needs 85 = .ok (.iinc 5 1, 3) := by decide +kernel
theorem dX12_needs_88 : decode cX12_needs 88 = .ok (.goto (-52), 3) := by decide +kernel
theorem dX12_needs_91 : decode cX12_needs 91 = .ok (.aload_n 0, 1) := by decide +kernel
theorem dX12_needs_92 : decode cX12_needs 92 = .ok (.iconst 0, 1) := by decide +kernel
theorem dX12_needs_93 : decode cX12_needs 93 = .ok (.putfield 104, 3) := by decide +kernel
theorem dX12_needs_96 : decode cX12_needs 96 = .ok (.aload_n 0, 1) := by decide +kernel
theorem dX12_needs_97 : decode cX12_needs 97 = .ok (.iload 4, 2) := by decide +kernel
theorem dX12_needs_99 : decode cX12_needs 99 = .ok (.invokestatic 332, 3) := by decide +kernel
theorem dX12_needs_102 : decode cX12_needs 102 = .ok (.i2l, 1) := by decide +kernel
theorem dX12_needs_103 : decode cX12_needs 103 = .ok (.invokevirtual 274, 3) := by decide +kernel
theorem dX12_needs_106 : decode cX12_needs 106 = .ok (.iload 4, 2) := by decide +kernel
theorem dX12_needs_108 : decode cX12_needs 108 = .ok (.ireturn, 1) := by decide +kernel
def lb_X12_needs_36 (v0 : Nat) (v1 : Int32) (v2 : Int32) (v3 : Int32) (s : Int32 × Int32 × aH) : Option ((Int32 × Int32 × aH) ⊕ ((Int32 × aH))) :=
  (gI s.2.2 v0 11 2).bind fun x7 =>
  if s.2.1 < x7 then
    (gR s.2.2 v0 11 0).bind fun a8 =>
    (aI s.2.2 a8 14 13).bind fun x9 =>
    (fn_X12_has s.2.2 x9 s.2.1).bind fun x10 =>
    if x10 = 0 then
      (ck s.2.2 v0 11).bind fun u13 =>
      (fn_X12_levelBy s.2.2 v0 s.2.1 v1 v2).bind fun o14 =>
      if o14.1 = v3 then
        (some (s.1 ||| 0)).bind fun x15 =>
        (some (s.2.1 + 1)).bind fun x16 =>
        some (.inl (x15, x16, o14.2))
      else
        (some (s.1 ||| (1 <<< (s.2.1 &&& 31)))).bind fun x17 =>
        (some (s.2.1 + 1)).bind fun x18 =>
        some (.inl (x17, x18, o14.2))
    else
      (some (s.1 ||| 0)).bind fun x11 =>
      (some (s.2.1 + 1)).bind fun x12 =>
      some (.inl (x11, x12, s.2.2))
  else
    some (.inr (s.1, s.2.2))
def hd_X12_needs_36 (Γ : aC) (v0 : Nat) (v1 : Int32) (v2 : Int32) (v3 : Int32) (s : Int32 × Int32 × aH) : Prop := Jd Γ (0, 0) 36 [some (.ref v0), some (.int v1), some (.int v2), some (.int v3), some (.int s.1), some (.int s.2.1)] [] s.2.2
def ex_X12_needs_36 (Γ : aC) (v0 : Nat) (v1 : Int32) (v2 : Int32) (v3 : Int32) (r : (Int32 × aH)) : Prop := (fun r => ∀ (j5 : Option Value), Jd Γ (0, 0) 91 [some (.ref v0), some (.int v1), some (.int v2), some (.int v3), some (.int r.1), j5] [] r.2) r
set_option maxRecDepth 20000 in
set_option maxHeartbeats 4000000 in
theorem lw_X12_needs_36 {Γ : aC} {d : Nat} (X : Cx Γ RX12 cX12_needs 6 (some .int) (d, 0, 0)) (hd : 248 ≤ d) (v0 : Nat) (v1 : Int32) (v2 : Int32) (v3 : Int32) : ∀ n s o, lp (lb_X12_needs_36 v0 v1 v2 v3) n s = some o → ex_X12_needs_36 Γ v0 v1 v2 v3 o → hd_X12_needs_36 Γ v0 v1 v2 v3 s := by
  have hd1 : 1 ≤ d := by omega
  refine J_lp _ _ _ ?_
  intro s o hf hk
  unfold lb_X12_needs_36 at hf
  refine r_iload (pc := 36) X dX12_needs_36 rfl ?_
  refine r_aload_n (pc := 38) X dX12_needs_38 rfl ?_
  obtain ⟨x7, ex7, hf⟩ := ob hf
  refine r_getI (pc := 39) X dX12_needs_39 fl_X12_118 rfl ex7 ?_
  refine r_icmp_ge (pc := 42) X 91 dX12_needs_42 (by decide) (fun c21 => ?_) (fun c21 => ?_)
  · rw [if_neg c21] at hf
    obtain rfl := Option.some.inj hf
    exact hk _
  · rw [if_pos c21] at hf
    refine r_iload (pc := 45) X dX12_needs_45 rfl ?_
    refine r_aload_n (pc := 47) X dX12_needs_47 rfl ?_
    obtain ⟨a8, ea8, hf⟩ := ob hf
    refine r_getR (pc := 48) X dX12_needs_48 fl_X12_9 rfl ea8 ?_
    refine r_bipush (pc := 51) X 13 dX12_needs_51 (by decide) ?_
    obtain ⟨x9, ex9, hf⟩ := ob hf
    refine r_iald (pc := 53) X dX12_needs_53 ex9 ?_
    refine r_iload (pc := 54) X dX12_needs_54 rfl ?_
    obtain ⟨x10, ex10, hf⟩ := ob hf
    refine r_callSI (pc := 56) X [.int x9, .int s.2.1] dX12_needs_56 ml_X12_252 so_X12_has ⟨Nat.le_refl _, Nat.le_refl _⟩ (ev_X12_has (d := d - 1) (by omega) _ _ _ _ ex10) hd1 rfl (Nat.le_of_ble_eq_true rfl) rfl ?_
    refine r_if_ne (pc := 59) X 81 dX12_needs_59 (by decide) (fun c20 => ?_) (fun c20 => ?_)
    · rw [if_neg c20] at hf
      refine r_iconst (pc := 81) X 0 dX12_needs_81 (by decide) ?_
      refine r_ior (pc := 82) X dX12_needs_82 ?_
      obtain ⟨x11, ex11, hf⟩ := ob hf
      refine r_nmI ex11 ?_
      refine r_istore (pc := 83) X [some (.ref v0), some (.int v1), some (.int v2), some (.int v3), some (.int x11), some (.int s.2.1)] dX12_needs_83 (by decide) rfl ?_
      obtain ⟨x12, ex12, hf⟩ := ob hf
      refine r_iinc2 (pc := 85) X 1 [some (.ref v0), some (.int v1), some (.int v2), some (.int v3), some (.int x11), some (.int x12)] dX12_needs_85 (by decide) rfl (by decide) ex12 rfl ?_
      refine r_goto (pc := 88) X 36 dX12_needs_88 (by decide) ?_
      obtain rfl := Option.some.inj hf
      exact hk
    · rw [if_pos c20] at hf
      refine r_aload_n (pc := 62) X dX12_needs_62 rfl ?_
      refine r_iload (pc := 63) X dX12_needs_63 rfl ?_
      refine r_iload_n (pc := 65) X dX12_needs_65 rfl ?_
      refine r_iload_n (pc := 66) X dX12_needs_66 rfl ?_
      obtain ⟨u13, eu13, hf⟩ := ob hf
      obtain ⟨o14, eo14, hf⟩ := ob hf
      refine r_callVI (pc := 67) X [.int s.2.1, .int v1, .int v2] dX12_needs_67 ml_X12_357 vo_X12_levelBy ⟨Nat.le_refl _, Nat.le_refl _⟩ eu13 (ev_X12_levelBy (d := d - 1) (by omega) _ _ _ _ _ _ eo14) hd1 rfl (Nat.le_of_ble_eq_true rfl) rfl ?_
      refine r_iload_n (pc := 70) X dX12_needs_70 rfl ?_
      refine r_icmp_eq (pc := 71) X 81 dX12_needs_71 (by decide) (fun c19 => ?_) (fun c19 => ?_)
      · rw [if_pos c19] at hf
        refine r_iconst (pc := 81) X 0 dX12_needs_81 (by decide) ?_
        refine r_ior (pc := 82) X dX12_needs_82 ?_
        obtain ⟨x15, ex15, hf⟩ := ob hf
        refine r_nmI ex15 ?_
        refine r_istore (pc := 83) X [some (.ref v0), some (.int v1), some (.int v2), some (.int v3), some (.int x15), some (.int s.2.1)] dX12_needs_83 (by decide) rfl ?_
        obtain ⟨x16, ex16, hf⟩ := ob hf
        refine r_iinc2 (pc := 85) X 1 [some (.ref v0), some (.int v1), some (.int v2), some (.int v3), some (.int x15), some (.int x16)] dX12_needs_85 (by decide) rfl (by decide) ex16 rfl ?_
        refine r_goto (pc := 88) X 36 dX12_needs_88 (by decide) ?_
        obtain rfl := Option.some.inj hf
        exact hk
      · rw [if_neg c19] at hf
        refine r_iconst (pc := 74) X 1 dX12_needs_74 (by decide) ?_
        refine r_iload (pc := 75) X dX12_needs_75 rfl ?_
        refine r_ishl (pc := 77) X dX12_needs_77 ?_
        refine r_goto (pc := 78) X 82 dX12_needs_78 (by decide) ?_
        refine r_ior (pc := 82) X dX12_needs_82 ?_
        obtain ⟨x17, ex17, hf⟩ := ob hf
        refine r_nmI ex17 ?_
        refine r_istore (pc := 83) X [some (.ref v0), some (.int v1), some (.int v2), some (.int v3), some (.int x17), some (.int s.2.1)] dX12_needs_83 (by decide) rfl ?_
        obtain ⟨x18, ex18, hf⟩ := ob hf
        refine r_iinc2 (pc := 85) X 1 [some (.ref v0), some (.int v1), some (.int v2), some (.int v3), some (.int x17), some (.int x18)] dX12_needs_85 (by decide) rfl (by decide) ex18 rfl ?_
        refine r_goto (pc := 88) X 36 dX12_needs_88 (by decide) ?_
        obtain rfl := Option.some.inj hf
        exact hk
def fn_X12_needs (h : aH) (p0 : Nat) (p1 : Int32) (p2 : Int32) : Option (Int32 × aH) :=
  (pI h p0 11 11 0).bind fun h1 =>
  (ck h1 p0 11).bind fun u2 =>
  (fn_X12_isBasin h1 p0 p1).bind fun x3 =>
  if x3 = 0 then
    some ((-1), h1)
  else
    (fn_X12_isSoon h1 p2).bind fun x4 =>
    if x4 = 0 then
      some ((-1), h1)
    else
      (ck h1 p0 11).bind fun u5 =>
      (fn_X12_levelBy h1 p0 (-1) p1 p2).bind fun o6 =>
      (lp (lb_X12_needs_36 p0 p1 p2 o6.1) lpN (0, 0, o6.2)).bind fun o22 =>
      (pI o22.2 p0 11 10 0).bind fun h24 =>
      (fn_J6_bitCount_0f7a4 h24 o22.1).bind fun x25 =>
      (ck h24 p0 11).bind fun u26 =>
      (fn_X12_tell h24 p0 (Int32.toInt64 x25)).bind fun h27 =>
      some (o22.1, h27)
set_option maxRecDepth 20000 in
set_option maxHeartbeats 4000000 in
theorem ev_X12_needs {l : Launch} {g : aG} {d : Nat} (hd : 248 ≤ d) (h : aH) (p0 : Nat) (p1 : Int32) (p2 : Int32) (o : Int32 × aH) (hf : fn_X12_needs h p0 p1 p2 = some o) : EvM l g d yX12_needs cX12_needs 6 (some .int) [.ref p0, .int p1, .int p2] h (some (.int o.1), o.2) := by
  refine EvM.of mk_X12_needs (Nat.le_of_ble_eq_true rfl) ?_
  intro Γ hl hg hq X
  have hd1 : 1 ≤ d := by omega
  have hk : RqI Γ o := hq
  unfold fn_X12_needs at hf
  show Jd Γ (0, 0) 0 [some (.ref p0), some (.int p1), some (.int p2), none, none, none] [] h
  refine r_aload_n (pc := 0) X dX12_needs_0 rfl ?_
  refine r_iconst (pc := 1) X 0 dX12_needs_1 (by decide) ?_
  obtain ⟨h1, eh1, hf⟩ := ob hf
  refine r_putI (pc := 2) X dX12_needs_2 fp_X12_100 rfl eh1 ?_
  refine r_aload_n (pc := 5) X dX12_needs_5 rfl ?_
  refine r_iload_n (pc := 6) X dX12_needs_6 rfl ?_
  obtain ⟨u2, eu2, hf⟩ := ob hf
  obtain ⟨x3, ex3, hf⟩ := ob hf
  refine r_callVI (pc := 7) X [.int p1] dX12_needs_7 ml_X12_114 vo_X12_isBasin ⟨Nat.le_refl _, Nat.le_refl _⟩ eu2 (ev_X12_isBasin (d := d - 1) (by omega) _ _ _ _ ex3) hd1 rfl (Nat.le_of_ble_eq_true rfl) rfl ?_
  refine r_if_eq (pc := 10) X 20 dX12_needs_10 (by decide) (fun c29 => ?_) (fun c29 => ?_)
  · rw [if_pos c29] at hf
    refine r_iconst (pc := 20) X (-1) dX12_needs_20 (by decide) ?_
    obtain rfl := Option.some.inj hf
    exact r_iret (pc := 21) X dX12_needs_21 hk
  · rw [if_neg c29] at hf
    refine r_iload_n (pc := 13) X dX12_needs_13 rfl ?_
    obtain ⟨x4, ex4, hf⟩ := ob hf
    refine r_callSI (pc := 14) X [.int p2] dX12_needs_14 ml_X12_321 so_X12_isSoon ⟨Nat.le_refl _, Nat.le_refl _⟩ (ev_X12_isSoon (d := d - 1) (by omega) _ _ _ ex4) hd1 rfl (Nat.le_of_ble_eq_true rfl) rfl ?_
    refine r_if_ne (pc := 17) X 22 dX12_needs_17 (by decide) (fun c28 => ?_) (fun c28 => ?_)
    · rw [if_neg c28] at hf
      refine r_aload_n (pc := 22) X dX12_needs_22 rfl ?_
      refine r_iconst (pc := 23) X (-1) dX12_needs_23 (by decide) ?_
      refine r_iload_n (pc := 24) X dX12_needs_24 rfl ?_
      refine r_iload_n (pc := 25) X dX12_needs_25 rfl ?_
      obtain ⟨u5, eu5, hf⟩ := ob hf
      obtain ⟨o6, eo6, hf⟩ := ob hf
      refine r_callVI (pc := 26) X [.int (-1), .int p1, .int p2] dX12_needs_26 ml_X12_357 vo_X12_levelBy ⟨Nat.le_refl _, Nat.le_refl _⟩ eu5 (ev_X12_levelBy (d := d - 1) (by omega) _ _ _ _ _ _ eo6) hd1 rfl (Nat.le_of_ble_eq_true rfl) rfl ?_
      refine r_istore_n (pc := 29) X [some (.ref p0), some (.int p1), some (.int p2), some (.int o6.1), none, none] dX12_needs_29 (by decide) rfl ?_
      refine r_iconst (pc := 30) X 0 dX12_needs_30 (by decide) ?_
      refine r_istore (pc := 31) X [some (.ref p0), some (.int p1), some (.int p2), some (.int o6.1), some (.int 0), none] dX12_needs_31 (by decide) rfl ?_
      refine r_iconst (pc := 33) X 0 dX12_needs_33 (by decide) ?_
      refine r_istore (pc := 34) X [some (.ref p0), some (.int p1), some (.int p2), some (.int o6.1), some (.int 0), some (.int 0)] dX12_needs_34 (by decide) rfl ?_
      obtain ⟨o22, eo22, hf⟩ := ob hf
      refine (lw_X12_needs_36 X hd _ _ _ _ lpN _ o22 eo22 ?_)
      intro j23
      refine r_aload_n (pc := 91) X dX12_needs_91 rfl ?_
      refine r_iconst (pc := 92) X 0 dX12_needs_92 (by decide) ?_
      obtain ⟨h24, eh24, hf⟩ := ob hf
      refine r_putI (pc := 93) X dX12_needs_93 fp_X12_104 rfl eh24 ?_
      refine r_aload_n (pc := 96) X dX12_needs_96 rfl ?_
      refine r_iload (pc := 97) X dX12_needs_97 rfl ?_
      obtain ⟨x25, ex25, hf⟩ := ob hf
      refine r_callSI (pc := 99) X [.int o22.1] dX12_needs_99 ml_X12_332 so_J6_bitCount_0f7a4 ⟨Nat.le_refl _, Nat.le_refl _⟩ (ev_J6_bitCount_0f7a4 (d := d - 1) (by omega) _ _ _ ex25) hd1 rfl (Nat.le_of_ble_eq_true rfl) rfl ?_
      refine r_i2l (pc := 102) X dX12_needs_102 ?_
      obtain ⟨u26, eu26, hf⟩ := ob hf
      obtain ⟨h27, eh27, hf⟩ := ob hf
      refine r_callVV (pc := 103) X [.long (Int32.toInt64 x25)] dX12_needs_103 ml_X12_274 vo_X12_tell ⟨Nat.le_refl _, Nat.le_refl _⟩ eu26 (ev_X12_tell (d := d - 1) (by omega) _ _ _ _ eh27) hd1 rfl (Nat.le_of_ble_eq_true rfl) rfl ?_
      refine r_iload (pc := 106) X dX12_needs_106 rfl ?_
      obtain rfl := Option.some.inj hf
      exact r_iret (pc := 108) X dX12_needs_108 hk
    · rw [if_pos c28] at hf
      refine r_iconst (pc := 20) X (-1) dX12_needs_20 (by decide) ?_
      obtain rfl := Option.some.inj hf
      exact r_iret (pc := 21) X dX12_needs_21 hk

theorem dX12_isFree_0 : decode cX12_isFree 0 = .ok (.aload_n 0, 1) := by decide +kernel
theorem dX12_isFree_1 : decode cX12_isFree 1 = .ok (.getfield 9, 3) := by decide +kernel
theorem dX12_isFree_4 : decode cX12_isFree 4 = .ok (.bipush 13, 2) := by decide +kernel
theorem dX12_isFree_6 : decode cX12_isFree 6 = .ok (.iaload, 1) := by decide +kernel
theorem dX12_isFree_7 : decode cX12_isFree 7 = .ok (.iload_n 2, 1) := by decide +kernel
theorem dX12_isFree_8 : decode cX12_isFree 8 = .ok (.ior, 1) := by decide +kernel
theorem dX12_isFree_9 : decode cX12_isFree 9 = .ok (.iload_n 1, 1) := by decide +kernel
theorem dX12_isFree_10 : decode cX12_isFree 10 = .ok (.invokestatic 252, 3) := by decide +kernel
theorem dX12_isFree_13 : decode cX12_isFree 13 = .ok (.ifCond .ne 7, 3) := by decide +kernel
theorem dX12_isFree_16 : decode cX12_isFree 16 = .ok (.iconst 1, 1) := by decide +kernel
theorem dX12_isFree_17 : decode cX12_isFree 17 = .ok (.goto 4, 3) := by decide +kernel
theorem dX12_isFree_20 : decode cX12_isFree 20 = .ok (.iconst 0, 1) := by decide +kernel
theorem dX12_isFree_21 : decode cX12_isFree 21 = .ok (.ireturn, 1) := by decide +kernel
def fn_X12_isFree (h : aH) (p0 : Nat) (p1 : Int32) (p2 : Int32) : Option (Int32) :=
  (gR h p0 11 0).bind fun a1 =>
  (aI h a1 14 13).bind fun x2 =>
  (fn_X12_has h (x2 ||| p2) p1).bind fun x3 =>
  if x3 = 0 then
    some 1
  else
    some 0
set_option maxRecDepth 20000 in
set_option maxHeartbeats 4000000 in
theorem ev_X12_isFree {l : Launch} {g : aG} {d : Nat} (hd : 1 ≤ d) (h : aH) (p0 : Nat) (p1 : Int32) (p2 : Int32) (o : Int32) (hf : fn_X12_isFree h p0 p1 p2 = some o) : EvM l g d yX12_isFree cX12_isFree 3 (some .boolean) [.ref p0, .int p1, .int p2] h (some (.int o), h) := by
  refine EvM.of mk_X12_isFree (Nat.le_of_ble_eq_true rfl) ?_
  intro Γ hl hg hq X
  have hd1 : 1 ≤ d := by omega
  have hk : RpI h Γ o := hq
  unfold fn_X12_isFree at hf
  show Jd Γ (0, 0) 0 [some (.ref p0), some (.int p1), some (.int p2)] [] h
  refine r_aload_n (pc := 0) X dX12_isFree_0 rfl ?_
  obtain ⟨a1, ea1, hf⟩ := ob hf
  refine r_getR (pc := 1) X dX12_isFree_1 fl_X12_9 rfl ea1 ?_
  refine r_bipush (pc := 4) X 13 dX12_isFree_4 (by decide) ?_
  obtain ⟨x2, ex2, hf⟩ := ob hf
  refine r_iald (pc := 6) X dX12_isFree_6 ex2 ?_
  refine r_iload_n (pc := 7) X dX12_isFree_7 rfl ?_
  refine r_ior (pc := 8) X dX12_isFree_8 ?_
  refine r_iload_n (pc := 9) X dX12_isFree_9 rfl ?_
  obtain ⟨x3, ex3, hf⟩ := ob hf
  refine r_callSI (pc := 10) X [.int (x2 ||| p2), .int p1] dX12_isFree_10 ml_X12_252 so_X12_has ⟨Nat.le_refl _, Nat.le_refl _⟩ (ev_X12_has (d := d - 1) (by omega) _ _ _ _ ex3) hd1 rfl (Nat.le_of_ble_eq_true rfl) rfl ?_
  refine r_if_ne (pc := 13) X 20 dX12_isFree_13 (by decide) (fun c4 => ?_) (fun c4 => ?_)
  · rw [if_neg c4] at hf
    refine r_iconst (pc := 20) X 0 dX12_isFree_20 (by decide) ?_
    obtain rfl := Option.some.inj hf
    exact r_zret (pc := 21) X dX12_isFree_21 (Or.inl rfl) hk
  · rw [if_pos c4] at hf
    refine r_iconst (pc := 16) X 1 dX12_isFree_16 (by decide) ?_
    refine r_goto (pc := 17) X 21 dX12_isFree_17 (by decide) ?_
    obtain rfl := Option.some.inj hf
    exact r_zret (pc := 21) X dX12_isFree_21 (Or.inr rfl) hk

theorem dX12_reachOf_0 : decode cX12_reachOf 0 = .ok (.iconst 1, 1) := by decide +kernel
theorem dX12_reachOf_1 : decode cX12_reachOf 1 = .ok (.iload_n 1, 1) := by decide +kernel
theorem dX12_reachOf_2 : decode cX12_reachOf 2 = .ok (.ishl, 1) := by decide +kernel
theorem dX12_reachOf_3 : decode cX12_reachOf 3 = .ok (.istore_n 3, 1) := by decide +kernel
theorem dX12_reachOf_4 : decode cX12_reachOf 4 = .ok (.iconst 0, 1) := by decide +kernel
theorem dX12_reachOf_5 : decode cX12_reachOf 5 = .ok (.istore 4, 2) := by decide +kernel
theorem dX12_reachOf_7 : decode cX12_reachOf 7 = .ok (.iload 4, 2) := by decide +kernel
theorem dX12_reachOf_9 : decode cX12_reachOf 9 = .ok (.aload_n 0, 1) := by decide +kernel
theorem dX12_reachOf_10 : decode cX12_reachOf 10 = .ok (.getfield 107, 3) := by decide +kernel
theorem dX12_reachOf_13 : decode cX12_reachOf 13 = .ok (.if_icmp .ge 63, 3) := by decide +kernel
theorem dX12_reachOf_16 : decode cX12_reachOf 16 = .ok (.iconst 0, 1) := by decide +kernel
theorem dX12_reachOf_17 : decode cX12_reachOf 17 = .ok (.istore 5, 2) := by decide +kernel
theorem dX12_reachOf_19 : decode cX12_reachOf 19 = .ok (.iload 5, 2) := by decide +kernel
theorem dX12_reachOf_21 : decode cX12_reachOf 21 = .ok (.aload_n 0, 1) := by decide +kernel
theorem dX12_reachOf_22 : decode cX12_reachOf 22 = .ok (.getfield 118, 3) := by decide +kernel
theorem dX12_reachOf_25 : decode cX12_reachOf 25 = .ok (.if_icmp .ge 45, 3) := by decide +kernel
theorem dX12_reachOf_28 : decode cX12_reachOf 28 = .ok (.aload_n 0, 1) := by decide +kernel
theorem dX12_reachOf_29 : decode cX12_reachOf 29 = .ok (.iload 5, 2) := by decide +kernel
theorem dX12_reachOf_31 : decode cX12_reachOf 31 = .ok (.iload_n 2, 1) := by decide +kernel
theorem dX12_reachOf_32 : decode cX12_reachOf 32 = .ok (.invokevirtual 360, 3) := by decide +kernel
theorem dX12_reachOf_35 : decode cX12_reachOf 35 = .ok (.ifCond .eq 29, 3) := by decide +kernel
theorem dX12_reachOf_38 : decode cX12_reachOf 38 = .ok (.iload_n 3, 1) := by decide +kernel
theorem dX12_reachOf_39 : decode cX12_reachOf 39 = .ok (.aload_n 0, 1) := by decide +kernel
theorem dX12_reachOf_40 : decode cX12_reachOf 40 = .ok (.getfield 13, 3) := by decide +kernel
theorem dX12_reachOf_43 : decode cX12_reachOf 43 = .ok (.iload 5, 2) := by decide +kernel
theorem dX12_reachOf_45 : decode cX12_reachOf 45 = .ok (.iaload, 1) := by decide +kernel
theorem dX12_reachOf_46 : decode cX12_reachOf 46 = .ok (.invokestatic 252, 3) := by decide +kernel
theorem dX12_reachOf_49 : decode cX12_reachOf 49 = .ok (.ifCond .eq 15, 3) := by decide +kernel
theorem dX12_reachOf_52 : decode cX12_reachOf 52 = .ok (.iload_n 3, 1) := by decide +kernel
theorem dX12_reachOf_53 : decode cX12_reachOf 53 = .ok (.iconst 1, 1) := by decide +kernel
theorem dX12_reachOf_54 : decode cX12_reachOf 54 = .ok (.aload_n 0, 1) := by decide +kernel
theorem dX12_reachOf_55 : decode cX12_reachOf 55 = .ok (.getfield 16, 3) := by decide +kernel
theorem dX12_reachOf_58 : decode cX12_reachOf 58 = .ok (.iload 5, 2) := by decide +kernel
theorem dX12_reachOf_60 : decode cX12_reachOf 60 = .ok (.iaload, 1) := by decide +kernel
theorem dX12_reachOf_61 : decode cX12_reachOf 61 = .ok (.ishl, 1) := by decide +kernel
theorem dX12_reachOf_62 : decode cX12_reachOf 62 = .ok (.ior, 1) := by decide +kernel
theorem dX12_reachOf_63 : decode cX12_reachOf 63 = .ok (.istore_n 3, 1) := by decide +kernel
theorem dX12_reachOf_64 : decode cX12_reachOf 64 = .ok (.iinc 5 1, 3) := by decide +kernel
theorem dX12_reachOf_67 : decode cX12_reachOf 67 = .ok (.goto (-48), 3) := by decide +kernel
theorem dX12_reachOf_70 : decode cX12_reachOf 70 = .ok (.iinc 4 1, 3) := by decide +kernel
theorem dX12_reachOf_73 : decode cX12_reachOf 73 = .ok (.goto (-66), 3) := by decide +kernel
theorem dX12_reachOf_76 : decode cX12_reachOf 76 = .ok (.iload_n 3, 1) := by decide +kernel
theorem dX12_reachOf_77 : decode cX12_reachOf 77 = .ok (.ireturn, 1) := by decide +kernel
def lb_X12_reachOf_19 (hh : aH) (v0 : Nat) (v2 : Int32) (v4 : Int32) (s : Int32 × Int32) : Option ((Int32 × Int32) ⊕ ((Int32))) :=
  (gI hh v0 11 2).bind fun x3 =>
  if s.2 < x3 then
    (ck hh v0 11).bind fun u4 =>
    (fn_X12_isFree hh v0 s.2 v2).bind fun x5 =>
    if x5 = 0 then
      (some (s.2 + 1)).bind fun x6 =>
      some (.inl (s.1, x6))
    else
      (gR hh v0 11 4).bind fun a7 =>
      (aI hh a7 14 s.2).bind fun x8 =>
      (fn_X12_has hh s.1 x8).bind fun x9 =>
      if x9 = 0 then
        (some (s.2 + 1)).bind fun x10 =>
        some (.inl (s.1, x10))
      else
        (gR hh v0 11 5).bind fun a11 =>
        (aI hh a11 14 s.2).bind fun x12 =>
        (some (s.1 ||| (1 <<< (x12 &&& 31)))).bind fun x13 =>
        (some (s.2 + 1)).bind fun x14 =>
        some (.inl (x13, x14))
  else
    some (.inr s.1)
def hd_X12_reachOf_19 (Γ : aC) (hh : aH) (v0 : Nat) (v2 : Int32) (v4 : Int32) (s : Int32 × Int32) : Prop := ∀ (j1 : Option Value), Jd Γ (0, 0) 19 [some (.ref v0), j1, some (.int v2), some (.int s.1), some (.int v4), some (.int s.2)] [] hh
def ex_X12_reachOf_19 (Γ : aC) (hh : aH) (v0 : Nat) (v2 : Int32) (v4 : Int32) (r : (Int32)) : Prop := (fun r => ∀ (j1 : Option Value) (j5 : Option Value), Jd Γ (0, 0) 70 [some (.ref v0), j1, some (.int v2), some (.int r), some (.int v4), j5] [] hh) r
set_option maxRecDepth 20000 in
set_option maxHeartbeats 4000000 in
theorem lw_X12_reachOf_19 {Γ : aC} {d : Nat} (X : Cx Γ RX12 cX12_reachOf 6 (some .int) (d, 0, 0)) (hd : 2 ≤ d) (hh : aH) (v0 : Nat) (v2 : Int32) (v4 : Int32) : ∀ n s o, lp (lb_X12_reachOf_19 hh v0 v2 v4) n s = some o → ex_X12_reachOf_19 Γ hh v0 v2 v4 o → hd_X12_reachOf_19 Γ hh v0 v2 v4 s := by
  have hd1 : 1 ≤ d := by omega
  refine J_lp _ _ _ ?_
  intro s o hf hk j1
  unfold lb_X12_reachOf_19 at hf
  refine r_iload (pc := 19) X dX12_reachOf_19 rfl ?_
  refine r_aload_n (pc := 21) X dX12_reachOf_21 rfl ?_
  obtain ⟨x3, ex3, hf⟩ := ob hf
  refine r_getI (pc := 22) X dX12_reachOf_22 fl_X12_118 rfl ex3 ?_
  refine r_icmp_ge (pc := 25) X 70 dX12_reachOf_25 (by decide) (fun c17 => ?_) (fun c17 => ?_)
  · rw [if_neg c17] at hf
    obtain rfl := Option.some.inj hf
    exact hk _ _
  · rw [if_pos c17] at hf
    refine r_aload_n (pc := 28) X dX12_reachOf_28 rfl ?_
    refine r_iload (pc := 29) X dX12_reachOf_29 rfl ?_
    refine r_iload_n (pc := 31) X dX12_reachOf_31 rfl ?_
    obtain ⟨u4, eu4, hf⟩ := ob hf
    obtain ⟨x5, ex5, hf⟩ := ob hf
    refine r_callVI (pc := 32) X [.int s.2, .int v2] dX12_reachOf_32 ml_X12_360 vo_X12_isFree ⟨Nat.le_refl _, Nat.le_refl _⟩ eu4 (ev_X12_isFree (d := d - 1) (by omega) _ _ _ _ _ ex5) hd1 rfl (Nat.le_of_ble_eq_true rfl) rfl ?_
    refine r_if_eq (pc := 35) X 64 dX12_reachOf_35 (by decide) (fun c16 => ?_) (fun c16 => ?_)
    · rw [if_pos c16] at hf
      obtain ⟨x6, ex6, hf⟩ := ob hf
      refine r_iinc2 (pc := 64) X 1 [some (.ref v0), j1, some (.int v2), some (.int s.1), some (.int v4), some (.int x6)] dX12_reachOf_64 (by decide) rfl (by decide) ex6 rfl ?_
      refine r_goto (pc := 67) X 19 dX12_reachOf_67 (by decide) ?_
      obtain rfl := Option.some.inj hf
      exact hk _
    · rw [if_neg c16] at hf
      refine r_iload_n (pc := 38) X dX12_reachOf_38 rfl ?_
      refine r_aload_n (pc := 39) X dX12_reachOf_39 rfl ?_
      obtain ⟨a7, ea7, hf⟩ := ob hf
      refine r_getR (pc := 40) X dX12_reachOf_40 fl_X12_13 rfl ea7 ?_
      refine r_iload (pc := 43) X dX12_reachOf_43 rfl ?_
      obtain ⟨x8, ex8, hf⟩ := ob hf
      refine r_iald (pc := 45) X dX12_reachOf_45 ex8 ?_
      obtain ⟨x9, ex9, hf⟩ := ob hf
      refine r_callSI (pc := 46) X [.int s.1, .int x8] dX12_reachOf_46 ml_X12_252 so_X12_has ⟨Nat.le_refl _, Nat.le_refl _⟩ (ev_X12_has (d := d - 1) (by omega) _ _ _ _ ex9) hd1 rfl (Nat.le_of_ble_eq_true rfl) rfl ?_
      refine r_if_eq (pc := 49) X 64 dX12_reachOf_49 (by decide) (fun c15 => ?_) (fun c15 => ?_)
      · rw [if_pos c15] at hf
        obtain ⟨x10, ex10, hf⟩ := ob hf
        refine r_iinc2 (pc := 64) X 1 [some (.ref v0), j1, some (.int v2), some (.int s.1), some (.int v4), some (.int x10)] dX12_reachOf_64 (by decide) rfl (by decide) ex10 rfl ?_
        refine r_goto (pc := 67) X 19 dX12_reachOf_67 (by decide) ?_
        obtain rfl := Option.some.inj hf
        exact hk _
      · rw [if_neg c15] at hf
        refine r_iload_n (pc := 52) X dX12_reachOf_52 rfl ?_
        refine r_iconst (pc := 53) X 1 dX12_reachOf_53 (by decide) ?_
        refine r_aload_n (pc := 54) X dX12_reachOf_54 rfl ?_
        obtain ⟨a11, ea11, hf⟩ := ob hf
        refine r_getR (pc := 55) X dX12_reachOf_55 fl_X12_16 rfl ea11 ?_
        refine r_iload (pc := 58) X dX12_reachOf_58 rfl ?_
        obtain ⟨x12, ex12, hf⟩ := ob hf
        refine r_iald (pc := 60) X dX12_reachOf_60 ex12 ?_
        refine r_ishl (pc := 61) X dX12_reachOf_61 ?_
        refine r_ior (pc := 62) X dX12_reachOf_62 ?_
        obtain ⟨x13, ex13, hf⟩ := ob hf
        refine r_nmI ex13 ?_
        refine r_istore_n (pc := 63) X [some (.ref v0), j1, some (.int v2), some (.int x13), some (.int v4), some (.int s.2)] dX12_reachOf_63 (by decide) rfl ?_
        obtain ⟨x14, ex14, hf⟩ := ob hf
        refine r_iinc2 (pc := 64) X 1 [some (.ref v0), j1, some (.int v2), some (.int x13), some (.int v4), some (.int x14)] dX12_reachOf_64 (by decide) rfl (by decide) ex14 rfl ?_
        refine r_goto (pc := 67) X 19 dX12_reachOf_67 (by decide) ?_
        obtain rfl := Option.some.inj hf
        exact hk _
def lb_X12_reachOf_7 (hh : aH) (v0 : Nat) (v2 : Int32) (s : Int32 × Int32) : Option ((Int32 × Int32) ⊕ ((Int32))) :=
  (gI hh v0 11 1).bind fun x2 =>
  if s.2 < x2 then
    (lp (lb_X12_reachOf_19 hh v0 v2 s.2) lpN (s.1, 0)).bind fun o18 =>
    (some (s.2 + 1)).bind fun x21 =>
    some (.inl (o18, x21))
  else
    some (.inr s.1)
def hd_X12_reachOf_7 (Γ : aC) (hh : aH) (v0 : Nat) (v2 : Int32) (s : Int32 × Int32) : Prop := ∀ (j1 : Option Value) (j5 : Option Value), Jd Γ (0, 0) 7 [some (.ref v0), j1, some (.int v2), some (.int s.1), some (.int s.2), j5] [] hh
def ex_X12_reachOf_7 (Γ : aC) (hh : aH) (v0 : Nat) (v2 : Int32) (r : (Int32)) : Prop := (fun r => RpI hh Γ r) r
set_option maxRecDepth 20000 in
set_option maxHeartbeats 4000000 in
theorem lw_X12_reachOf_7 {Γ : aC} {d : Nat} (X : Cx Γ RX12 cX12_reachOf 6 (some .int) (d, 0, 0)) (hd : 2 ≤ d) (hh : aH) (v0 : Nat) (v2 : Int32) : ∀ n s o, lp (lb_X12_reachOf_7 hh v0 v2) n s = some o → ex_X12_reachOf_7 Γ hh v0 v2 o → hd_X12_reachOf_7 Γ hh v0 v2 s := by
  have hd1 : 1 ≤ d := by omega
  refine J_lp _ _ _ ?_
  intro s o hf hk j1 j5
  unfold lb_X12_reachOf_7 at hf
  refine r_iload (pc := 7) X dX12_reachOf_7 rfl ?_
  refine r_aload_n (pc := 9) X dX12_reachOf_9 rfl ?_
  obtain ⟨x2, ex2, hf⟩ := ob hf
  refine r_getI (pc := 10) X dX12_reachOf_10 fl_X12_107 rfl ex2 ?_
  refine r_icmp_ge (pc := 13) X 76 dX12_reachOf_13 (by decide) (fun c22 => ?_) (fun c22 => ?_)
  · rw [if_neg c22] at hf
    refine r_iload_n (pc := 76) X dX12_reachOf_76 rfl ?_
    obtain rfl := Option.some.inj hf
    exact r_iret (pc := 77) X dX12_reachOf_77 hk
  · rw [if_pos c22] at hf
    refine r_iconst (pc := 16) X 0 dX12_reachOf_16 (by decide) ?_
    refine r_istore (pc := 17) X [some (.ref v0), j1, some (.int v2), some (.int s.1), some (.int s.2), some (.int 0)] dX12_reachOf_17 (by decide) rfl ?_
    obtain ⟨o18, eo18, hf⟩ := ob hf
    refine (lw_X12_reachOf_19 X hd _ _ _ _ lpN _ o18 eo18 ?_) _
    intro j19 j20
    obtain ⟨x21, ex21, hf⟩ := ob hf
    refine r_iinc2 (pc := 70) X 1 [some (.ref v0), j19, some (.int v2), some (.int o18), some (.int x21), j20] dX12_reachOf_70 (by decide) rfl (by decide) ex21 rfl ?_
    refine r_goto (pc := 73) X 7 dX12_reachOf_73 (by decide) ?_
    obtain rfl := Option.some.inj hf
    exact hk _ _
def fn_X12_reachOf (h : aH) (p0 : Nat) (p1 : Int32) (p2 : Int32) : Option (Int32) :=
  (some (1 <<< (p1 &&& 31))).bind fun x1 =>
  (lp (lb_X12_reachOf_7 h p0 p2) lpN (x1, 0)).bind fun o23 =>
  some o23
set_option maxRecDepth 20000 in
set_option maxHeartbeats 4000000 in
theorem ev_X12_reachOf {l : Launch} {g : aG} {d : Nat} (hd : 2 ≤ d) (h : aH) (p0 : Nat) (p1 : Int32) (p2 : Int32) (o : Int32) (hf : fn_X12_reachOf h p0 p1 p2 = some o) : EvM l g d yX12_reachOf cX12_reachOf 6 (some .int) [.ref p0, .int p1, .int p2] h (some (.int o), h) := by
  refine EvM.of mk_X12_reachOf (Nat.le_of_ble_eq_true rfl) ?_
  intro Γ hl hg hq X
  have hd1 : 1 ≤ d := by omega
  have hk : RpI h Γ o := hq
  unfold fn_X12_reachOf at hf
  show Jd Γ (0, 0) 0 [some (.ref p0), some (.int p1), some (.int p2), none, none, none] [] h
  refine r_iconst (pc := 0) X 1 dX12_reachOf_0 (by decide) ?_
  refine r_iload_n (pc := 1) X dX12_reachOf_1 rfl ?_
  refine r_ishl (pc := 2) X dX12_reachOf_2 ?_
  obtain ⟨x1, ex1, hf⟩ := ob hf
  refine r_nmI ex1 ?_
  refine r_istore_n (pc := 3) X [some (.ref p0), some (.int p1), some (.int p2), some (.int x1), none, none] dX12_reachOf_3 (by decide) rfl ?_
  refine r_iconst (pc := 4) X 0 dX12_reachOf_4 (by decide) ?_
  refine r_istore (pc := 5) X [some (.ref p0), some (.int p1), some (.int p2), some (.int x1), some (.int 0), none] dX12_reachOf_5 (by decide) rfl ?_
  obtain ⟨o23, eo23, hf⟩ := ob hf
  refine (lw_X12_reachOf_7 X hd _ _ _ lpN _ o23 eo23 ?_) _ _
  obtain rfl := Option.some.inj hf
  exact hk

theorem dX12_reach_0 : decode cX12_reach 0 = .ok (.aload_n 0, 1) := by decide +kernel
theorem dX12_reach_1 : decode cX12_reach 1 = .ok (.iconst 0, 1) := by decide +kernel
theorem dX12_reach_2 : decode cX12_reach 2 = .ok (.putfield 100, 3) := by decide +kernel
theorem dX12_reach_5 : decode cX12_reach 5 = .ok (.aload_n 0, 1) := by decide +kernel
theorem dX12_reach_6 : decode cX12_reach 6 = .ok (.iload_n 1, 1) := by decide +kernel
theorem dX12_reach_7 : decode cX12_reach 7 = .ok (.invokevirtual 114, 3) := by decide +kernel
theorem dX12_reach_10 : decode cX12_reach 10 = .ok (.ifCond .ne 5, 3) := by decide +kernel
theorem dX12_reach_13 : decode cX12_reach 13 = .ok (.iconst (-1), 1) := by decide +kernel
theorem dX12_reach_14 : decode cX12_reach 14 = .ok (.ireturn, 1) := by decide +kernel
theorem dX12_reach_15 : decode cX12_reach 15 = .ok (.aload_n 0, 1) := by decide +kernel
theorem dX12_reach_16 : decode cX12_reach 16 = .ok (.iload_n 1, 1) := by decide +kernel
theorem dX12_reach_17 : decode cX12_reach 17 = .ok (.iconst 0, 1) := by decide +kernel
theorem dX12_reach_18 : decode cX12_reach 18 = .ok (.invokevirtual 363, 3) := by decide +kernel
theorem dX12_reach_21 : decode cX12_reach 21 = .ok (.istore_n 2, 1) := by decide +kernel
theorem dX12_reach_22 : decode cX12_reach 22 = .ok (.aload_n 0, 1) := by decide +kernel
theorem dX12_reach_23 : decode cX12_reach 23 = .ok (.iconst 0, 1) := by decide +kernel
theorem dX12_reach_24 : decode cX12_reach 24 = .ok (.putfield 104, 3) := by decide +kernel
theorem dX12_reach_27 : decode cX12_reach 27 = .ok (.aload_n 0, 1) := by decide +kernel
theorem dX12_reach_28 : decode cX12_reach 28 = .ok (.iload_n 2, 1) := by decide +kernel
theorem dX12_reach_29 : decode cX12_reach 29 = .ok (.invokestatic 332, 3) := by decide +kernel
theorem dX12_reach_32 : decode cX12_reach 32 = .ok (.i2l, 1) := by decide +kernel
theorem dX12_reach_33 : decode cX12_reach 33 = .ok (.invokevirtual 274, 3) := by decide +kernel
theorem dX12_reach_36 : decode cX12_reach 36 = .ok (.iload_n 2, 1) := by decide +kernel
theorem dX12_reach_37 : decode cX12_reach 37 = .ok (.ireturn, 1) := by decide +kernel
def fn_X12_reach (h : aH) (p0 : Nat) (p1 : Int32) : Option (Int32 × aH) :=
  (pI h p0 11 11 0).bind fun h1 =>
  (ck h1 p0 11).bind fun u2 =>
  (fn_X12_isBasin h1 p0 p1).bind fun x3 =>
  if x3 = 0 then
    some ((-1), h1)
  else
    (ck h1 p0 11).bind fun u4 =>
    (fn_X12_reachOf h1 p0 p1 0).bind fun x5 =>
    (pI h1 p0 11 10 0).bind fun h6 =>
    (fn_J6_bitCount_0f7a4 h6 x5).bind fun x7 =>
    (ck h6 p0 11).bind fun u8 =>
    (fn_X12_tell h6 p0 (Int32.toInt64 x7)).bind fun h9 =>
    some (x5, h9)
set_option maxRecDepth 20000 in
set_option maxHeartbeats 4000000 in
theorem ev_X12_reach {l : Launch} {g : aG} {d : Nat} (hd : 3 ≤ d) (h : aH) (p0 : Nat) (p1 : Int32) (o : Int32 × aH) (hf : fn_X12_reach h p0 p1 = some o) : EvM l g d yX12_reach cX12_reach 3 (some .int) [.ref p0, .int p1] h (some (.int o.1), o.2) := by
  refine EvM.of mk_X12_reach (Nat.le_of_ble_eq_true rfl) ?_
  intro Γ hl hg hq X
  have hd1 : 1 ≤ d := by omega
  have hk : RqI Γ o := hq
  unfold fn_X12_reach at hf
  show Jd Γ (0, 0) 0 [some (.ref p0), some (.int p1), none] [] h
  refine r_aload_n (pc := 0) X dX12_reach_0 rfl ?_
  refine r_iconst (pc := 1) X 0 dX12_reach_1 (by decide) ?_
  obtain ⟨h1, eh1, hf⟩ := ob hf
  refine r_putI (pc := 2) X dX12_reach_2 fp_X12_100 rfl eh1 ?_
  refine r_aload_n (pc := 5) X dX12_reach_5 rfl ?_
  refine r_iload_n (pc := 6) X dX12_reach_6 rfl ?_
  obtain ⟨u2, eu2, hf⟩ := ob hf
  obtain ⟨x3, ex3, hf⟩ := ob hf
  refine r_callVI (pc := 7) X [.int p1] dX12_reach_7 ml_X12_114 vo_X12_isBasin ⟨Nat.le_refl _, Nat.le_refl _⟩ eu2 (ev_X12_isBasin (d := d - 1) (by omega) _ _ _ _ ex3) hd1 rfl (Nat.le_of_ble_eq_true rfl) rfl ?_
  refine r_if_ne (pc := 10) X 15 dX12_reach_10 (by decide) (fun c10 => ?_) (fun c10 => ?_)
  · rw [if_neg c10] at hf
    refine r_aload_n (pc := 15) X dX12_reach_15 rfl ?_
    refine r_iload_n (pc := 16) X dX12_reach_16 rfl ?_
    refine r_iconst (pc := 17) X 0 dX12_reach_17 (by decide) ?_
    obtain ⟨u4, eu4, hf⟩ := ob hf
    obtain ⟨x5, ex5, hf⟩ := ob hf
    refine r_callVI (pc := 18) X [.int p1, .int 0] dX12_reach_18 ml_X12_363 vo_X12_reachOf ⟨Nat.le_refl _, Nat.le_refl _⟩ eu4 (ev_X12_reachOf (d := d - 1) (by omega) _ _ _ _ _ ex5) hd1 rfl (Nat.le_of_ble_eq_true rfl) rfl ?_
    refine r_istore_n (pc := 21) X [some (.ref p0), some (.int p1), some (.int x5)] dX12_reach_21 (by decide) rfl ?_
    refine r_aload_n (pc := 22) X dX12_reach_22 rfl ?_
    refine r_iconst (pc := 23) X 0 dX12_reach_23 (by decide) ?_
    obtain ⟨h6, eh6, hf⟩ := ob hf
    refine r_putI (pc := 24) X dX12_reach_24 fp_X12_104 rfl eh6 ?_
    refine r_aload_n (pc := 27) X dX12_reach_27 rfl ?_
    refine r_iload_n (pc := 28) X dX12_reach_28 rfl ?_
    obtain ⟨x7, ex7, hf⟩ := ob hf
    refine r_callSI (pc := 29) X [.int x5] dX12_reach_29 ml_X12_332 so_J6_bitCount_0f7a4 ⟨Nat.le_refl _, Nat.le_refl _⟩ (ev_J6_bitCount_0f7a4 (d := d - 1) (by omega) _ _ _ ex7) hd1 rfl (Nat.le_of_ble_eq_true rfl) rfl ?_
    refine r_i2l (pc := 32) X dX12_reach_32 ?_
    obtain ⟨u8, eu8, hf⟩ := ob hf
    obtain ⟨h9, eh9, hf⟩ := ob hf
    refine r_callVV (pc := 33) X [.long (Int32.toInt64 x7)] dX12_reach_33 ml_X12_274 vo_X12_tell ⟨Nat.le_refl _, Nat.le_refl _⟩ eu8 (ev_X12_tell (d := d - 1) (by omega) _ _ _ _ eh9) hd1 rfl (Nat.le_of_ble_eq_true rfl) rfl ?_
    refine r_iload_n (pc := 36) X dX12_reach_36 rfl ?_
    obtain rfl := Option.some.inj hf
    exact r_iret (pc := 37) X dX12_reach_37 hk
  · rw [if_pos c10] at hf
    refine r_iconst (pc := 13) X (-1) dX12_reach_13 (by decide) ?_
    obtain rfl := Option.some.inj hf
    exact r_iret (pc := 14) X dX12_reach_14 hk

theorem dX12_laySteps_0 : decode cX12_laySteps 0 = .ok (.iconst 0, 1) := by decide +kernel
theorem dX12_laySteps_1 : decode cX12_laySteps 1 = .ok (.istore_n 2, 1) := by decide +kernel
theorem dX12_laySteps_2 : decode cX12_laySteps 2 = .ok (.iload_n 2, 1) := by decide +kernel
theorem dX12_laySteps_3 : decode cX12_laySteps 3 = .ok (.bipush 6, 2) := by decide +kernel
theorem dX12_laySteps_5 : decode cX12_laySteps 5 = .ok (.if_icmp .ge 27, 3) := by decide +kernel
theorem dX12_laySteps_8 : decode cX12_laySteps 8 = .ok (.aload_n 0, 1) := by decide +kernel
theorem dX12_laySteps_9 : decode cX12_laySteps 9 = .ok (.getfield 78, 3) := by decide +kernel
theorem dX12_laySteps_12 : decode cX12_laySteps 12 = .ok (.iload_n 2, 1) := by decide +kernel
theorem dX12_laySteps_13 : decode cX12_laySteps 13 = .ok (.iload_n 2, 1) := by decide +kernel
theorem dX12_laySteps_14 : decode cX12_laySteps 14 = .ok (.iload_n 1, 1) := by decide +kernel
theorem dX12_laySteps_15 : decode cX12_laySteps 15 = .ok (.if_icmp .ne 7, 3) := by decide +kernel
theorem dX12_laySteps_18 : decode cX12_laySteps 18 = .ok (.iconst 0, 1) := by decide +kernel
theorem dX12_laySteps_19 : decode cX12_laySteps 19 = .ok (.goto 6, 3) := by decide +kernel
theorem dX12_laySteps_22 : decode cX12_laySteps 22 = .ok (.ldc_w 356, 3) := by decide +kernel
theorem dX12_laySteps_25 : decode cX12_laySteps 25 = .ok (.iastore, 1) := by decide +kernel
theorem dX12_laySteps_26 : decode cX12_laySteps 26 = .ok (.iinc 2 1, 3) := by decide +kernel
theorem dX12_laySteps_29 : decode cX12_laySteps 29 = .ok (.goto (-27), 3) := by decide +kernel
theorem dX12_laySteps_32 : decode cX12_laySteps 32 = .ok (.iconst 0, 1) := by decide +kernel
theorem dX12_laySteps_33 : decode cX12_laySteps 33 = .ok (.istore_n 2, 1) := by decide +kernel
theorem dX12_laySteps_34 : decode cX12_laySteps 34 = .ok (.iload_n 2, 1) := by decide +kernel
theorem dX12_laySteps_35 : decode cX12_laySteps 35 = .ok (.aload_n 0, 1) := by decide +kernel
theorem dX12_laySteps_36 : decode cX12_laySteps 36 = .ok (.getfield 107, 3) := by decide +kernel
theorem dX12_laySteps_39 : decode cX12_laySteps 39 = .ok (.if_icmp .ge 72, 3) := by decide +kernel
theorem dX12_laySteps_42 : decode cX12_laySteps 42 = .ok (.iconst 0, 1) := by decide +kernel
theorem dX12_laySteps_43 : decode cX12_laySteps 43 = .ok (.istore_n 3, 1) := by decide +kernel
theorem dX12_laySteps_44 : decode cX12_laySteps 44 = .ok (.iload_n 3, 1) := by decide +kernel
theorem dX12_laySteps_45 : decode cX12_laySteps 45 = .ok (.aload_n 0, 1) := by decide +kernel
theorem dX12_laySteps_46 : decode cX12_laySteps 46 = .ok (.getfield 118, 3) := by decide +kernel
theorem dX12_laySteps_49 : decode cX12_laySteps 49 = .ok (.if_icmp .ge 56, 3) := by decide +kernel
theorem dX12_laySteps_52 : decode cX12_laySteps 52 = .ok (.aload_n 0, 1) := by decide +kernel
theorem dX12_laySteps_53 : decode cX12_laySteps 53 = .ok (.iload_n 3, 1) := by decide +kernel
theorem dX12_laySteps_54 : decode cX12_laySteps 54 = .ok (.iconst 0, 1) := by decide +kernel
theorem dX12_laySteps_55 : decode cX12_laySteps 55 = .ok (.invokevirtual 360, 3) := by decide +kernel
theorem dX12_laySteps_58 : decode cX12_laySteps 58 = .ok (.ifCond .eq 41, 3) := by decide +kernel
theorem dX12_laySteps_61 : decode cX12_laySteps 61 = .ok (.aload_n 0, 1) := by decide +kernel
theorem dX12_laySteps_62 : decode cX12_laySteps 62 = .ok (.getfield 78, 3) := by decide +kernel
theorem dX12_laySteps_65 : decode cX12_laySteps 65 = .ok (.aload_n 0, 1) := by decide +kernel
theorem dX12_laySteps_66 : decode cX12_laySteps 66 = .ok (.getfield 13, 3) := by decide +kernel
theorem dX12_laySteps_69 : decode cX12_laySteps 69 = .ok (.iload_n 3, 1) := by decide +kernel
theorem dX12_laySteps_70 : decode cX12_laySteps 70 = .ok (.iaload, 1) := by decide +kernel
theorem dX12_laySteps_71 : decode cX12_laySteps 71 = .ok (.aload_n 0, 1) := by decide +kernel
theorem dX12_laySteps_72 : decode cX12_laySteps 72 = .ok (.getfield 78, 3) := by decide +kernel
theorem dX12_laySteps_75 : decode cX12_laySteps 75 = .ok (.aload_n 0, 1) := by decide +kernel
theorem dX12_laySteps_76 : decode cX12_laySteps 76 = .ok (.getfield 13, 3) := by decide +kernel
theorem dX12_laySteps_79 : decode cX12_laySteps 79 = .ok (.iload_n 3, 1) := by decide +kernel
theorem dX12_laySteps_80 : decode cX12_laySteps 80 = .ok (.iaload, 1) := by decide +kernel
theorem dX12_laySteps_81 : decode cX12_laySteps 81 = .ok (.iaload, 1) := by decide +kernel
theorem dX12_laySteps_82 : decode cX12_laySteps 82 = .ok (.aload_n 0, 1) := by decide +kernel
theorem dX12_laySteps_83 : decode cX12_laySteps 83 = .ok (.getfield 78, 3) := by decide +kernel
theorem dX12_laySteps_86 : decode cX12_laySteps 86 = .ok (.aload_n 0, 1) := by decide +kernel
theorem dX12_laySteps_87 : decode cX12_laySteps 87 = .ok (.getfield 16, 3) := by decide +kernel
theorem dX12_laySteps_90 : decode cX12_laySteps 90 = .ok (.iload_n 3, 1) := by decide +kernel
theorem dX12_laySteps_91 : decode cX12_laySteps 91 = .ok (.iaload, 1) := by decide +kernel
theorem dX12_laySteps_92 : decode cX12_laySteps 92 = .ok (.iaload, 1) := by decide +kernel
theorem dX12_laySteps_93 : decode cX12_laySteps 93 = .ok (.iconst 1, 1) := by decide +kernel
theorem dX12_laySteps_94 : decode cX12_laySteps 94 = .ok (.iadd, 1) := by decide +kernel
theorem dX12_laySteps_95 : decode cX12_laySteps 95 = .ok (.invokestatic 217, 3) := by decide +kernel
theorem dX12_laySteps_98 : decode cX12_laySteps 98 = .ok (.iastore, 1) := by decide +kernel
theorem dX12_laySteps_99 : decode cX12_laySteps 99 = .ok (.iinc 3 1, 3) := by decide +kernel
theorem dX12_laySteps_102 : decode cX12_laySteps 102 = .ok (.goto (-58), 3) := by decide +kernel
theorem dX12_laySteps_105 : decode cX12_laySteps 105 = .ok (.iinc 2 1, 3) := by decide +kernel
theorem dX12_laySteps_108 : decode cX12_laySteps 108 = .ok (.goto (-74), 3) := by decide +kernel
theorem dX12_laySteps_111 : decode cX12_laySteps 111 = .ok (.return_, 1) := by decide +kernel
def lb_X12_laySteps_2 (v0 : Nat) (v1 : Int32) (s : Int32 × aH) : Option ((Int32 × aH) ⊕ ((aH))) :=
  if s.1 < 6 then
    (gR s.2 v0 11 39).bind fun a1 =>
    ((
      if s.1 = v1 then
        some 0
      else
        some 1000000
    ) : Option (Int32)).bind fun t2 =>
    (wI s.2 a1 s.1 t2).bind fun h3 =>
    (some (s.1 + 1)).bind fun x4 =>
    some (.inl (x4, h3))
  else
    some (.inr s.2)
def hd_X12_laySteps_2 (Γ : aC) (v0 : Nat) (v1 : Int32) (s : Int32 × aH) : Prop := ∀ (j3 : Option Value), Jd Γ (0, 0) 2 [some (.ref v0), some (.int v1), some (.int s.1), j3] [] s.2
def ex_X12_laySteps_2 (Γ : aC) (v0 : Nat) (v1 : Int32) (r : (aH)) : Prop := (fun r => ∀ (j2 : Option Value) (j3 : Option Value), Jd Γ (0, 0) 32 [some (.ref v0), some (.int v1), j2, j3] [] r) r
set_option maxRecDepth 20000 in
set_option maxHeartbeats 4000000 in
theorem lw_X12_laySteps_2 {Γ : aC} {d : Nat} (X : Cx Γ RX12 cX12_laySteps 4 none (d, 0, 0)) (hd : 2 ≤ d) (v0 : Nat) (v1 : Int32) : ∀ n s o, lp (lb_X12_laySteps_2 v0 v1) n s = some o → ex_X12_laySteps_2 Γ v0 v1 o → hd_X12_laySteps_2 Γ v0 v1 s := by
  have hd1 : 1 ≤ d := by omega
  refine J_lp _ _ _ ?_
  intro s o hf hk j3
  unfold lb_X12_laySteps_2 at hf
  refine r_iload_n (pc := 2) X dX12_laySteps_2 rfl ?_
  refine r_bipush (pc := 3) X 6 dX12_laySteps_3 (by decide) ?_
  refine r_icmp_ge (pc := 5) X 32 dX12_laySteps_5 (by decide) (fun c6 => ?_) (fun c6 => ?_)
  · rw [if_neg c6] at hf
    obtain rfl := Option.some.inj hf
    exact hk _ _
  · rw [if_pos c6] at hf
    refine r_aload_n (pc := 8) X dX12_laySteps_8 rfl ?_
    obtain ⟨a1, ea1, hf⟩ := ob hf
    refine r_getR (pc := 9) X dX12_laySteps_9 fl_X12_78 rfl ea1 ?_
    refine r_iload_n (pc := 12) X dX12_laySteps_12 rfl ?_
    refine r_iload_n (pc := 13) X dX12_laySteps_13 rfl ?_
    refine r_iload_n (pc := 14) X dX12_laySteps_14 rfl ?_
    obtain ⟨t2, et2, hf⟩ := ob hf
    have Jt2 : Jd Γ (0, 0) 25 [some (.ref v0), some (.int v1), some (.int s.1), j3] [.int t2, .int s.1, .ref a1] s.2 := by
      obtain ⟨h3, eh3, hf⟩ := ob hf
      refine r_iast (pc := 25) X dX12_laySteps_25 eh3 ?_
      obtain ⟨x4, ex4, hf⟩ := ob hf
      refine r_iinc2 (pc := 26) X 1 [some (.ref v0), some (.int v1), some (.int x4), j3] dX12_laySteps_26 (by decide) rfl (by decide) ex4 rfl ?_
      refine r_goto (pc := 29) X 2 dX12_laySteps_29 (by decide) ?_
      obtain rfl := Option.some.inj hf
      exact hk _
    refine r_icmp_ne (pc := 15) X 22 dX12_laySteps_15 (by decide) (fun c5 => ?_) (fun c5 => ?_)
    · rw [if_neg c5] at et2
      refine r_ldcw (pc := 22) X 1000000 dX12_laySteps_22 kc_X12_356 ?_
      obtain rfl := Option.some.inj et2
      exact Jt2
    · rw [if_pos c5] at et2
      refine r_iconst (pc := 18) X 0 dX12_laySteps_18 (by decide) ?_
      refine r_goto (pc := 19) X 25 dX12_laySteps_19 (by decide) ?_
      obtain rfl := Option.some.inj et2
      exact Jt2
def lb_X12_laySteps_44 (v0 : Nat) (v2 : Int32) (s : Int32 × aH) : Option ((Int32 × aH) ⊕ ((aH))) :=
  (gI s.2 v0 11 2).bind fun x11 =>
  if s.1 < x11 then
    (ck s.2 v0 11).bind fun u12 =>
    (fn_X12_isFree s.2 v0 s.1 0).bind fun x13 =>
    if x13 = 0 then
      (some (s.1 + 1)).bind fun x14 =>
      some (.inl (x14, s.2))
    else
      (gR s.2 v0 11 39).bind fun a15 =>
      (gR s.2 v0 11 4).bind fun a16 =>
      (aI s.2 a16 14 s.1).bind fun x17 =>
      (gR s.2 v0 11 39).bind fun a18 =>
      (gR s.2 v0 11 4).bind fun a19 =>
      (aI s.2 a19 14 s.1).bind fun x20 =>
      (aI s.2 a18 14 x20).bind fun x21 =>
      (gR s.2 v0 11 39).bind fun a22 =>
      (gR s.2 v0 11 5).bind fun a23 =>
      (aI s.2 a23 14 s.1).bind fun x24 =>
      (aI s.2 a22 14 x24).bind fun x25 =>
      (wI s.2 a15 x17 (mn x21 (x25 + 1))).bind fun h26 =>
      (some (s.1 + 1)).bind fun x27 =>
      some (.inl (x27, h26))
  else
    some (.inr s.2)
def hd_X12_laySteps_44 (Γ : aC) (v0 : Nat) (v2 : Int32) (s : Int32 × aH) : Prop := ∀ (j1 : Option Value), Jd Γ (0, 0) 44 [some (.ref v0), j1, some (.int v2), some (.int s.1)] [] s.2
def ex_X12_laySteps_44 (Γ : aC) (v0 : Nat) (v2 : Int32) (r : (aH)) : Prop := (fun r => ∀ (j1 : Option Value) (j3 : Option Value), Jd Γ (0, 0) 105 [some (.ref v0), j1, some (.int v2), j3] [] r) r
set_option maxRecDepth 20000 in
set_option maxHeartbeats 4000000 in
theorem lw_X12_laySteps_44 {Γ : aC} {d : Nat} (X : Cx Γ RX12 cX12_laySteps 4 none (d, 0, 0)) (hd : 2 ≤ d) (v0 : Nat) (v2 : Int32) : ∀ n s o, lp (lb_X12_laySteps_44 v0 v2) n s = some o → ex_X12_laySteps_44 Γ v0 v2 o → hd_X12_laySteps_44 Γ v0 v2 s := by
  have hd1 : 1 ≤ d := by omega
  refine J_lp _ _ _ ?_
  intro s o hf hk j1
  unfold lb_X12_laySteps_44 at hf
  refine r_iload_n (pc := 44) X dX12_laySteps_44 rfl ?_
  refine r_aload_n (pc := 45) X dX12_laySteps_45 rfl ?_
  obtain ⟨x11, ex11, hf⟩ := ob hf
  refine r_getI (pc := 46) X dX12_laySteps_46 fl_X12_118 rfl ex11 ?_
  refine r_icmp_ge (pc := 49) X 105 dX12_laySteps_49 (by decide) (fun c29 => ?_) (fun c29 => ?_)
  · rw [if_neg c29] at hf
    obtain rfl := Option.some.inj hf
    exact hk _ _
  · rw [if_pos c29] at hf
    refine r_aload_n (pc := 52) X dX12_laySteps_52 rfl ?_
    refine r_iload_n (pc := 53) X dX12_laySteps_53 rfl ?_
    refine r_iconst (pc := 54) X 0 dX12_laySteps_54 (by decide) ?_
    obtain ⟨u12, eu12, hf⟩ := ob hf
    obtain ⟨x13, ex13, hf⟩ := ob hf
    refine r_callVI (pc := 55) X [.int s.1, .int 0] dX12_laySteps_55 ml_X12_360 vo_X12_isFree ⟨Nat.le_refl _, Nat.le_refl _⟩ eu12 (ev_X12_isFree (d := d - 1) (by omega) _ _ _ _ _ ex13) hd1 rfl (Nat.le_of_ble_eq_true rfl) rfl ?_
    refine r_if_eq (pc := 58) X 99 dX12_laySteps_58 (by decide) (fun c28 => ?_) (fun c28 => ?_)
    · rw [if_pos c28] at hf
      obtain ⟨x14, ex14, hf⟩ := ob hf
      refine r_iinc2 (pc := 99) X 1 [some (.ref v0), j1, some (.int v2), some (.int x14)] dX12_laySteps_99 (by decide) rfl (by decide) ex14 rfl ?_
      refine r_goto (pc := 102) X 44 dX12_laySteps_102 (by decide) ?_
      obtain rfl := Option.some.inj hf
      exact hk _
    · rw [if_neg c28] at hf
      refine r_aload_n (pc := 61) X dX12_laySteps_61 rfl ?_
      obtain ⟨a15, ea15, hf⟩ := ob hf
      refine r_getR (pc := 62) X dX12_laySteps_62 fl_X12_78 rfl ea15 ?_
      refine r_aload_n (pc := 65) X dX12_laySteps_65 rfl ?_
      obtain ⟨a16, ea16, hf⟩ := ob hf
      refine r_getR (pc := 66) X dX12_laySteps_66 fl_X12_13 rfl ea16 ?_
      refine r_iload_n (pc := 69) X dX12_laySteps_69 rfl ?_
      obtain ⟨x17, ex17, hf⟩ := ob hf
      refine r_iald (pc := 70) X dX12_laySteps_70 ex17 ?_
      refine r_aload_n (pc := 71) X dX12_laySteps_71 rfl ?_
      obtain ⟨a18, ea18, hf⟩ := ob hf
      refine r_getR (pc := 72) X dX12_laySteps_72 fl_X12_78 rfl ea18 ?_
      refine r_aload_n (pc := 75) X dX12_laySteps_75 rfl ?_
      obtain ⟨a19, ea19, hf⟩ := ob hf
      refine r_getR (pc := 76) X dX12_laySteps_76 fl_X12_13 rfl ea19 ?_
      refine r_iload_n (pc := 79) X dX12_laySteps_79 rfl ?_
      obtain ⟨x20, ex20, hf⟩ := ob hf
      refine r_iald (pc := 80) X dX12_laySteps_80 ex20 ?_
      obtain ⟨x21, ex21, hf⟩ := ob hf
      refine r_iald (pc := 81) X dX12_laySteps_81 ex21 ?_
      refine r_aload_n (pc := 82) X dX12_laySteps_82 rfl ?_
      obtain ⟨a22, ea22, hf⟩ := ob hf
      refine r_getR (pc := 83) X dX12_laySteps_83 fl_X12_78 rfl ea22 ?_
      refine r_aload_n (pc := 86) X dX12_laySteps_86 rfl ?_
      obtain ⟨a23, ea23, hf⟩ := ob hf
      refine r_getR (pc := 87) X dX12_laySteps_87 fl_X12_16 rfl ea23 ?_
      refine r_iload_n (pc := 90) X dX12_laySteps_90 rfl ?_
      obtain ⟨x24, ex24, hf⟩ := ob hf
      refine r_iald (pc := 91) X dX12_laySteps_91 ex24 ?_
      obtain ⟨x25, ex25, hf⟩ := ob hf
      refine r_iald (pc := 92) X dX12_laySteps_92 ex25 ?_
      refine r_iconst (pc := 93) X 1 dX12_laySteps_93 (by decide) ?_
      refine r_iadd (pc := 94) X dX12_laySteps_94 ?_
      refine r_min (pc := 95) X dX12_laySteps_95 ml_X12_217 ⟨Nat.le_refl _, Nat.le_refl _⟩ hd1 (Nat.le_of_ble_eq_true rfl) ?_
      obtain ⟨h26, eh26, hf⟩ := ob hf
      refine r_iast (pc := 98) X dX12_laySteps_98 eh26 ?_
      obtain ⟨x27, ex27, hf⟩ := ob hf
      refine r_iinc2 (pc := 99) X 1 [some (.ref v0), j1, some (.int v2), some (.int x27)] dX12_laySteps_99 (by decide) rfl (by decide) ex27 rfl ?_
      refine r_goto (pc := 102) X 44 dX12_laySteps_102 (by decide) ?_
      obtain rfl := Option.some.inj hf
      exact hk _
def lb_X12_laySteps_34 (v0 : Nat) (s : Int32 × aH) : Option ((Int32 × aH) ⊕ ((aH))) :=
  (gI s.2 v0 11 1).bind fun x10 =>
  if s.1 < x10 then
    (lp (lb_X12_laySteps_44 v0 s.1) lpN (0, s.2)).bind fun o30 =>
    (some (s.1 + 1)).bind fun x33 =>
    some (.inl (x33, o30))
  else
    some (.inr s.2)
def hd_X12_laySteps_34 (Γ : aC) (v0 : Nat) (s : Int32 × aH) : Prop := ∀ (j1 : Option Value) (j3 : Option Value), Jd Γ (0, 0) 34 [some (.ref v0), j1, some (.int s.1), j3] [] s.2
def ex_X12_laySteps_34 (Γ : aC) (v0 : Nat) (r : (aH)) : Prop := (fun r => RqV Γ r) r
set_option maxRecDepth 20000 in
set_option maxHeartbeats 4000000 in
theorem lw_X12_laySteps_34 {Γ : aC} {d : Nat} (X : Cx Γ RX12 cX12_laySteps 4 none (d, 0, 0)) (hd : 2 ≤ d) (v0 : Nat) : ∀ n s o, lp (lb_X12_laySteps_34 v0) n s = some o → ex_X12_laySteps_34 Γ v0 o → hd_X12_laySteps_34 Γ v0 s := by
  have hd1 : 1 ≤ d := by omega
  refine J_lp _ _ _ ?_
  intro s o hf hk j1 j3
  unfold lb_X12_laySteps_34 at hf
  refine r_iload_n (pc := 34) X dX12_laySteps_34 rfl ?_
  refine r_aload_n (pc := 35) X dX12_laySteps_35 rfl ?_
  obtain ⟨x10, ex10, hf⟩ := ob hf
  refine r_getI (pc := 36) X dX12_laySteps_36 fl_X12_107 rfl ex10 ?_
  refine r_icmp_ge (pc := 39) X 111 dX12_laySteps_39 (by decide) (fun c34 => ?_) (fun c34 => ?_)
  · rw [if_neg c34] at hf
    obtain rfl := Option.some.inj hf
    exact r_vret (pc := 111) X dX12_laySteps_111 hk
  · rw [if_pos c34] at hf
    refine r_iconst (pc := 42) X 0 dX12_laySteps_42 (by decide) ?_
    refine r_istore_n (pc := 43) X [some (.ref v0), j1, some (.int s.1), some (.int 0)] dX12_laySteps_43 (by decide) rfl ?_
    obtain ⟨o30, eo30, hf⟩ := ob hf
    refine (lw_X12_laySteps_44 X hd _ _ lpN _ o30 eo30 ?_) _
    intro j31 j32
    obtain ⟨x33, ex33, hf⟩ := ob hf
    refine r_fg 1 [some (.ref v0), none, some (.int s.1), j32] rfl ?_
    refine r_iinc2 (pc := 105) X 1 [some (.ref v0), none, some (.int x33), j32] dX12_laySteps_105 (by decide) rfl (by decide) ex33 rfl ?_
    refine r_goto (pc := 108) X 34 dX12_laySteps_108 (by decide) ?_
    obtain rfl := Option.some.inj hf
    exact hk _ _
def fn_X12_laySteps (h : aH) (p0 : Nat) (p1 : Int32) : Option (aH) :=
  (lp (lb_X12_laySteps_2 p0 p1) lpN (0, h)).bind fun o7 =>
  (lp (lb_X12_laySteps_34 p0) lpN (0, o7)).bind fun o35 =>
  some o35
set_option maxRecDepth 20000 in
set_option maxHeartbeats 4000000 in
theorem ev_X12_laySteps {l : Launch} {g : aG} {d : Nat} (hd : 2 ≤ d) (h : aH) (p0 : Nat) (p1 : Int32) (o : aH) (hf : fn_X12_laySteps h p0 p1 = some o) : EvM l g d yX12_laySteps cX12_laySteps 4 none [.ref p0, .int p1] h (none, o) := by
  refine EvM.of mk_X12_laySteps (Nat.le_of_ble_eq_true rfl) ?_
  intro Γ hl hg hq X
  have hd1 : 1 ≤ d := by omega
  have hk : RqV Γ o := hq
  unfold fn_X12_laySteps at hf
  show Jd Γ (0, 0) 0 [some (.ref p0), some (.int p1), none, none] [] h
  refine r_iconst (pc := 0) X 0 dX12_laySteps_0 (by decide) ?_
  refine r_istore_n (pc := 1) X [some (.ref p0), some (.int p1), some (.int 0), none] dX12_laySteps_1 (by decide) rfl ?_
  obtain ⟨o7, eo7, hf⟩ := ob hf
  refine (lw_X12_laySteps_2 X hd _ _ lpN _ o7 eo7 ?_) _
  intro j8 j9
  refine r_iconst (pc := 32) X 0 dX12_laySteps_32 (by decide) ?_
  refine r_istore_n (pc := 33) X [some (.ref p0), some (.int p1), some (.int 0), j9] dX12_laySteps_33 (by decide) rfl ?_
  obtain ⟨o35, eo35, hf⟩ := ob hf
  refine (lw_X12_laySteps_34 X hd _ lpN _ o35 eo35 ?_) _ _
  obtain rfl := Option.some.inj hf
  exact hk

theorem dX12_tellWay_0 : decode cX12_tellWay 0 = .ok (.iload_n 1, 1) := by decide +kernel
theorem dX12_tellWay_1 : decode cX12_tellWay 1 = .ok (.istore_n 2, 1) := by decide +kernel
theorem dX12_tellWay_2 : decode cX12_tellWay 2 = .ok (.aload_n 0, 1) := by decide +kernel
theorem dX12_tellWay_3 : decode cX12_tellWay 3 = .ok (.getfield 78, 3) := by decide +kernel
theorem dX12_tellWay_6 : decode cX12_tellWay 6 = .ok (.iload_n 2, 1) := by decide +kernel
theorem dX12_tellWay_7 : decode cX12_tellWay 7 = .ok (.iaload, 1) := by decide +kernel
theorem dX12_tellWay_8 : decode cX12_tellWay 8 = .ok (.ifCond .le 68, 3) := by decide +kernel
theorem dX12_tellWay_11 : decode cX12_tellWay 11 = .ok (.iconst 0, 1) := by decide +kernel
theorem dX12_tellWay_12 : decode cX12_tellWay 12 = .ok (.istore_n 3, 1) := by decide +kernel
theorem dX12_tellWay_13 : decode cX12_tellWay 13 = .ok (.aload_n 0, 1) := by decide +kernel
theorem dX12_tellWay_14 : decode cX12_tellWay 14 = .ok (.iload_n 3, 1) := by decide +kernel
theorem dX12_tellWay_15 : decode cX12_tellWay 15 = .ok (.iconst 0, 1) := by decide +kernel
theorem dX12_tellWay_16 : decode cX12_tellWay 16 = .ok (.invokevirtual 360, 3) := by decide +kernel
theorem dX12_tellWay_19 : decode cX12_tellWay 19 = .ok (.ifCond .eq 35, 3) := by decide +kernel
theorem dX12_tellWay_22 : decode cX12_tellWay 22 = .ok (.aload_n 0, 1) := by decide +kernel
theorem dX12_tellWay_23 : decode cX12_tellWay 23 = .ok (.getfield 13, 3) := by decide +kernel
theorem dX12_tellWay_26 : decode cX12_tellWay 26 = .ok (.iload_n 3, 1) := by decide +kernel
theorem dX12_tellWay_27 : decode cX12_tellWay 27 = .ok (.iaload, 1) := by decide +kernel
theorem dX12_tellWay_28 : decode cX12_tellWay 28 = .ok (.iload_n 2, 1) := by decide +kernel
theorem dX12_tellWay_29 : decode cX12_tellWay 29 = .ok (.if_icmp .ne 25, 3) := by decide +kernel
theorem dX12_tellWay_32 : decode cX12_tellWay 32 = .ok (.aload_n 0, 1) := by decide +kernel
theorem dX12_tellWay_33 : decode cX12_tellWay 33 = .ok (.getfield 78, 3) := by decide +kernel
theorem dX12_tellWay_36 : decode cX12_tellWay 36 = .ok (.aload_n 0, 1) := by decide +kernel
theorem dX12_tellWay_37 : decode cX12_tellWay 37 = .ok (.getfield 16, 3) := by decide +kernel
theorem dX12_tellWay_40 : decode cX12_tellWay 40 = .ok (.iload_n 3, 1) := by decide +kernel
theorem dX12_tellWay_41 : decode cX12_tellWay 41 = .ok (.iaload, 1) := by decide +kernel
theorem dX12_tellWay_42 : decode cX12_tellWay 42 = .ok (.iaload, 1) := by decide +kernel
theorem dX12_tellWay_43 : decode cX12_tellWay 43 = .ok (.aload_n 0, 1) := by decide +kernel
theorem dX12_tellWay_44 : decode cX12_tellWay 44 = .ok (.getfield 78, 3) := by decide +kernel
theorem dX12_tellWay_47 : decode cX12_tellWay 47 = .ok (.iload_n 2, 1) := by decide +kernel
theorem dX12_tellWay_48 : decode cX12_tellWay 48 = .ok (.iaload, 1) := by decide +kernel
theorem dX12_tellWay_49 : decode cX12_tellWay 49 = .ok (.iconst 1, 1) := by decide +kernel
theorem dX12_tellWay_50 : decode cX12_tellWay 50 = .ok (.isub, 1) := by decide +kernel
theorem dX12_tellWay_51 : decode cX12_tellWay 51 = .ok (.if_icmp .eq 9, 3) := by decide +kernel
theorem dX12_tellWay_54 : decode cX12_tellWay 54 = .ok (.iinc 3 1, 3) := by decide +kernel
theorem dX12_tellWay_57 : decode cX12_tellWay 57 = .ok (.goto (-44), 3) := by decide +kernel
theorem dX12_tellWay_60 : decode cX12_tellWay 60 = .ok (.aload_n 0, 1) := by decide +kernel
theorem dX12_tellWay_61 : decode cX12_tellWay 61 = .ok (.iload_n 3, 1) := by decide +kernel
theorem dX12_tellWay_62 : decode cX12_tellWay 62 = .ok (.i2l, 1) := by decide +kernel
theorem dX12_tellWay_63 : decode cX12_tellWay 63 = .ok (.invokevirtual 274, 3) := by decide +kernel
theorem dX12_tellWay_66 : decode cX12_tellWay 66 = .ok (.aload_n 0, 1) := by decide +kernel
theorem dX12_tellWay_67 : decode cX12_tellWay 67 = .ok (.getfield 16, 3) := by decide +kernel
theorem dX12_tellWay_70 : decode cX12_tellWay 70 = .ok (.iload_n 3, 1) := by decide +kernel
theorem dX12_tellWay_71 : decode cX12_tellWay 71 = .ok (.iaload, 1) := by decide +kernel
theorem dX12_tellWay_72 : decode cX12_tellWay 72 = .ok (.istore_n 2, 1) := by decide +kernel
theorem dX12_tellWay_73 : decode cX12_tellWay 73 = .ok (.goto (-71), 3) := by decide +kernel
theorem dX12_tellWay_76 : decode cX12_tellWay 76 = .ok (.return_, 1) := by decide +kernel
def lb_X12_tellWay_13 (hh : aH) (v0 : Nat) (v2 : Int32) (s : Int32) : Option ((Int32) ⊕ ((Int32))) :=
  (ck hh v0 11).bind fun u3 =>
  (fn_X12_isFree hh v0 s 0).bind fun x4 =>
  if x4 = 0 then
    (some (s + 1)).bind fun x5 =>
    some (.inl x5)
  else
    (gR hh v0 11 4).bind fun a6 =>
    (aI hh a6 14 s).bind fun x7 =>
    if x7 = v2 then
      (gR hh v0 11 39).bind fun a9 =>
      (gR hh v0 11 5).bind fun a10 =>
      (aI hh a10 14 s).bind fun x11 =>
      (aI hh a9 14 x11).bind fun x12 =>
      (gR hh v0 11 39).bind fun a13 =>
      (aI hh a13 14 v2).bind fun x14 =>
      if x12 = (x14 - 1) then
        some (.inr s)
      else
        (some (s + 1)).bind fun x15 =>
        some (.inl x15)
    else
      (some (s + 1)).bind fun x8 =>
      some (.inl x8)
def hd_X12_tellWay_13 (Γ : aC) (hh : aH) (v0 : Nat) (v2 : Int32) (s : Int32) : Prop := ∀ (j1 : Option Value), Jd Γ (0, 0) 13 [some (.ref v0), j1, some (.int v2), some (.int s)] [] hh
def ex_X12_tellWay_13 (Γ : aC) (hh : aH) (v0 : Nat) (v2 : Int32) (r : (Int32)) : Prop := (fun r => ∀ (j1 : Option Value), Jd Γ (0, 0) 60 [some (.ref v0), j1, some (.int v2), some (.int r)] [] hh) r
set_option maxRecDepth 20000 in
set_option maxHeartbeats 4000000 in
theorem lw_X12_tellWay_13 {Γ : aC} {d : Nat} (X : Cx Γ RX12 cX12_tellWay 4 none (d, 0, 0)) (hd : 2 ≤ d) (hh : aH) (v0 : Nat) (v2 : Int32) : ∀ n s o, lp (lb_X12_tellWay_13 hh v0 v2) n s = some o → ex_X12_tellWay_13 Γ hh v0 v2 o → hd_X12_tellWay_13 Γ hh v0 v2 s := by
  have hd1 : 1 ≤ d := by omega
  refine J_lp _ _ _ ?_
  intro s o hf hk j1
  unfold lb_X12_tellWay_13 at hf
  refine r_aload_n (pc := 13) X dX12_tellWay_13 rfl ?_
  refine r_iload_n (pc := 14) X dX12_tellWay_14 rfl ?_
  refine r_iconst (pc := 15) X 0 dX12_tellWay_15 (by decide) ?_
  obtain ⟨u3, eu3, hf⟩ := ob hf
  obtain ⟨x4, ex4, hf⟩ := ob hf
  refine r_callVI (pc := 16) X [.int s, .int 0] dX12_tellWay_16 ml_X12_360 vo_X12_isFree ⟨Nat.le_refl _, Nat.le_refl _⟩ eu3 (ev_X12_isFree (d := d - 1) (by omega) _ _ _ _ _ ex4) hd1 rfl (Nat.le_of_ble_eq_true rfl) rfl ?_
  refine r_if_eq (pc := 19) X 54 dX12_tellWay_19 (by decide) (fun c18 => ?_) (fun c18 => ?_)
  · rw [if_pos c18] at hf
    obtain ⟨x5, ex5, hf⟩ := ob hf
    refine r_iinc2 (pc := 54) X 1 [some (.ref v0), j1, some (.int v2), some (.int x5)] dX12_tellWay_54 (by decide) rfl (by decide) ex5 rfl ?_
    refine r_goto (pc := 57) X 13 dX12_tellWay_57 (by decide) ?_
    obtain rfl := Option.some.inj hf
    exact hk _
  · rw [if_neg c18] at hf
    refine r_aload_n (pc := 22) X dX12_tellWay_22 rfl ?_
    obtain ⟨a6, ea6, hf⟩ := ob hf
    refine r_getR (pc := 23) X dX12_tellWay_23 fl_X12_13 rfl ea6 ?_
    refine r_iload_n (pc := 26) X dX12_tellWay_26 rfl ?_
    obtain ⟨x7, ex7, hf⟩ := ob hf
    refine r_iald (pc := 27) X dX12_tellWay_27 ex7 ?_
    refine r_iload_n (pc := 28) X dX12_tellWay_28 rfl ?_
    refine r_icmp_ne (pc := 29) X 54 dX12_tellWay_29 (by decide) (fun c17 => ?_) (fun c17 => ?_)
    · rw [if_neg c17] at hf
      obtain ⟨x8, ex8, hf⟩ := ob hf
      refine r_iinc2 (pc := 54) X 1 [some (.ref v0), j1, some (.int v2), some (.int x8)] dX12_tellWay_54 (by decide) rfl (by decide) ex8 rfl ?_
      refine r_goto (pc := 57) X 13 dX12_tellWay_57 (by decide) ?_
      obtain rfl := Option.some.inj hf
      exact hk _
    · rw [if_pos c17] at hf
      refine r_aload_n (pc := 32) X dX12_tellWay_32 rfl ?_
      obtain ⟨a9, ea9, hf⟩ := ob hf
      refine r_getR (pc := 33) X dX12_tellWay_33 fl_X12_78 rfl ea9 ?_
      refine r_aload_n (pc := 36) X dX12_tellWay_36 rfl ?_
      obtain ⟨a10, ea10, hf⟩ := ob hf
      refine r_getR (pc := 37) X dX12_tellWay_37 fl_X12_16 rfl ea10 ?_
      refine r_iload_n (pc := 40) X dX12_tellWay_40 rfl ?_
      obtain ⟨x11, ex11, hf⟩ := ob hf
      refine r_iald (pc := 41) X dX12_tellWay_41 ex11 ?_
      obtain ⟨x12, ex12, hf⟩ := ob hf
      refine r_iald (pc := 42) X dX12_tellWay_42 ex12 ?_
      refine r_aload_n (pc := 43) X dX12_tellWay_43 rfl ?_
      obtain ⟨a13, ea13, hf⟩ := ob hf
      refine r_getR (pc := 44) X dX12_tellWay_44 fl_X12_78 rfl ea13 ?_
      refine r_iload_n (pc := 47) X dX12_tellWay_47 rfl ?_
      obtain ⟨x14, ex14, hf⟩ := ob hf
      refine r_iald (pc := 48) X dX12_tellWay_48 ex14 ?_
      refine r_iconst (pc := 49) X 1 dX12_tellWay_49 (by decide) ?_
      refine r_isub (pc := 50) X dX12_tellWay_50 ?_
      refine r_icmp_eq (pc := 51) X 60 dX12_tellWay_51 (by decide) (fun c16 => ?_) (fun c16 => ?_)
      · rw [if_pos c16] at hf
        obtain rfl := Option.some.inj hf
        exact hk _
      · rw [if_neg c16] at hf
        obtain ⟨x15, ex15, hf⟩ := ob hf
        refine r_iinc2 (pc := 54) X 1 [some (.ref v0), j1, some (.int v2), some (.int x15)] dX12_tellWay_54 (by decide) rfl (by decide) ex15 rfl ?_
        refine r_goto (pc := 57) X 13 dX12_tellWay_57 (by decide) ?_
        obtain rfl := Option.some.inj hf
        exact hk _
def lb_X12_tellWay_2 (v0 : Nat) (s : Int32 × aH) : Option ((Int32 × aH) ⊕ ((aH))) :=
  (gR s.2 v0 11 39).bind fun a1 =>
  (aI s.2 a1 14 s.1).bind fun x2 =>
  if x2 ≤ 0 then
    some (.inr s.2)
  else
    (lp (lb_X12_tellWay_13 s.2 v0 s.1) lpN 0).bind fun o19 =>
    (ck s.2 v0 11).bind fun u21 =>
    (fn_X12_tell s.2 v0 (Int32.toInt64 o19)).bind fun h22 =>
    (gR h22 v0 11 5).bind fun a23 =>
    (aI h22 a23 14 o19).bind fun x24 =>
    some (.inl (x24, h22))
def hd_X12_tellWay_2 (Γ : aC) (v0 : Nat) (s : Int32 × aH) : Prop := ∀ (j1 : Option Value) (j3 : Option Value), Jd Γ (0, 0) 2 [some (.ref v0), j1, some (.int s.1), j3] [] s.2
def ex_X12_tellWay_2 (Γ : aC) (v0 : Nat) (r : (aH)) : Prop := (fun r => RqV Γ r) r
set_option maxRecDepth 20000 in
set_option maxHeartbeats 4000000 in
theorem lw_X12_tellWay_2 {Γ : aC} {d : Nat} (X : Cx Γ RX12 cX12_tellWay 4 none (d, 0, 0)) (hd : 2 ≤ d) (v0 : Nat) : ∀ n s o, lp (lb_X12_tellWay_2 v0) n s = some o → ex_X12_tellWay_2 Γ v0 o → hd_X12_tellWay_2 Γ v0 s := by
  have hd1 : 1 ≤ d := by omega
  refine J_lp _ _ _ ?_
  intro s o hf hk j1 j3
  unfold lb_X12_tellWay_2 at hf
  refine r_aload_n (pc := 2) X dX12_tellWay_2 rfl ?_
  obtain ⟨a1, ea1, hf⟩ := ob hf
  refine r_getR (pc := 3) X dX12_tellWay_3 fl_X12_78 rfl ea1 ?_
  refine r_iload_n (pc := 6) X dX12_tellWay_6 rfl ?_
  obtain ⟨x2, ex2, hf⟩ := ob hf
  refine r_iald (pc := 7) X dX12_tellWay_7 ex2 ?_
  refine r_if_le (pc := 8) X 76 dX12_tellWay_8 (by decide) (fun c25 => ?_) (fun c25 => ?_)
  · rw [if_pos c25] at hf
    obtain rfl := Option.some.inj hf
    exact r_vret (pc := 76) X dX12_tellWay_76 hk
  · rw [if_neg c25] at hf
    refine r_iconst (pc := 11) X 0 dX12_tellWay_11 (by decide) ?_
    refine r_istore_n (pc := 12) X [some (.ref v0), j1, some (.int s.1), some (.int 0)] dX12_tellWay_12 (by decide) rfl ?_
    obtain ⟨o19, eo19, hf⟩ := ob hf
    refine (lw_X12_tellWay_13 X hd _ _ _ lpN _ o19 eo19 ?_) _
    intro j20
    refine r_aload_n (pc := 60) X dX12_tellWay_60 rfl ?_
    refine r_iload_n (pc := 61) X dX12_tellWay_61 rfl ?_
    refine r_i2l (pc := 62) X dX12_tellWay_62 ?_
    obtain ⟨u21, eu21, hf⟩ := ob hf
    obtain ⟨h22, eh22, hf⟩ := ob hf
    refine r_callVV (pc := 63) X [.long (Int32.toInt64 o19)] dX12_tellWay_63 ml_X12_274 vo_X12_tell ⟨Nat.le_refl _, Nat.le_refl _⟩ eu21 (ev_X12_tell (d := d - 1) (by omega) _ _ _ _ eh22) hd1 rfl (Nat.le_of_ble_eq_true rfl) rfl ?_
    refine r_aload_n (pc := 66) X dX12_tellWay_66 rfl ?_
    obtain ⟨a23, ea23, hf⟩ := ob hf
    refine r_getR (pc := 67) X dX12_tellWay_67 fl_X12_16 rfl ea23 ?_
    refine r_iload_n (pc := 70) X dX12_tellWay_70 rfl ?_
    obtain ⟨x24, ex24, hf⟩ := ob hf
    refine r_iald (pc := 71) X dX12_tellWay_71 ex24 ?_
    refine r_fg 1 [some (.ref v0), none, some (.int s.1), some (.int o19)] rfl ?_
    refine r_istore_n (pc := 72) X [some (.ref v0), none, some (.int x24), some (.int o19)] dX12_tellWay_72 (by decide) rfl ?_
    refine r_goto (pc := 73) X 2 dX12_tellWay_73 (by decide) ?_
    obtain rfl := Option.some.inj hf
    exact hk _ _
def fn_X12_tellWay (h : aH) (p0 : Nat) (p1 : Int32) : Option (aH) :=
  (lp (lb_X12_tellWay_2 p0) lpN (p1, h)).bind fun o26 =>
  some o26
set_option maxRecDepth 20000 in
set_option maxHeartbeats 4000000 in
theorem ev_X12_tellWay {l : Launch} {g : aG} {d : Nat} (hd : 2 ≤ d) (h : aH) (p0 : Nat) (p1 : Int32) (o : aH) (hf : fn_X12_tellWay h p0 p1 = some o) : EvM l g d yX12_tellWay cX12_tellWay 4 none [.ref p0, .int p1] h (none, o) := by
  refine EvM.of mk_X12_tellWay (Nat.le_of_ble_eq_true rfl) ?_
  intro Γ hl hg hq X
  have hd1 : 1 ≤ d := by omega
  have hk : RqV Γ o := hq
  unfold fn_X12_tellWay at hf
  show Jd Γ (0, 0) 0 [some (.ref p0), some (.int p1), none, none] [] h
  refine r_iload_n (pc := 0) X dX12_tellWay_0 rfl ?_
  refine r_istore_n (pc := 1) X [some (.ref p0), some (.int p1), some (.int p1), none] dX12_tellWay_1 (by decide) rfl ?_
  obtain ⟨o26, eo26, hf⟩ := ob hf
  refine (lw_X12_tellWay_2 X hd _ lpN _ o26 eo26 ?_) _ _
  obtain rfl := Option.some.inj hf
  exact hk

theorem dX12_way_0 : decode cX12_way 0 = .ok (.aload_n 0, 1) := by decide +kernel
theorem dX12_way_1 : decode cX12_way 1 = .ok (.iconst 0, 1) := by decide +kernel
theorem dX12_way_2 : decode cX12_way 2 = .ok (.putfield 100, 3) := by decide +kernel
theorem dX12_way_5 : decode cX12_way 5 = .ok (.aload_n 0, 1) := by decide +kernel
theorem dX12_way_6 : decode cX12_way 6 = .ok (.iload_n 1, 1) := by decide +kernel
theorem dX12_way_7 : decode cX12_way 7 = .ok (.invokevirtual 114, 3) := by decide +kernel
theorem dX12_way_10 : decode cX12_way 10 = .ok (.ifCond .eq 11, 3) := by decide +kernel
theorem dX12_way_13 : decode cX12_way 13 = .ok (.aload_n 0, 1) := by decide +kernel
theorem dX12_way_14 : decode cX12_way 14 = .ok (.iload_n 2, 1) := by decide +kernel
theorem dX12_way_15 : decode cX12_way 15 = .ok (.invokevirtual 114, 3) := by decide +kernel
theorem dX12_way_18 : decode cX12_way 18 = .ok (.ifCond .ne 5, 3) := by decide +kernel
theorem dX12_way_21 : decode cX12_way 21 = .ok (.iconst (-1), 1) := by decide +kernel
theorem dX12_way_22 : decode cX12_way 22 = .ok (.ireturn, 1) := by decide +kernel
theorem dX12_way_23 : decode cX12_way 23 = .ok (.aload_n 0, 1) := by decide +kernel
theorem dX12_way_24 : decode cX12_way 24 = .ok (.iload_n 2, 1) := by decide +kernel
theorem dX12_way_25 : decode cX12_way 25 = .ok (.invokevirtual 366, 3) := by decide +kernel
theorem dX12_way_28 : decode cX12_way 28 = .ok (.aload_n 0, 1) := by decide +kernel
theorem dX12_way_29 : decode cX12_way 29 = .ok (.getfield 78, 3) := by decide +kernel
theorem dX12_way_32 : decode cX12_way 32 = .ok (.iload_n 1, 1) := by decide +kernel
theorem dX12_way_33 : decode cX12_way 33 = .ok (.iaload, 1) := by decide +kernel
theorem dX12_way_34 : decode cX12_way 34 = .ok (.ldc_w 356, 3) := by decide +kernel
theorem dX12_way_37 : decode cX12_way 37 = .ok (.if_icmp .lt 6, 3) := by decide +kernel
theorem dX12_way_40 : decode cX12_way 40 = .ok (.bipush (-2), 2) := by decide +kernel
theorem dX12_way_42 : decode cX12_way 42 = .ok (.ireturn, 1) := by decide +kernel
theorem dX12_way_43 : decode cX12_way 43 = .ok (.aload_n 0, 1) := by decide +kernel
theorem dX12_way_44 : decode cX12_way 44 = .ok (.iconst 0, 1) := by decide +kernel
theorem dX12_way_45 : decode cX12_way 45 = .ok (.putfield 104, 3) := by decide +kernel
theorem dX12_way_48 : decode cX12_way 48 = .ok (.aload_n 0, 1) := by decide +kernel
theorem dX12_way_49 : decode cX12_way 49 = .ok (.iload_n 1, 1) := by decide +kernel
theorem dX12_way_50 : decode cX12_way 50 = .ok (.invokevirtual 369, 3) := by decide +kernel
theorem dX12_way_53 : decode cX12_way 53 = .ok (.aload_n 0, 1) := by decide +kernel
theorem dX12_way_54 : decode cX12_way 54 = .ok (.getfield 78, 3) := by decide +kernel
theorem dX12_way_57 : decode cX12_way 57 = .ok (.iload_n 1, 1) := by decide +kernel
theorem dX12_way_58 : decode cX12_way 58 = .ok (.iaload, 1) := by decide +kernel
theorem dX12_way_59 : decode cX12_way 59 = .ok (.ireturn, 1) := by decide +kernel
def fn_X12_way (h : aH) (p0 : Nat) (p1 : Int32) (p2 : Int32) : Option (Int32 × aH) :=
  (pI h p0 11 11 0).bind fun h1 =>
  (ck h1 p0 11).bind fun u2 =>
  (fn_X12_isBasin h1 p0 p1).bind fun x3 =>
  if x3 = 0 then
    some ((-1), h1)
  else
    (ck h1 p0 11).bind fun u4 =>
    (fn_X12_isBasin h1 p0 p2).bind fun x5 =>
    if x5 = 0 then
      some ((-1), h1)
    else
      (ck h1 p0 11).bind fun u6 =>
      (fn_X12_laySteps h1 p0 p2).bind fun h7 =>
      (gR h7 p0 11 39).bind fun a8 =>
      (aI h7 a8 14 p1).bind fun x9 =>
      if x9 < 1000000 then
        (pI h7 p0 11 10 0).bind fun h10 =>
        (ck h10 p0 11).bind fun u11 =>
        (fn_X12_tellWay h10 p0 p1).bind fun h12 =>
        (gR h12 p0 11 39).bind fun a13 =>
        (aI h12 a13 14 p1).bind fun x14 =>
        some (x14, h12)
      else
        some ((-2), h7)
set_option maxRecDepth 20000 in
set_option maxHeartbeats 4000000 in
theorem ev_X12_way {l : Launch} {g : aG} {d : Nat} (hd : 3 ≤ d) (h : aH) (p0 : Nat) (p1 : Int32) (p2 : Int32) (o : Int32 × aH) (hf : fn_X12_way h p0 p1 p2 = some o) : EvM l g d yX12_way cX12_way 3 (some .int) [.ref p0, .int p1, .int p2] h (some (.int o.1), o.2) := by
  refine EvM.of mk_X12_way (Nat.le_of_ble_eq_true rfl) ?_
  intro Γ hl hg hq X
  have hd1 : 1 ≤ d := by omega
  have hk : RqI Γ o := hq
  unfold fn_X12_way at hf
  show Jd Γ (0, 0) 0 [some (.ref p0), some (.int p1), some (.int p2)] [] h
  refine r_aload_n (pc := 0) X dX12_way_0 rfl ?_
  refine r_iconst (pc := 1) X 0 dX12_way_1 (by decide) ?_
  obtain ⟨h1, eh1, hf⟩ := ob hf
  refine r_putI (pc := 2) X dX12_way_2 fp_X12_100 rfl eh1 ?_
  refine r_aload_n (pc := 5) X dX12_way_5 rfl ?_
  refine r_iload_n (pc := 6) X dX12_way_6 rfl ?_
  obtain ⟨u2, eu2, hf⟩ := ob hf
  obtain ⟨x3, ex3, hf⟩ := ob hf
  refine r_callVI (pc := 7) X [.int p1] dX12_way_7 ml_X12_114 vo_X12_isBasin ⟨Nat.le_refl _, Nat.le_refl _⟩ eu2 (ev_X12_isBasin (d := d - 1) (by omega) _ _ _ _ ex3) hd1 rfl (Nat.le_of_ble_eq_true rfl) rfl ?_
  refine r_if_eq (pc := 10) X 21 dX12_way_10 (by decide) (fun c17 => ?_) (fun c17 => ?_)
  · rw [if_pos c17] at hf
    refine r_iconst (pc := 21) X (-1) dX12_way_21 (by decide) ?_
    obtain rfl := Option.some.inj hf
    exact r_iret (pc := 22) X dX12_way_22 hk
  · rw [if_neg c17] at hf
    refine r_aload_n (pc := 13) X dX12_way_13 rfl ?_
    refine r_iload_n (pc := 14) X dX12_way_14 rfl ?_
    obtain ⟨u4, eu4, hf⟩ := ob hf
    obtain ⟨x5, ex5, hf⟩ := ob hf
    refine r_callVI (pc := 15) X [.int p2] dX12_way_15 ml_X12_114 vo_X12_isBasin ⟨Nat.le_refl _, Nat.le_refl _⟩ eu4 (ev_X12_isBasin (d := d - 1) (by omega) _ _ _ _ ex5) hd1 rfl (Nat.le_of_ble_eq_true rfl) rfl ?_
    refine r_if_ne (pc := 18) X 23 dX12_way_18 (by decide) (fun c16 => ?_) (fun c16 => ?_)
    · rw [if_neg c16] at hf
      refine r_aload_n (pc := 23) X dX12_way_23 rfl ?_
      refine r_iload_n (pc := 24) X dX12_way_24 rfl ?_
      obtain ⟨u6, eu6, hf⟩ := ob hf
      obtain ⟨h7, eh7, hf⟩ := ob hf
      refine r_callVV (pc := 25) X [.int p2] dX12_way_25 ml_X12_366 vo_X12_laySteps ⟨Nat.le_refl _, Nat.le_refl _⟩ eu6 (ev_X12_laySteps (d := d - 1) (by omega) _ _ _ _ eh7) hd1 rfl (Nat.le_of_ble_eq_true rfl) rfl ?_
      refine r_aload_n (pc := 28) X dX12_way_28 rfl ?_
      obtain ⟨a8, ea8, hf⟩ := ob hf
      refine r_getR (pc := 29) X dX12_way_29 fl_X12_78 rfl ea8 ?_
      refine r_iload_n (pc := 32) X dX12_way_32 rfl ?_
      obtain ⟨x9, ex9, hf⟩ := ob hf
      refine r_iald (pc := 33) X dX12_way_33 ex9 ?_
      refine r_ldcw (pc := 34) X 1000000 dX12_way_34 kc_X12_356 ?_
      refine r_icmp_lt (pc := 37) X 43 dX12_way_37 (by decide) (fun c15 => ?_) (fun c15 => ?_)
      · rw [if_pos c15] at hf
        refine r_aload_n (pc := 43) X dX12_way_43 rfl ?_
        refine r_iconst (pc := 44) X 0 dX12_way_44 (by decide) ?_
        obtain ⟨h10, eh10, hf⟩ := ob hf
        refine r_putI (pc := 45) X dX12_way_45 fp_X12_104 rfl eh10 ?_
        refine r_aload_n (pc := 48) X dX12_way_48 rfl ?_
        refine r_iload_n (pc := 49) X dX12_way_49 rfl ?_
        obtain ⟨u11, eu11, hf⟩ := ob hf
        obtain ⟨h12, eh12, hf⟩ := ob hf
        refine r_callVV (pc := 50) X [.int p1] dX12_way_50 ml_X12_369 vo_X12_tellWay ⟨Nat.le_refl _, Nat.le_refl _⟩ eu11 (ev_X12_tellWay (d := d - 1) (by omega) _ _ _ _ eh12) hd1 rfl (Nat.le_of_ble_eq_true rfl) rfl ?_
        refine r_aload_n (pc := 53) X dX12_way_53 rfl ?_
        obtain ⟨a13, ea13, hf⟩ := ob hf
        refine r_getR (pc := 54) X dX12_way_54 fl_X12_78 rfl ea13 ?_
        refine r_iload_n (pc := 57) X dX12_way_57 rfl ?_
        obtain ⟨x14, ex14, hf⟩ := ob hf
        refine r_iald (pc := 58) X dX12_way_58 ex14 ?_
        obtain rfl := Option.some.inj hf
        exact r_iret (pc := 59) X dX12_way_59 hk
      · rw [if_neg c15] at hf
        refine r_bipush (pc := 40) X (-2) dX12_way_40 (by decide) ?_
        obtain rfl := Option.some.inj hf
        exact r_iret (pc := 42) X dX12_way_42 hk
    · rw [if_pos c16] at hf
      refine r_iconst (pc := 21) X (-1) dX12_way_21 (by decide) ?_
      obtain rfl := Option.some.inj hf
      exact r_iret (pc := 22) X dX12_way_22 hk

theorem dX12_cut_0 : decode cX12_cut 0 = .ok (.aload_n 0, 1) := by decide +kernel
theorem dX12_cut_1 : decode cX12_cut 1 = .ok (.iconst 0, 1) := by decide +kernel
theorem dX12_cut_2 : decode cX12_cut 2 = .ok (.putfield 100, 3) := by decide +kernel
theorem dX12_cut_5 : decode cX12_cut 5 = .ok (.aload_n 0, 1) := by decide +kernel
theorem dX12_cut_6 : decode cX12_cut 6 = .ok (.iload_n 1, 1) := by decide +kernel
theorem dX12_cut_7 : decode cX12_cut 7 = .ok (.iload_n 2, 1) := by decide +kernel
theorem dX12_cut_8 : decode cX12_cut 8 = .ok (.invokevirtual 318, 3) := by decide +kernel
theorem dX12_cut_11 : decode cX12_cut 11 = .ok (.ifCond .ne 5, 3) := by decide +kernel
theorem dX12_cut_14 : decode cX12_cut 14 = .ok (.iconst (-1), 1) := by decide +kernel
theorem dX12_cut_15 : decode cX12_cut 15 = .ok (.ireturn, 1) := by decide +kernel
theorem dX12_cut_16 : decode cX12_cut 16 = .ok (.iconst (-1), 1) := by decide +kernel
theorem dX12_cut_17 : decode cX12_cut 17 = .ok (.istore_n 3, 1) := by decide +kernel
theorem dX12_cut_18 : decode cX12_cut 18 = .ok (.iconst 0, 1) := by decide +kernel
theorem dX12_cut_19 : decode cX12_cut 19 = .ok (.istore 4, 2) := by decide +kernel
theorem dX12_cut_21 : decode cX12_cut 21 = .ok (.iload 4, 2) := by decide +kernel
theorem dX12_cut_23 : decode cX12_cut 23 = .ok (.iconst 1, 1) := by decide +kernel
theorem dX12_cut_24 : decode cX12_cut 24 = .ok (.aload_n 0, 1) := by decide +kernel
theorem dX12_cut_25 : decode cX12_cut 25 = .ok (.getfield 118, 3) := by decide +kernel
theorem dX12_cut_28 : decode cX12_cut 28 = .ok (.ishl, 1) := by decide +kernel
theorem dX12_cut_29 : decode cX12_cut 29 = .ok (.if_icmp .ge 59, 3) := by decide +kernel
theorem dX12_cut_32 : decode cX12_cut 32 = .ok (.iload 4, 2) := by decide +kernel
theorem dX12_cut_34 : decode cX12_cut 34 = .ok (.aload_n 0, 1) := by decide +kernel
theorem dX12_cut_35 : decode cX12_cut 35 = .ok (.getfield 9, 3) := by decide +kernel
theorem dX12_cut_38 : decode cX12_cut 38 = .ok (.bipush 13, 2) := by decide +kernel
theorem dX12_cut_40 : decode cX12_cut 40 = .ok (.iaload, 1) := by decide +kernel
theorem dX12_cut_41 : decode cX12_cut 41 = .ok (.iand, 1) := by decide +kernel
theorem dX12_cut_42 : decode cX12_cut 42 = .ok (.ifCond .ne 40, 3) := by decide +kernel
theorem dX12_cut_45 : decode cX12_cut 45 = .ok (.iload_n 3, 1) := by decide +kernel
theorem dX12_cut_46 : decode cX12_cut 46 = .ok (.iconst (-1), 1) := by decide +kernel
theorem dX12_cut_47 : decode cX12_cut 47 = .ok (.if_icmp .eq 18, 3) := by decide +kernel
theorem dX12_cut_50 : decode cX12_cut 50 = .ok (.iload 4, 2) := by decide +kernel
theorem dX12_cut_52 : decode cX12_cut 52 = .ok (.invokestatic 332, 3) := by decide +kernel
theorem dX12_cut_55 : decode cX12_cut 55 = .ok (.iload_n 3, 1) := by decide +kernel
theorem dX12_cut_56 : decode cX12_cut 56 = .ok (.invokestatic 332, 3) := by decide +kernel
theorem dX12_cut_59 : decode cX12_cut 59 = .ok (.if_icmp .lt 6, 3) := by decide +kernel
theorem dX12_cut_62 : decode cX12_cut 62 = .ok (.goto 20, 3) := by decide +kernel
theorem dX12_cut_65 : decode cX12_cut 65 = .ok (.aload_n 0, 1) := by decide +kernel
theorem dX12_cut_66 : decode cX12_cut 66 = .ok (.iload_n 1, 1) := by decide +kernel
theorem dX12_cut_67 : decode cX12_cut 67 = .ok (.iload 4, 2) := by decide +kernel
theorem dX12_cut_69 : decode cX12_cut 69 = .ok (.invokevirtual 363, 3) := by decide +kernel
theorem dX12_cut_72 : decode cX12_cut 72 = .ok (.iload_n 2, 1) := by decide +kernel
theorem dX12_cut_73 : decode cX12_cut 73 = .ok (.invokestatic 252, 3) := by decide +kernel
theorem dX12_cut_76 : decode cX12_cut 76 = .ok (.ifCond .ne 6, 3) := by decide +kernel
theorem dX12_cut_79 : decode cX12_cut 79 = .ok (.iload 4, 2) := by decide +kernel
theorem dX12_cut_81 : decode cX12_cut 81 = .ok (.istore_n 3, 1) := by decide +kernel
theorem dX12_cut_82 : decode cX12_cut 82 = .ok (.iinc 4 1, 3) := by decide +kernel
theorem dX12_cut_85 : decode cX12_cut 85 = .ok (.goto (-64), 3) := by decide +kernel
theorem dX12_cut_88 : decode cX12_cut 88 = .ok (.aload_n 0, 1) := by decide +kernel
theorem dX12_cut_89 : decode cX12_cut 89 = .ok (.iconst 0, 1) := by decide +kernel
theorem dX12_cut_90 : decode cX12_cut 90 = .ok (.putfield 104, 3) := by decide +kernel
theorem dX12_cut_93 : decode cX12_cut 93 = .ok (.aload_n 0, 1) := by decide +kernel
theorem dX12_cut_94 : decode cX12_cut 94 = .ok (.iload_n 3, 1) := by decide +kernel
theorem dX12_cut_95 : decode cX12_cut 95 = .ok (.i2l, 1) := by decide +kernel
theorem dX12_cut_96 : decode cX12_cut 96 = .ok (.invokevirtual 274, 3) := by decide +kernel
theorem dX12_cut_99 : decode cX12_cut 99 = .ok (.iload_n 3, 1) := by decide +kernel
theorem dX12_cut_100 : decode cX12_cut 100 = .ok (.invokestatic 332, 3) := by decide +kernel
theorem dX12_cut_103 : decode cX12_cut 103 = .ok (.ireturn, 1) := by decide +kernel
def lb_X12_cut_21 (hh : aH) (v0 : Nat) (v1 : Int32) (v2 : Int32) (s : Int32 × Int32) : Option ((Int32 × Int32) ⊕ ((Int32))) :=
  (gI hh v0 11 2).bind fun x4 =>
  if s.2 < (1 <<< (x4 &&& 31)) then
    (gR hh v0 11 0).bind fun a5 =>
    (aI hh a5 14 13).bind fun x6 =>
    if (s.2 &&& x6) = 0 then
      if s.1 = (-1) then
        (ck hh v0 11).bind fun u8 =>
        (fn_X12_reachOf hh v0 v1 s.2).bind fun x9 =>
        (fn_X12_has hh x9 v2).bind fun x10 =>
        if x10 = 0 then
          (some (s.2 + 1)).bind fun x12 =>
          some (.inl (s.2, x12))
        else
          (some (s.2 + 1)).bind fun x11 =>
          some (.inl (s.1, x11))
      else
        (fn_J6_bitCount_0f7a4 hh s.2).bind fun x14 =>
        (fn_J6_bitCount_0f7a4 hh s.1).bind fun x15 =>
        if x14 < x15 then
          (ck hh v0 11).bind fun u16 =>
          (fn_X12_reachOf hh v0 v1 s.2).bind fun x17 =>
          (fn_X12_has hh x17 v2).bind fun x18 =>
          if x18 = 0 then
            (some (s.2 + 1)).bind fun x20 =>
            some (.inl (s.2, x20))
          else
            (some (s.2 + 1)).bind fun x19 =>
            some (.inl (s.1, x19))
        else
          (some (s.2 + 1)).bind fun x22 =>
          some (.inl (s.1, x22))
    else
      (some (s.2 + 1)).bind fun x7 =>
      some (.inl (s.1, x7))
  else
    some (.inr s.1)
def hd_X12_cut_21 (Γ : aC) (hh : aH) (v0 : Nat) (v1 : Int32) (v2 : Int32) (s : Int32 × Int32) : Prop := Jd Γ (0, 0) 21 [some (.ref v0), some (.int v1), some (.int v2), some (.int s.1), some (.int s.2)] [] hh
def ex_X12_cut_21 (Γ : aC) (hh : aH) (v0 : Nat) (v1 : Int32) (v2 : Int32) (r : (Int32)) : Prop := (fun r => ∀ (j4 : Option Value), Jd Γ (0, 0) 88 [some (.ref v0), some (.int v1), some (.int v2), some (.int r), j4] [] hh) r
set_option maxRecDepth 20000 in
set_option maxHeartbeats 4000000 in
theorem lw_X12_cut_21 {Γ : aC} {d : Nat} (X : Cx Γ RX12 cX12_cut 5 (some .int) (d, 0, 0)) (hd : 3 ≤ d) (hh : aH) (v0 : Nat) (v1 : Int32) (v2 : Int32) : ∀ n s o, lp (lb_X12_cut_21 hh v0 v1 v2) n s = some o → ex_X12_cut_21 Γ hh v0 v1 v2 o → hd_X12_cut_21 Γ hh v0 v1 v2 s := by
  have hd1 : 1 ≤ d := by omega
  refine J_lp _ _ _ ?_
  intro s o hf hk
  unfold lb_X12_cut_21 at hf
  refine r_iload (pc := 21) X dX12_cut_21 rfl ?_
  refine r_iconst (pc := 23) X 1 dX12_cut_23 (by decide) ?_
  refine r_aload_n (pc := 24) X dX12_cut_24 rfl ?_
  obtain ⟨x4, ex4, hf⟩ := ob hf
  refine r_getI (pc := 25) X dX12_cut_25 fl_X12_118 rfl ex4 ?_
  refine r_ishl (pc := 28) X dX12_cut_28 ?_
  refine r_icmp_ge (pc := 29) X 88 dX12_cut_29 (by decide) (fun c26 => ?_) (fun c26 => ?_)
  · rw [if_neg c26] at hf
    obtain rfl := Option.some.inj hf
    exact hk _
  · rw [if_pos c26] at hf
    refine r_iload (pc := 32) X dX12_cut_32 rfl ?_
    refine r_aload_n (pc := 34) X dX12_cut_34 rfl ?_
    obtain ⟨a5, ea5, hf⟩ := ob hf
    refine r_getR (pc := 35) X dX12_cut_35 fl_X12_9 rfl ea5 ?_
    refine r_bipush (pc := 38) X 13 dX12_cut_38 (by decide) ?_
    obtain ⟨x6, ex6, hf⟩ := ob hf
    refine r_iald (pc := 40) X dX12_cut_40 ex6 ?_
    refine r_iand (pc := 41) X dX12_cut_41 ?_
    refine r_if_ne (pc := 42) X 82 dX12_cut_42 (by decide) (fun c25 => ?_) (fun c25 => ?_)
    · rw [if_neg c25] at hf
      obtain ⟨x7, ex7, hf⟩ := ob hf
      refine r_iinc2 (pc := 82) X 1 [some (.ref v0), some (.int v1), some (.int v2), some (.int s.1), some (.int x7)] dX12_cut_82 (by decide) rfl (by decide) ex7 rfl ?_
      refine r_goto (pc := 85) X 21 dX12_cut_85 (by decide) ?_
      obtain rfl := Option.some.inj hf
      exact hk
    · rw [if_pos c25] at hf
      refine r_iload_n (pc := 45) X dX12_cut_45 rfl ?_
      refine r_iconst (pc := 46) X (-1) dX12_cut_46 (by decide) ?_
      refine r_icmp_eq (pc := 47) X 65 dX12_cut_47 (by decide) (fun c24 => ?_) (fun c24 => ?_)
      · rw [if_pos c24] at hf
        refine r_aload_n (pc := 65) X dX12_cut_65 rfl ?_
        refine r_iload_n (pc := 66) X dX12_cut_66 rfl ?_
        refine r_iload (pc := 67) X dX12_cut_67 rfl ?_
        obtain ⟨u8, eu8, hf⟩ := ob hf
        obtain ⟨x9, ex9, hf⟩ := ob hf
        refine r_callVI (pc := 69) X [.int v1, .int s.2] dX12_cut_69 ml_X12_363 vo_X12_reachOf ⟨Nat.le_refl _, Nat.le_refl _⟩ eu8 (ev_X12_reachOf (d := d - 1) (by omega) _ _ _ _ _ ex9) hd1 rfl (Nat.le_of_ble_eq_true rfl) rfl ?_
        refine r_iload_n (pc := 72) X dX12_cut_72 rfl ?_
        obtain ⟨x10, ex10, hf⟩ := ob hf
        refine r_callSI (pc := 73) X [.int x9, .int v2] dX12_cut_73 ml_X12_252 so_X12_has ⟨Nat.le_refl _, Nat.le_refl _⟩ (ev_X12_has (d := d - 1) (by omega) _ _ _ _ ex10) hd1 rfl (Nat.le_of_ble_eq_true rfl) rfl ?_
        refine r_if_ne (pc := 76) X 82 dX12_cut_76 (by decide) (fun c13 => ?_) (fun c13 => ?_)
        · rw [if_neg c13] at hf
          obtain ⟨x11, ex11, hf⟩ := ob hf
          refine r_iinc2 (pc := 82) X 1 [some (.ref v0), some (.int v1), some (.int v2), some (.int s.1), some (.int x11)] dX12_cut_82 (by decide) rfl (by decide) ex11 rfl ?_
          refine r_goto (pc := 85) X 21 dX12_cut_85 (by decide) ?_
          obtain rfl := Option.some.inj hf
          exact hk
        · rw [if_pos c13] at hf
          refine r_iload (pc := 79) X dX12_cut_79 rfl ?_
          refine r_istore_n (pc := 81) X [some (.ref v0), some (.int v1), some (.int v2), some (.int s.2), some (.int s.2)] dX12_cut_81 (by decide) rfl ?_
          obtain ⟨x12, ex12, hf⟩ := ob hf
          refine r_iinc2 (pc := 82) X 1 [some (.ref v0), some (.int v1), some (.int v2), some (.int s.2), some (.int x12)] dX12_cut_82 (by decide) rfl (by decide) ex12 rfl ?_
          refine r_goto (pc := 85) X 21 dX12_cut_85 (by decide) ?_
          obtain rfl := Option.some.inj hf
          exact hk
      · rw [if_neg c24] at hf
        refine r_iload (pc := 50) X dX12_cut_50 rfl ?_
        obtain ⟨x14, ex14, hf⟩ := ob hf
        refine r_callSI (pc := 52) X [.int s.2] dX12_cut_52 ml_X12_332 so_J6_bitCount_0f7a4 ⟨Nat.le_refl _, Nat.le_refl _⟩ (ev_J6_bitCount_0f7a4 (d := d - 1) (by omega) _ _ _ ex14) hd1 rfl (Nat.le_of_ble_eq_true rfl) rfl ?_
        refine r_iload_n (pc := 55) X dX12_cut_55 rfl ?_
        obtain ⟨x15, ex15, hf⟩ := ob hf
        refine r_callSI (pc := 56) X [.int s.1] dX12_cut_56 ml_X12_332 so_J6_bitCount_0f7a4 ⟨Nat.le_refl _, Nat.le_refl _⟩ (ev_J6_bitCount_0f7a4 (d := d - 1) (by omega) _ _ _ ex15) hd1 rfl (Nat.le_of_ble_eq_true rfl) rfl ?_
        refine r_icmp_lt (pc := 59) X 65 dX12_cut_59 (by decide) (fun c23 => ?_) (fun c23 => ?_)
        · rw [if_pos c23] at hf
          refine r_aload_n (pc := 65) X dX12_cut_65 rfl ?_
          refine r_iload_n (pc := 66) X dX12_cut_66 rfl ?_
          refine r_iload (pc := 67) X dX12_cut_67 rfl ?_
          obtain ⟨u16, eu16, hf⟩ := ob hf
          obtain ⟨x17, ex17, hf⟩ := ob hf
          refine r_callVI (pc := 69) X [.int v1, .int s.2] dX12_cut_69 ml_X12_363 vo_X12_reachOf ⟨Nat.le_refl _, Nat.le_refl _⟩ eu16 (ev_X12_reachOf (d := d - 1) (by omega) _ _ _ _ _ ex17) hd1 rfl (Nat.le_of_ble_eq_true rfl) rfl ?_
          refine r_iload_n (pc := 72) X dX12_cut_72 rfl ?_
          obtain ⟨x18, ex18, hf⟩ := ob hf
          refine r_callSI (pc := 73) X [.int x17, .int v2] dX12_cut_73 ml_X12_252 so_X12_has ⟨Nat.le_refl _, Nat.le_refl _⟩ (ev_X12_has (d := d - 1) (by omega) _ _ _ _ ex18) hd1 rfl (Nat.le_of_ble_eq_true rfl) rfl ?_
          refine r_if_ne (pc := 76) X 82 dX12_cut_76 (by decide) (fun c21 => ?_) (fun c21 => ?_)
          · rw [if_neg c21] at hf
            obtain ⟨x19, ex19, hf⟩ := ob hf
            refine r_iinc2 (pc := 82) X 1 [some (.ref v0), some (.int v1), some (.int v2), some (.int s.1), some (.int x19)] dX12_cut_82 (by decide) rfl (by decide) ex19 rfl ?_
            refine r_goto (pc := 85) X 21 dX12_cut_85 (by decide) ?_
            obtain rfl := Option.some.inj hf
            exact hk
          · rw [if_pos c21] at hf
            refine r_iload (pc := 79) X dX12_cut_79 rfl ?_
            refine r_istore_n (pc := 81) X [some (.ref v0), some (.int v1), some (.int v2), some (.int s.2), some (.int s.2)] dX12_cut_81 (by decide) rfl ?_
            obtain ⟨x20, ex20, hf⟩ := ob hf
            refine r_iinc2 (pc := 82) X 1 [some (.ref v0), some (.int v1), some (.int v2), some (.int s.2), some (.int x20)] dX12_cut_82 (by decide) rfl (by decide) ex20 rfl ?_
            refine r_goto (pc := 85) X 21 dX12_cut_85 (by decide) ?_
            obtain rfl := Option.some.inj hf
            exact hk
        · rw [if_neg c23] at hf
          refine r_goto (pc := 62) X 82 dX12_cut_62 (by decide) ?_
          obtain ⟨x22, ex22, hf⟩ := ob hf
          refine r_iinc2 (pc := 82) X 1 [some (.ref v0), some (.int v1), some (.int v2), some (.int s.1), some (.int x22)] dX12_cut_82 (by decide) rfl (by decide) ex22 rfl ?_
          refine r_goto (pc := 85) X 21 dX12_cut_85 (by decide) ?_
          obtain rfl := Option.some.inj hf
          exact hk
def fn_X12_cut (h : aH) (p0 : Nat) (p1 : Int32) (p2 : Int32) : Option (Int32 × aH) :=
  (pI h p0 11 11 0).bind fun h1 =>
  (ck h1 p0 11).bind fun u2 =>
  (fn_X12_areTwo h1 p0 p1 p2).bind fun x3 =>
  if x3 = 0 then
    some ((-1), h1)
  else
    (lp (lb_X12_cut_21 h1 p0 p1 p2) lpN ((-1), 0)).bind fun o27 =>
    (pI h1 p0 11 10 0).bind fun h29 =>
    (ck h29 p0 11).bind fun u30 =>
    (fn_X12_tell h29 p0 (Int32.toInt64 o27)).bind fun h31 =>
    (fn_J6_bitCount_0f7a4 h31 o27).bind fun x32 =>
    some (x32, h31)
set_option maxRecDepth 20000 in
set_option maxHeartbeats 4000000 in
theorem ev_X12_cut {l : Launch} {g : aG} {d : Nat} (hd : 3 ≤ d) (h : aH) (p0 : Nat) (p1 : Int32) (p2 : Int32) (o : Int32 × aH) (hf : fn_X12_cut h p0 p1 p2 = some o) : EvM l g d yX12_cut cX12_cut 5 (some .int) [.ref p0, .int p1, .int p2] h (some (.int o.1), o.2) := by
  refine EvM.of mk_X12_cut (Nat.le_of_ble_eq_true rfl) ?_
  intro Γ hl hg hq X
  have hd1 : 1 ≤ d := by omega
  have hk : RqI Γ o := hq
  unfold fn_X12_cut at hf
  show Jd Γ (0, 0) 0 [some (.ref p0), some (.int p1), some (.int p2), none, none] [] h
  refine r_aload_n (pc := 0) X dX12_cut_0 rfl ?_
  refine r_iconst (pc := 1) X 0 dX12_cut_1 (by decide) ?_
  obtain ⟨h1, eh1, hf⟩ := ob hf
  refine r_putI (pc := 2) X dX12_cut_2 fp_X12_100 rfl eh1 ?_
  refine r_aload_n (pc := 5) X dX12_cut_5 rfl ?_
  refine r_iload_n (pc := 6) X dX12_cut_6 rfl ?_
  refine r_iload_n (pc := 7) X dX12_cut_7 rfl ?_
  obtain ⟨u2, eu2, hf⟩ := ob hf
  obtain ⟨x3, ex3, hf⟩ := ob hf
  refine r_callVI (pc := 8) X [.int p1, .int p2] dX12_cut_8 ml_X12_318 vo_X12_areTwo ⟨Nat.le_refl _, Nat.le_refl _⟩ eu2 (ev_X12_areTwo (d := d - 1) (by omega) _ _ _ _ _ ex3) hd1 rfl (Nat.le_of_ble_eq_true rfl) rfl ?_
  refine r_if_ne (pc := 11) X 16 dX12_cut_11 (by decide) (fun c33 => ?_) (fun c33 => ?_)
  · rw [if_neg c33] at hf
    refine r_iconst (pc := 16) X (-1) dX12_cut_16 (by decide) ?_
    refine r_istore_n (pc := 17) X [some (.ref p0), some (.int p1), some (.int p2), some (.int (-1)), none] dX12_cut_17 (by decide) rfl ?_
    refine r_iconst (pc := 18) X 0 dX12_cut_18 (by decide) ?_
    refine r_istore (pc := 19) X [some (.ref p0), some (.int p1), some (.int p2), some (.int (-1)), some (.int 0)] dX12_cut_19 (by decide) rfl ?_
    obtain ⟨o27, eo27, hf⟩ := ob hf
    refine (lw_X12_cut_21 X hd _ _ _ _ lpN _ o27 eo27 ?_)
    intro j28
    refine r_aload_n (pc := 88) X dX12_cut_88 rfl ?_
    refine r_iconst (pc := 89) X 0 dX12_cut_89 (by decide) ?_
    obtain ⟨h29, eh29, hf⟩ := ob hf
    refine r_putI (pc := 90) X dX12_cut_90 fp_X12_104 rfl eh29 ?_
    refine r_aload_n (pc := 93) X dX12_cut_93 rfl ?_
    refine r_iload_n (pc := 94) X dX12_cut_94 rfl ?_
    refine r_i2l (pc := 95) X dX12_cut_95 ?_
    obtain ⟨u30, eu30, hf⟩ := ob hf
    obtain ⟨h31, eh31, hf⟩ := ob hf
    refine r_callVV (pc := 96) X [.long (Int32.toInt64 o27)] dX12_cut_96 ml_X12_274 vo_X12_tell ⟨Nat.le_refl _, Nat.le_refl _⟩ eu30 (ev_X12_tell (d := d - 1) (by omega) _ _ _ _ eh31) hd1 rfl (Nat.le_of_ble_eq_true rfl) rfl ?_
    refine r_iload_n (pc := 99) X dX12_cut_99 rfl ?_
    obtain ⟨x32, ex32, hf⟩ := ob hf
    refine r_callSI (pc := 100) X [.int o27] dX12_cut_100 ml_X12_332 so_J6_bitCount_0f7a4 ⟨Nat.le_refl _, Nat.le_refl _⟩ (ev_J6_bitCount_0f7a4 (d := d - 1) (by omega) _ _ _ ex32) hd1 rfl (Nat.le_of_ble_eq_true rfl) rfl ?_
    obtain rfl := Option.some.inj hf
    exact r_iret (pc := 103) X dX12_cut_103 hk
  · rw [if_pos c33] at hf
    refine r_iconst (pc := 14) X (-1) dX12_cut_14 (by decide) ?_
    obtain rfl := Option.some.inj hf
    exact r_iret (pc := 15) X dX12_cut_15 hk

theorem dX12_goRing_0 : decode cX12_goRing 0 = .ok (.aload_n 0, 1) := by decide +kernel
theorem dX12_goRing_1 : decode cX12_goRing 1 = .ok (.getfield 16, 3) := by decide +kernel
theorem dX12_goRing_4 : decode cX12_goRing 4 = .ok (.aload_n 0, 1) := by decide +kernel
theorem dX12_goRing_5 : decode cX12_goRing 5 = .ok (.getfield 81, 3) := by decide +kernel
theorem dX12_goRing_8 : decode cX12_goRing 8 = .ok (.iload_n 1, 1) := by decide +kernel
theorem dX12_goRing_9 : decode cX12_goRing 9 = .ok (.iconst 1, 1) := by decide +kernel
theorem dX12_goRing_10 : decode cX12_goRing 10 = .ok (.isub, 1) := by decide +kernel
theorem dX12_goRing_11 : decode cX12_goRing 11 = .ok (.iaload, 1) := by decide +kernel
theorem dX12_goRing_12 : decode cX12_goRing 12 = .ok (.iaload, 1) := by decide +kernel
theorem dX12_goRing_13 : decode cX12_goRing 13 = .ok (.istore_n 3, 1) := by decide +kernel
theorem dX12_goRing_14 : decode cX12_goRing 14 = .ok (.iload_n 3, 1) := by decide +kernel
theorem dX12_goRing_15 : decode cX12_goRing 15 = .ok (.aload_n 0, 1) := by decide +kernel
theorem dX12_goRing_16 : decode cX12_goRing 16 = .ok (.getfield 13, 3) := by decide +kernel
theorem dX12_goRing_19 : decode cX12_goRing 19 = .ok (.aload_n 0, 1) := by decide +kernel
theorem dX12_goRing_20 : decode cX12_goRing 20 = .ok (.getfield 81, 3) := by decide +kernel
theorem dX12_goRing_23 : decode cX12_goRing 23 = .ok (.iconst 0, 1) := by decide +kernel
theorem dX12_goRing_24 : decode cX12_goRing 24 = .ok (.iaload, 1) := by decide +kernel
theorem dX12_goRing_25 : decode cX12_goRing 25 = .ok (.iaload, 1) := by decide +kernel
theorem dX12_goRing_26 : decode cX12_goRing 26 = .ok (.if_icmp .ne 47, 3) := by decide +kernel
theorem dX12_goRing_29 : decode cX12_goRing 29 = .ok (.iload_n 1, 1) := by decide +kernel
theorem dX12_goRing_30 : decode cX12_goRing 30 = .ok (.aload_n 0, 1) := by decide +kernel
theorem dX12_goRing_31 : decode cX12_goRing 31 = .ok (.getfield 372, 3) := by decide +kernel
theorem dX12_goRing_34 : decode cX12_goRing 34 = .ok (.if_icmp .lt 4, 3) := by decide +kernel
theorem dX12_goRing_37 : decode cX12_goRing 37 = .ok (.return_, 1) := by decide +kernel
theorem dX12_goRing_38 : decode cX12_goRing 38 = .ok (.aload_n 0, 1) := by decide +kernel
theorem dX12_goRing_39 : decode cX12_goRing 39 = .ok (.iload_n 1, 1) := by decide +kernel
theorem dX12_goRing_40 : decode cX12_goRing 40 = .ok (.putfield 372, 3) := by decide +kernel
theorem dX12_goRing_43 : decode cX12_goRing 43 = .ok (.iconst 0, 1) := by decide +kernel
theorem dX12_goRing_44 : decode cX12_goRing 44 = .ok (.istore 4, 2) := by decide +kernel
theorem dX12_goRing_46 : decode cX12_goRing 46 = .ok (.iload 4, 2) := by decide +kernel
theorem dX12_goRing_48 : decode cX12_goRing 48 = .ok (.iload_n 1, 1) := by decide +kernel
theorem dX12_goRing_49 : decode cX12_goRing 49 = .ok (.if_icmp .ge 23, 3) := by decide +kernel
theorem dX12_goRing_52 : decode cX12_goRing 52 = .ok (.aload_n 0, 1) := by decide +kernel
theorem dX12_goRing_53 : decode cX12_goRing 53 = .ok (.getfield 84, 3) := by decide +kernel
theorem dX12_goRing_56 : decode cX12_goRing 56 = .ok (.iload 4, 2) := by decide +kernel
theorem dX12_goRing_58 : decode cX12_goRing 58 = .ok (.aload_n 0, 1) := by decide +kernel
theorem dX12_goRing_59 : decode cX12_goRing 59 = .ok (.getfield 81, 3) := by decide +kernel
theorem dX12_goRing_62 : decode cX12_goRing 62 = .ok (.iload 4, 2) := by decide +kernel
theorem dX12_goRing_64 : decode cX12_goRing 64 = .ok (.iaload, 1) := by decide +kernel
theorem dX12_goRing_65 : decode cX12_goRing 65 = .ok (.iastore, 1) := by decide +kernel
theorem dX12_goRing_66 : decode cX12_goRing 66 = .ok (.iinc 4 1, 3) := by decide +kernel
theorem dX12_goRing_69 : decode cX12_goRing 69 = .ok (.goto (-23), 3) := by decide +kernel
theorem dX12_goRing_72 : decode cX12_goRing 72 = .ok (.return_, 1) := by decide +kernel
theorem dX12_goRing_73 : decode cX12_goRing 73 = .ok (.iload_n 2, 1) := by decide +kernel
theorem dX12_goRing_74 : decode cX12_goRing 74 = .ok (.iload_n 3, 1) := by decide +kernel
theorem dX12_goRing_75 : decode cX12_goRing 75 = .ok (.invokestatic 252, 3) := by decide +kernel
theorem dX12_goRing_78 : decode cX12_goRing 78 = .ok (.ifCond .eq 4, 3) := by decide +kernel
theorem dX12_goRing_81 : decode cX12_goRing 81 = .ok (.return_, 1) := by decide +kernel
theorem dX12_goRing_82 : decode cX12_goRing 82 = .ok (.aload_n 0, 1) := by decide +kernel
theorem dX12_goRing_83 : decode cX12_goRing 83 = .ok (.getfield 81, 3) := by decide +kernel
theorem dX12_goRing_86 : decode cX12_goRing 86 = .ok (.iconst 0, 1) := by decide +kernel
theorem dX12_goRing_87 : decode cX12_goRing 87 = .ok (.iaload, 1) := by decide +kernel
theorem dX12_goRing_88 : decode cX12_goRing 88 = .ok (.iconst 1, 1) := by decide +kernel
theorem dX12_goRing_89 : decode cX12_goRing 89 = .ok (.iadd, 1) := by decide +kernel
theorem dX12_goRing_90 : decode cX12_goRing 90 = .ok (.istore 4, 2) := by decide +kernel
theorem dX12_goRing_92 : decode cX12_goRing 92 = .ok (.iload 4, 2) := by decide +kernel
theorem dX12_goRing_94 : decode cX12_goRing 94 = .ok (.aload_n 0, 1) := by decide +kernel
theorem dX12_goRing_95 : decode cX12_goRing 95 = .ok (.getfield 118, 3) := by decide +kernel
theorem dX12_goRing_98 : decode cX12_goRing 98 = .ok (.if_icmp .ge 53, 3) := by decide +kernel
theorem dX12_goRing_101 : decode cX12_goRing 101 = .ok (.aload_n 0, 1) := by decide +kernel
theorem dX12_goRing_102 : decode cX12_goRing 102 = .ok (.iload 4, 2) := by decide +kernel
theorem dX12_goRing_104 : decode cX12_goRing 104 = .ok (.iconst 0, 1) := by decide +kernel
theorem dX12_goRing_105 : decode cX12_goRing 105 = .ok (.invokevirtual 360, 3) := by decide +kernel
theorem dX12_goRing_108 : decode cX12_goRing 108 = .ok (.ifCond .eq 37, 3) := by decide +kernel
theorem dX12_goRing_111 : decode cX12_goRing 111 = .ok (.aload_n 0, 1) := by decide +kernel
theorem dX12_goRing_112 : decode cX12_goRing 112 = .ok (.getfield 13, 3) := by decide +kernel
theorem dX12_goRing_115 : decode cX12_goRing 115 = .ok (.iload 4, 2) := by decide +kernel
theorem dX12_goRing_117 : decode cX12_goRing 117 = .ok (.iaload, 1) := by decide +kernel
theorem dX12_goRing_118 : decode cX12_goRing 118 = .ok (.iload_n 3, 1) := by decide +kernel
theorem dX12_goRing_119 : decode cX12_goRing 119 = .ok (.if_icmp .eq 6, 3) := by decide +kernel
theorem dX12_goRing_122 : decode cX12_goRing 122 = .ok (.goto 23, 3) := by decide +kernel
theorem dX12_goRing_125 : decode cX12_goRing 125 = .ok (.aload_n 0, 1) := by decide +kernel
theorem dX12_goRing_126 : decode cX12_goRing 126 = .ok (.getfield 81, 3) := by decide +kernel
theorem dX12_goRing_129 : decode cX12_goRing 129 = .ok (.iload_n 1, 1) := by decide +kernel
theorem dX12_goRing_130 : decode cX12_goRing 130 = .ok (.iload 4, 2) := by decide +kernel
theorem dX12_goRing_132 : decode cX12_goRing 132 = .ok (.iastore, 1) := by decide +kernel
theorem dX12_goRing_133 : decode cX12_goRing 133 = .ok (.aload_n 0, 1) := by decide +kernel
theorem dX12_goRing_134 : decode cX12_goRing 134 = .ok (.iload_n 1, 1) := by decide +kernel
theorem dX12_goRing_135 : decode cX12_goRing 135 = .ok (.iconst 1, 1) := by decide +kernel
theorem dX12_goRing_136 : decode cX12_goRing 136 = .ok (.iadd, 1) := by decide +kernel
theorem dX12_goRing_137 : decode cX12_goRing 137 = .ok (.iload_n 2, 1) := by decide +kernel
theorem dX12_goRing_138 : decode cX12_goRing 138 = .ok (.iconst 1, 1) := by decide +kernel
theorem dX12_goRing_139 : decode cX12_goRing 139 = .ok (.iload_n 3, 1) := by decide +kernel
theorem dX12_goRing_140 : decode cX12_goRing 140 = .ok (.ishl, 1) := by decide +kernel
theorem dX12_goRing_141 : decode cX12_goRing 141 = .ok (.ior, 1) := by decide +kernel
theorem dX12_goRing_142 : decode cX12_goRing 142 = .ok (.invokevirtual 375, 3) := by decide +kernel
theorem dX12_goRing_145 : decode cX12_goRing 145 = .ok (.iinc 4 1, 3) := by decide +kernel
theorem dX12_goRing_148 : decode cX12_goRing 148 = .ok (.goto (-56), 3) := by decide +kernel
theorem dX12_goRing_151 : decode cX12_goRing 151 = .ok (.return_, 1) := by decide +kernel
def lb_X12_goRing_92 (th : aH → Nat → Int32 → Int32 → Option (aH)) (v0 : Nat) (v1 : Int32) (v2 : Int32) (v3 : Int32) (s : Int32 × aH) : Option ((Int32 × aH) ⊕ ((aH))) :=
  (gI s.2 v0 11 2).bind fun x13 =>
  if s.1 < x13 then
    (ck s.2 v0 11).bind fun u14 =>
    (fn_X12_isFree s.2 v0 s.1 0).bind fun x15 =>
    if x15 = 0 then
      (some (s.1 + 1)).bind fun x16 =>
      some (.inl (x16, s.2))
    else
      (gR s.2 v0 11 4).bind fun a17 =>
      (aI s.2 a17 14 s.1).bind fun x18 =>
      if x18 = v3 then
        (gR s.2 v0 11 40).bind fun a19 =>
        (wI s.2 a19 v1 s.1).bind fun h20 =>
        (ck h20 v0 11).bind fun u21 =>
        (th h20 v0 (v1 + 1) (v2 ||| (1 <<< (v3 &&& 31)))).bind fun h22 =>
        (some (s.1 + 1)).bind fun x23 =>
        some (.inl (x23, h22))
      else
        (some (s.1 + 1)).bind fun x24 =>
        some (.inl (x24, s.2))
  else
    some (.inr s.2)
def hd_X12_goRing_92 (Γ : aC) (v0 : Nat) (v1 : Int32) (v2 : Int32) (v3 : Int32) (s : Int32 × aH) : Prop := Jd Γ (0, 0) 92 [some (.ref v0), some (.int v1), some (.int v2), some (.int v3), some (.int s.1)] [] s.2
def ex_X12_goRing_92 (Γ : aC) (v0 : Nat) (v1 : Int32) (v2 : Int32) (v3 : Int32) (r : (aH)) : Prop := (fun r => RqV Γ r) r
set_option maxRecDepth 20000 in
set_option maxHeartbeats 4000000 in
theorem lw_X12_goRing_92 (th : aH → Nat → Int32 → Int32 → Option (aH)) {Γ : aC} {d D0 : Nat} (X : Cx Γ RX12 cX12_goRing 5 none (d, 0, 0)) (hd : D0 + 2 ≤ d) (hth : ∀ (l : Launch) (g : aG) (d : Nat), D0 ≤ d → ∀ (h : aH) (q0 : Nat) (q1 : Int32) (q2 : Int32) (o : aH), th h q0 q1 q2 = some o → EvM l g d yX12_goRing cX12_goRing 5 none [.ref q0, .int q1, .int q2] h (none, o)) (v0 : Nat) (v1 : Int32) (v2 : Int32) (v3 : Int32) : ∀ n s o, lp (lb_X12_goRing_92 th v0 v1 v2 v3) n s = some o → ex_X12_goRing_92 Γ v0 v1 v2 v3 o → hd_X12_goRing_92 Γ v0 v1 v2 v3 s := by
  have hd1 : 1 ≤ d := by omega
  refine J_lp _ _ _ ?_
  intro s o hf hk
  unfold lb_X12_goRing_92 at hf
  refine r_iload (pc := 92) X dX12_goRing_92 rfl ?_
  refine r_aload_n (pc := 94) X dX12_goRing_94 rfl ?_
  obtain ⟨x13, ex13, hf⟩ := ob hf
  refine r_getI (pc := 95) X dX12_goRing_95 fl_X12_118 rfl ex13 ?_
  refine r_icmp_ge (pc := 98) X 151 dX12_goRing_98 (by decide) (fun c27 => ?_) (fun c27 => ?_)
  · rw [if_neg c27] at hf
    obtain rfl := Option.some.inj hf
    exact r_vret (pc := 151) X dX12_goRing_151 hk
  · rw [if_pos c27] at hf
    refine r_aload_n (pc := 101) X dX12_goRing_101 rfl ?_
    refine r_iload (pc := 102) X dX12_goRing_102 rfl ?_
    refine r_iconst (pc := 104) X 0 dX12_goRing_104 (by decide) ?_
    obtain ⟨u14, eu14, hf⟩ := ob hf
    obtain ⟨x15, ex15, hf⟩ := ob hf
    refine r_callVI (pc := 105) X [.int s.1, .int 0] dX12_goRing_105 ml_X12_360 vo_X12_isFree ⟨Nat.le_refl _, Nat.le_refl _⟩ eu14 (ev_X12_isFree (d := d - 1) (by omega) _ _ _ _ _ ex15) hd1 rfl (Nat.le_of_ble_eq_true rfl) rfl ?_
    refine r_if_eq (pc := 108) X 145 dX12_goRing_108 (by decide) (fun c26 => ?_) (fun c26 => ?_)
    · rw [if_pos c26] at hf
      obtain ⟨x16, ex16, hf⟩ := ob hf
      refine r_iinc2 (pc := 145) X 1 [some (.ref v0), some (.int v1), some (.int v2), some (.int v3), some (.int x16)] dX12_goRing_145 (by decide) rfl (by decide) ex16 rfl ?_
      refine r_goto (pc := 148) X 92 dX12_goRing_148 (by decide) ?_
      obtain rfl := Option.some.inj hf
      exact hk
    · rw [if_neg c26] at hf
      refine r_aload_n (pc := 111) X dX12_goRing_111 rfl ?_
      obtain ⟨a17, ea17, hf⟩ := ob hf
      refine r_getR (pc := 112) X dX12_goRing_112 fl_X12_13 rfl ea17 ?_
      refine r_iload (pc := 115) X dX12_goRing_115 rfl ?_
      obtain ⟨x18, ex18, hf⟩ := ob hf
      refine r_iald (pc := 117) X dX12_goRing_117 ex18 ?_
      refine r_iload_n (pc := 118) X dX12_goRing_118 rfl ?_
      refine r_icmp_eq (pc := 119) X 125 dX12_goRing_119 (by decide) (fun c25 => ?_) (fun c25 => ?_)
      · rw [if_pos c25] at hf
        refine r_aload_n (pc := 125) X dX12_goRing_125 rfl ?_
        obtain ⟨a19, ea19, hf⟩ := ob hf
        refine r_getR (pc := 126) X dX12_goRing_126 fl_X12_81 rfl ea19 ?_
        refine r_iload_n (pc := 129) X dX12_goRing_129 rfl ?_
        refine r_iload (pc := 130) X dX12_goRing_130 rfl ?_
        obtain ⟨h20, eh20, hf⟩ := ob hf
        refine r_iast (pc := 132) X dX12_goRing_132 eh20 ?_
        refine r_aload_n (pc := 133) X dX12_goRing_133 rfl ?_
        refine r_iload_n (pc := 134) X dX12_goRing_134 rfl ?_
        refine r_iconst (pc := 135) X 1 dX12_goRing_135 (by decide) ?_
        refine r_iadd (pc := 136) X dX12_goRing_136 ?_
        refine r_iload_n (pc := 137) X dX12_goRing_137 rfl ?_
        refine r_iconst (pc := 138) X 1 dX12_goRing_138 (by decide) ?_
        refine r_iload_n (pc := 139) X dX12_goRing_139 rfl ?_
        refine r_ishl (pc := 140) X dX12_goRing_140 ?_
        refine r_ior (pc := 141) X dX12_goRing_141 ?_
        obtain ⟨u21, eu21, hf⟩ := ob hf
        obtain ⟨h22, eh22, hf⟩ := ob hf
        refine r_callVV (pc := 142) X [.int (v1 + 1), .int (v2 ||| (1 <<< (v3 &&& 31)))] dX12_goRing_142 ml_X12_375 vo_X12_goRing ⟨Nat.le_refl _, Nat.le_refl _⟩ eu21 (hth _ _ (d - 1) (by omega) _ _ _ _ _ eh22) hd1 rfl (Nat.le_of_ble_eq_true rfl) rfl ?_
        obtain ⟨x23, ex23, hf⟩ := ob hf
        refine r_iinc2 (pc := 145) X 1 [some (.ref v0), some (.int v1), some (.int v2), some (.int v3), some (.int x23)] dX12_goRing_145 (by decide) rfl (by decide) ex23 rfl ?_
        refine r_goto (pc := 148) X 92 dX12_goRing_148 (by decide) ?_
        obtain rfl := Option.some.inj hf
        exact hk
      · rw [if_neg c25] at hf
        refine r_goto (pc := 122) X 145 dX12_goRing_122 (by decide) ?_
        obtain ⟨x24, ex24, hf⟩ := ob hf
        refine r_iinc2 (pc := 145) X 1 [some (.ref v0), some (.int v1), some (.int v2), some (.int v3), some (.int x24)] dX12_goRing_145 (by decide) rfl (by decide) ex24 rfl ?_
        refine r_goto (pc := 148) X 92 dX12_goRing_148 (by decide) ?_
        obtain rfl := Option.some.inj hf
        exact hk
def lb_X12_goRing_46 (th : aH → Nat → Int32 → Int32 → Option (aH)) (v0 : Nat) (v1 : Int32) (s : Int32 × aH) : Option ((Int32 × aH) ⊕ ((aH))) :=
  if s.1 < v1 then
    (gR s.2 v0 11 41).bind fun a32 =>
    (gR s.2 v0 11 40).bind fun a33 =>
    (aI s.2 a33 14 s.1).bind fun x34 =>
    (wI s.2 a32 s.1 x34).bind fun h35 =>
    (some (s.1 + 1)).bind fun x36 =>
    some (.inl (x36, h35))
  else
    some (.inr s.2)
def hd_X12_goRing_46 (Γ : aC) (v0 : Nat) (v1 : Int32) (s : Int32 × aH) : Prop := ∀ (j2 : Option Value) (j3 : Option Value), Jd Γ (0, 0) 46 [some (.ref v0), some (.int v1), j2, j3, some (.int s.1)] [] s.2
def ex_X12_goRing_46 (Γ : aC) (v0 : Nat) (v1 : Int32) (r : (aH)) : Prop := (fun r => RqV Γ r) r
set_option maxRecDepth 20000 in
set_option maxHeartbeats 4000000 in
theorem lw_X12_goRing_46 (th : aH → Nat → Int32 → Int32 → Option (aH)) {Γ : aC} {d D0 : Nat} (X : Cx Γ RX12 cX12_goRing 5 none (d, 0, 0)) (hd : D0 + 2 ≤ d) (hth : ∀ (l : Launch) (g : aG) (d : Nat), D0 ≤ d → ∀ (h : aH) (q0 : Nat) (q1 : Int32) (q2 : Int32) (o : aH), th h q0 q1 q2 = some o → EvM l g d yX12_goRing cX12_goRing 5 none [.ref q0, .int q1, .int q2] h (none, o)) (v0 : Nat) (v1 : Int32) : ∀ n s o, lp (lb_X12_goRing_46 th v0 v1) n s = some o → ex_X12_goRing_46 Γ v0 v1 o → hd_X12_goRing_46 Γ v0 v1 s := by
  have hd1 : 1 ≤ d := by omega
  refine J_lp _ _ _ ?_
  intro s o hf hk j2 j3
  unfold lb_X12_goRing_46 at hf
  refine r_iload (pc := 46) X dX12_goRing_46 rfl ?_
  refine r_iload_n (pc := 48) X dX12_goRing_48 rfl ?_
  refine r_icmp_ge (pc := 49) X 72 dX12_goRing_49 (by decide) (fun c37 => ?_) (fun c37 => ?_)
  · rw [if_neg c37] at hf
    obtain rfl := Option.some.inj hf
    exact r_vret (pc := 72) X dX12_goRing_72 hk
  · rw [if_pos c37] at hf
    refine r_aload_n (pc := 52) X dX12_goRing_52 rfl ?_
    obtain ⟨a32, ea32, hf⟩ := ob hf
    refine r_getR (pc := 53) X dX12_goRing_53 fl_X12_84 rfl ea32 ?_
    refine r_iload (pc := 56) X dX12_goRing_56 rfl ?_
    refine r_aload_n (pc := 58) X dX12_goRing_58 rfl ?_
    obtain ⟨a33, ea33, hf⟩ := ob hf
    refine r_getR (pc := 59) X dX12_goRing_59 fl_X12_81 rfl ea33 ?_
    refine r_iload (pc := 62) X dX12_goRing_62 rfl ?_
    obtain ⟨x34, ex34, hf⟩ := ob hf
    refine r_iald (pc := 64) X dX12_goRing_64 ex34 ?_
    obtain ⟨h35, eh35, hf⟩ := ob hf
    refine r_iast (pc := 65) X dX12_goRing_65 eh35 ?_
    obtain ⟨x36, ex36, hf⟩ := ob hf
    refine r_fg 3 [some (.ref v0), some (.int v1), j2, none, some (.int s.1)] rfl ?_
    refine r_iinc2 (pc := 66) X 1 [some (.ref v0), some (.int v1), j2, none, some (.int x36)] dX12_goRing_66 (by decide) rfl (by decide) ex36 rfl ?_
    refine r_goto (pc := 69) X 46 dX12_goRing_69 (by decide) ?_
    obtain rfl := Option.some.inj hf
    exact hk _ _
def fnF_X12_goRing (th : aH → Nat → Int32 → Int32 → Option (aH)) (h : aH) (p0 : Nat) (p1 : Int32) (p2 : Int32) : Option (aH) :=
  (gR h p0 11 5).bind fun a1 =>
  (gR h p0 11 40).bind fun a2 =>
  (aI h a2 14 (p1 - 1)).bind fun x3 =>
  (aI h a1 14 x3).bind fun x4 =>
  (gR h p0 11 4).bind fun a5 =>
  (gR h p0 11 40).bind fun a6 =>
  (aI h a6 14 0).bind fun x7 =>
  (aI h a5 14 x7).bind fun x8 =>
  if x4 = x8 then
    (gI h p0 11 42).bind fun x30 =>
    if p1 < x30 then
      (pI h p0 11 42 p1).bind fun h31 =>
      (lp (lb_X12_goRing_46 th p0 p1) lpN (0, h31)).bind fun o38 =>
      some o38
    else
      some h
  else
    (fn_X12_has h p2 x4).bind fun x9 =>
    if x9 = 0 then
      (gR h p0 11 40).bind fun a10 =>
      (aI h a10 14 0).bind fun x11 =>
      (some (x11 + 1)).bind fun x12 =>
      (lp (lb_X12_goRing_92 th p0 p1 p2 x4) lpN (x12, h)).bind fun o28 =>
      some o28
    else
      some h
set_option maxRecDepth 20000 in
set_option maxHeartbeats 4000000 in
theorem evF_X12_goRing (th : aH → Nat → Int32 → Int32 → Option (aH)) {l : Launch} {g : aG} {d D0 : Nat} (hd : D0 + 2 ≤ d) (hth : ∀ (l : Launch) (g : aG) (d : Nat), D0 ≤ d → ∀ (h : aH) (q0 : Nat) (q1 : Int32) (q2 : Int32) (o : aH), th h q0 q1 q2 = some o → EvM l g d yX12_goRing cX12_goRing 5 none [.ref q0, .int q1, .int q2] h (none, o)) (h : aH) (p0 : Nat) (p1 : Int32) (p2 : Int32) (o : aH) (hf : fnF_X12_goRing th h p0 p1 p2 = some o) : EvM l g d yX12_goRing cX12_goRing 5 none [.ref p0, .int p1, .int p2] h (none, o) := by
  refine EvM.of mk_X12_goRing (Nat.le_of_ble_eq_true rfl) ?_
  intro Γ hl hg hq X
  have hd1 : 1 ≤ d := by omega
  have hk : RqV Γ o := hq
  unfold fnF_X12_goRing at hf
  show Jd Γ (0, 0) 0 [some (.ref p0), some (.int p1), some (.int p2), none, none] [] h
  refine r_aload_n (pc := 0) X dX12_goRing_0 rfl ?_
  obtain ⟨a1, ea1, hf⟩ := ob hf
  refine r_getR (pc := 1) X dX12_goRing_1 fl_X12_16 rfl ea1 ?_
  refine r_aload_n (pc := 4) X dX12_goRing_4 rfl ?_
  obtain ⟨a2, ea2, hf⟩ := ob hf
  refine r_getR (pc := 5) X dX12_goRing_5 fl_X12_81 rfl ea2 ?_
  refine r_iload_n (pc := 8) X dX12_goRing_8 rfl ?_
  refine r_iconst (pc := 9) X 1 dX12_goRing_9 (by decide) ?_
  refine r_isub (pc := 10) X dX12_goRing_10 ?_
  obtain ⟨x3, ex3, hf⟩ := ob hf
  refine r_iald (pc := 11) X dX12_goRing_11 ex3 ?_
  obtain ⟨x4, ex4, hf⟩ := ob hf
  refine r_iald (pc := 12) X dX12_goRing_12 ex4 ?_
  refine r_istore_n (pc := 13) X [some (.ref p0), some (.int p1), some (.int p2), some (.int x4), none] dX12_goRing_13 (by decide) rfl ?_
  refine r_iload_n (pc := 14) X dX12_goRing_14 rfl ?_
  refine r_aload_n (pc := 15) X dX12_goRing_15 rfl ?_
  obtain ⟨a5, ea5, hf⟩ := ob hf
  refine r_getR (pc := 16) X dX12_goRing_16 fl_X12_13 rfl ea5 ?_
  refine r_aload_n (pc := 19) X dX12_goRing_19 rfl ?_
  obtain ⟨a6, ea6, hf⟩ := ob hf
  refine r_getR (pc := 20) X dX12_goRing_20 fl_X12_81 rfl ea6 ?_
  refine r_iconst (pc := 23) X 0 dX12_goRing_23 (by decide) ?_
  obtain ⟨x7, ex7, hf⟩ := ob hf
  refine r_iald (pc := 24) X dX12_goRing_24 ex7 ?_
  obtain ⟨x8, ex8, hf⟩ := ob hf
  refine r_iald (pc := 25) X dX12_goRing_25 ex8 ?_
  refine r_icmp_ne (pc := 26) X 73 dX12_goRing_26 (by decide) (fun c40 => ?_) (fun c40 => ?_)
  · rw [if_neg c40] at hf
    refine r_iload_n (pc := 73) X dX12_goRing_73 rfl ?_
    refine r_iload_n (pc := 74) X dX12_goRing_74 rfl ?_
    obtain ⟨x9, ex9, hf⟩ := ob hf
    refine r_callSI (pc := 75) X [.int p2, .int x4] dX12_goRing_75 ml_X12_252 so_X12_has ⟨Nat.le_refl _, Nat.le_refl _⟩ (ev_X12_has (d := d - 1) (by omega) _ _ _ _ ex9) hd1 rfl (Nat.le_of_ble_eq_true rfl) rfl ?_
    refine r_if_eq (pc := 78) X 82 dX12_goRing_78 (by decide) (fun c29 => ?_) (fun c29 => ?_)
    · rw [if_pos c29] at hf
      refine r_aload_n (pc := 82) X dX12_goRing_82 rfl ?_
      obtain ⟨a10, ea10, hf⟩ := ob hf
      refine r_getR (pc := 83) X dX12_goRing_83 fl_X12_81 rfl ea10 ?_
      refine r_iconst (pc := 86) X 0 dX12_goRing_86 (by decide) ?_
      obtain ⟨x11, ex11, hf⟩ := ob hf
      refine r_iald (pc := 87) X dX12_goRing_87 ex11 ?_
      refine r_iconst (pc := 88) X 1 dX12_goRing_88 (by decide) ?_
      refine r_iadd (pc := 89) X dX12_goRing_89 ?_
      obtain ⟨x12, ex12, hf⟩ := ob hf
      refine r_nmI ex12 ?_
      refine r_istore (pc := 90) X [some (.ref p0), some (.int p1), some (.int p2), some (.int x4), some (.int x12)] dX12_goRing_90 (by decide) rfl ?_
      obtain ⟨o28, eo28, hf⟩ := ob hf
      refine (lw_X12_goRing_92 th X hd hth _ _ _ _ lpN _ o28 eo28 ?_)
      obtain rfl := Option.some.inj hf
      exact hk
    · rw [if_neg c29] at hf
      obtain rfl := Option.some.inj hf
      exact r_vret (pc := 81) X dX12_goRing_81 hk
  · rw [if_pos c40] at hf
    refine r_iload_n (pc := 29) X dX12_goRing_29 rfl ?_
    refine r_aload_n (pc := 30) X dX12_goRing_30 rfl ?_
    obtain ⟨x30, ex30, hf⟩ := ob hf
    refine r_getI (pc := 31) X dX12_goRing_31 fl_X12_372 rfl ex30 ?_
    refine r_icmp_lt (pc := 34) X 38 dX12_goRing_34 (by decide) (fun c39 => ?_) (fun c39 => ?_)
    · rw [if_pos c39] at hf
      refine r_aload_n (pc := 38) X dX12_goRing_38 rfl ?_
      refine r_iload_n (pc := 39) X dX12_goRing_39 rfl ?_
      obtain ⟨h31, eh31, hf⟩ := ob hf
      refine r_putI (pc := 40) X dX12_goRing_40 fp_X12_372 rfl eh31 ?_
      refine r_iconst (pc := 43) X 0 dX12_goRing_43 (by decide) ?_
      refine r_istore (pc := 44) X [some (.ref p0), some (.int p1), some (.int p2), some (.int x4), some (.int 0)] dX12_goRing_44 (by decide) rfl ?_
      obtain ⟨o38, eo38, hf⟩ := ob hf
      refine (lw_X12_goRing_46 th X hd hth _ _ lpN _ o38 eo38 ?_) _ _
      obtain rfl := Option.some.inj hf
      exact hk
    · rw [if_neg c39] at hf
      obtain rfl := Option.some.inj hf
      exact r_vret (pc := 37) X dX12_goRing_37 hk

def fn_X12_goRing : Nat → aH → Nat → Int32 → Int32 → Option (aH)
  | 0 => fun _ _ _ _ => none
  | n + 1 => fnF_X12_goRing (fn_X12_goRing n)
theorem ev_X12_goRing (n : Nat) : ∀ (l : Launch) (g : aG) (d : Nat), 2 * n ≤ d → ∀ (h : aH) (q0 : Nat) (q1 : Int32) (q2 : Int32) (o : aH), fn_X12_goRing n h q0 q1 q2 = some o → EvM l g d yX12_goRing cX12_goRing 5 none [.ref q0, .int q1, .int q2] h (none, o) := by
  induction n with
  | zero => intro l g d hd h q0 q1 q2 o hf; cases hf
  | succ n ih => intro l g d hd h q0 q1 q2 o hf; exact evF_X12_goRing (fn_X12_goRing n) (D0 := 2 * n) (by omega) ih h q0 q1 q2 o hf

theorem dX12_ring_0 : decode cX12_ring 0 = .ok (.aload_n 0, 1) := by decide +kernel
theorem dX12_ring_1 : decode cX12_ring 1 = .ok (.iconst 0, 1) := by decide +kernel
theorem dX12_ring_2 : decode cX12_ring 2 = .ok (.putfield 100, 3) := by decide +kernel
theorem dX12_ring_5 : decode cX12_ring 5 = .ok (.aload_n 0, 1) := by decide +kernel
theorem dX12_ring_6 : decode cX12_ring 6 = .ok (.ldc_w 356, 3) := by decide +kernel
theorem dX12_ring_9 : decode cX12_ring 9 = .ok (.putfield 372, 3) := by decide +kernel
theorem dX12_ring_12 : decode cX12_ring 12 = .ok (.iconst 0, 1) := by decide +kernel
theorem dX12_ring_13 : decode cX12_ring 13 = .ok (.istore_n 1, 1) := by decide +kernel
theorem dX12_ring_14 : decode cX12_ring 14 = .ok (.iload_n 1, 1) := by decide +kernel
theorem dX12_ring_15 : decode cX12_ring 15 = .ok (.aload_n 0, 1) := by decide +kernel
theorem dX12_ring_16 : decode cX12_ring 16 = .ok (.getfield 118, 3) := by decide +kernel
theorem dX12_ring_19 : decode cX12_ring 19 = .ok (.if_icmp .ge 41, 3) := by decide +kernel
theorem dX12_ring_22 : decode cX12_ring 22 = .ok (.aload_n 0, 1) := by decide +kernel
theorem dX12_ring_23 : decode cX12_ring 23 = .ok (.iload_n 1, 1) := by decide +kernel
theorem dX12_ring_24 : decode cX12_ring 24 = .ok (.iconst 0, 1) := by decide +kernel
theorem dX12_ring_25 : decode cX12_ring 25 = .ok (.invokevirtual 360, 3) := by decide +kernel
theorem dX12_ring_28 : decode cX12_ring 28 = .ok (.ifCond .ne 6, 3) := by decide +kernel
theorem dX12_ring_31 : decode cX12_ring 31 = .ok (.goto 23, 3) := by decide +kernel
theorem dX12_ring_34 : decode cX12_ring 34 = .ok (.aload_n 0, 1) := by decide +kernel
theorem dX12_ring_35 : decode cX12_ring 35 = .ok (.getfield 81, 3) := by decide +kernel
theorem dX12_ring_38 : decode cX12_ring 38 = .ok (.iconst 0, 1) := by decide +kernel
theorem dX12_ring_39 : decode cX12_ring 39 = .ok (.iload_n 1, 1) := by decide +kernel
theorem dX12_ring_40 : decode cX12_ring 40 = .ok (.iastore, 1) := by decide +kernel
theorem dX12_ring_41 : decode cX12_ring 41 = .ok (.aload_n 0, 1) := by decide +kernel
theorem dX12_ring_42 : decode cX12_ring 42 = .ok (.iconst 1, 1) := by decide +kernel
theorem dX12_ring_43 : decode cX12_ring 43 = .ok (.iconst 1, 1) := by decide +kernel
theorem dX12_ring_44 : decode cX12_ring 44 = .ok (.aload_n 0, 1) := by decide +kernel
theorem dX12_ring_45 : decode cX12_ring 45 = .ok (.getfield 13, 3) := by decide +kernel
theorem dX12_ring_48 : decode cX12_ring 48 = .ok (.iload_n 1, 1) := by decide +kernel
theorem dX12_ring_49 : decode cX12_ring 49 = .ok (.iaload, 1) := by decide +kernel
theorem dX12_ring_50 : decode cX12_ring 50 = .ok (.ishl, 1) := by decide +kernel
theorem dX12_ring_51 : decode cX12_ring 51 = .ok (.invokevirtual 375, 3) := by decide +kernel
theorem dX12_ring_54 : decode cX12_ring 54 = .ok (.iinc 1 1, 3) := by decide +kernel
theorem dX12_ring_57 : decode cX12_ring 57 = .ok (.goto (-43), 3) := by decide +kernel
theorem dX12_ring_60 : decode cX12_ring 60 = .ok (.aload_n 0, 1) := by decide +kernel
theorem dX12_ring_61 : decode cX12_ring 61 = .ok (.getfield 372, 3) := by decide +kernel
theorem dX12_ring_64 : decode cX12_ring 64 = .ok (.ldc_w 356, 3) := by decide +kernel
theorem dX12_ring_67 : decode cX12_ring 67 = .ok (.if_icmp .ne 6, 3) := by decide +kernel
theorem dX12_ring_70 : decode cX12_ring 70 = .ok (.bipush (-2), 2) := by decide +kernel
theorem dX12_ring_72 : decode cX12_ring 72 = .ok (.ireturn, 1) := by decide +kernel
theorem dX12_ring_73 : decode cX12_ring 73 = .ok (.aload_n 0, 1) := by decide +kernel
theorem dX12_ring_74 : decode cX12_ring 74 = .ok (.iconst 0, 1) := by decide +kernel
theorem dX12_ring_75 : decode cX12_ring 75 = .ok (.putfield 104, 3) := by decide +kernel
theorem dX12_ring_78 : decode cX12_ring 78 = .ok (.iconst 0, 1) := by decide +kernel
theorem dX12_ring_79 : decode cX12_ring 79 = .ok (.istore_n 1, 1) := by decide +kernel
theorem dX12_ring_80 : decode cX12_ring 80 = .ok (.iload_n 1, 1) := by decide +kernel
theorem dX12_ring_81 : decode cX12_ring 81 = .ok (.aload_n 0, 1) := by decide +kernel
theorem dX12_ring_82 : decode cX12_ring 82 = .ok (.getfield 372, 3) := by decide +kernel
theorem dX12_ring_85 : decode cX12_ring 85 = .ok (.if_icmp .ge 20, 3) := by decide +kernel
theorem dX12_ring_88 : decode cX12_ring 88 = .ok (.aload_n 0, 1) := by decide +kernel
theorem dX12_ring_89 : decode cX12_ring 89 = .ok (.aload_n 0, 1) := by decide +kernel
theorem dX12_ring_90 : decode cX12_ring 90 = .ok (.getfield 84, 3) := by decide +kernel
theorem dX12_ring_93 : decode cX12_ring 93 = .ok (.iload_n 1, 1) := by decide +kernel
theorem dX12_ring_94 : decode cX12_ring 94 = .ok (.iaload, 1) := by decide +kernel
theorem dX12_ring_95 : decode cX12_ring 95 = .ok (.i2l, 1) := by decide +kernel
theorem dX12_ring_96 : decode cX12_ring 96 = .ok (.invokevirtual 274, 3) := by decide +kernel
theorem dX12_ring_99 : decode cX12_ring 99 = .ok (.iinc 1 1, 3) := by decide +kernel
theorem dX12_ring_102 : decode cX12_ring 102 = .ok (.goto (-22), 3) := by decide +kernel
theorem dX12_ring_105 : decode cX12_ring 105 = .ok (.aload_n 0, 1) := by decide +kernel
theorem dX12_ring_106 : decode cX12_ring 106 = .ok (.getfield 372, 3) := by decide +kernel
theorem dX12_ring_109 : decode cX12_ring 109 = .ok (.ireturn, 1) := by decide +kernel
def lb_X12_ring_14 (v0 : Nat) (s : Int32 × aH) : Option ((Int32 × aH) ⊕ ((aH))) :=
  (gI s.2 v0 11 2).bind fun x3 =>
  if s.1 < x3 then
    (ck s.2 v0 11).bind fun u4 =>
    (fn_X12_isFree s.2 v0 s.1 0).bind fun x5 =>
    if x5 = 0 then
      (some (s.1 + 1)).bind fun x13 =>
      some (.inl (x13, s.2))
    else
      (gR s.2 v0 11 40).bind fun a6 =>
      (wI s.2 a6 0 s.1).bind fun h7 =>
      (gR h7 v0 11 4).bind fun a8 =>
      (aI h7 a8 14 s.1).bind fun x9 =>
      (ck h7 v0 11).bind fun u10 =>
      (fn_X12_goRing 10 h7 v0 1 (1 <<< (x9 &&& 31))).bind fun h11 =>
      (some (s.1 + 1)).bind fun x12 =>
      some (.inl (x12, h11))
  else
    some (.inr s.2)
def hd_X12_ring_14 (Γ : aC) (v0 : Nat) (s : Int32 × aH) : Prop := Jd Γ (0, 0) 14 [some (.ref v0), some (.int s.1)] [] s.2
def ex_X12_ring_14 (Γ : aC) (v0 : Nat) (r : (aH)) : Prop := (fun r => ∀ (j1 : Option Value), Jd Γ (0, 0) 60 [some (.ref v0), j1] [] r) r
set_option maxRecDepth 20000 in
set_option maxHeartbeats 4000000 in
theorem lw_X12_ring_14 {Γ : aC} {d : Nat} (X : Cx Γ RX12 cX12_ring 2 (some .int) (d, 0, 0)) (hd : 21 ≤ d) (v0 : Nat) : ∀ n s o, lp (lb_X12_ring_14 v0) n s = some o → ex_X12_ring_14 Γ v0 o → hd_X12_ring_14 Γ v0 s := by
  have hd1 : 1 ≤ d := by omega
  refine J_lp _ _ _ ?_
  intro s o hf hk
  unfold lb_X12_ring_14 at hf
  refine r_iload_n (pc := 14) X dX12_ring_14 rfl ?_
  refine r_aload_n (pc := 15) X dX12_ring_15 rfl ?_
  obtain ⟨x3, ex3, hf⟩ := ob hf
  refine r_getI (pc := 16) X dX12_ring_16 fl_X12_118 rfl ex3 ?_
  refine r_icmp_ge (pc := 19) X 60 dX12_ring_19 (by decide) (fun c15 => ?_) (fun c15 => ?_)
  · rw [if_neg c15] at hf
    obtain rfl := Option.some.inj hf
    exact hk _
  · rw [if_pos c15] at hf
    refine r_aload_n (pc := 22) X dX12_ring_22 rfl ?_
    refine r_iload_n (pc := 23) X dX12_ring_23 rfl ?_
    refine r_iconst (pc := 24) X 0 dX12_ring_24 (by decide) ?_
    obtain ⟨u4, eu4, hf⟩ := ob hf
    obtain ⟨x5, ex5, hf⟩ := ob hf
    refine r_callVI (pc := 25) X [.int s.1, .int 0] dX12_ring_25 ml_X12_360 vo_X12_isFree ⟨Nat.le_refl _, Nat.le_refl _⟩ eu4 (ev_X12_isFree (d := d - 1) (by omega) _ _ _ _ _ ex5) hd1 rfl (Nat.le_of_ble_eq_true rfl) rfl ?_
    refine r_if_ne (pc := 28) X 34 dX12_ring_28 (by decide) (fun c14 => ?_) (fun c14 => ?_)
    · rw [if_neg c14] at hf
      refine r_aload_n (pc := 34) X dX12_ring_34 rfl ?_
      obtain ⟨a6, ea6, hf⟩ := ob hf
      refine r_getR (pc := 35) X dX12_ring_35 fl_X12_81 rfl ea6 ?_
      refine r_iconst (pc := 38) X 0 dX12_ring_38 (by decide) ?_
      refine r_iload_n (pc := 39) X dX12_ring_39 rfl ?_
      obtain ⟨h7, eh7, hf⟩ := ob hf
      refine r_iast (pc := 40) X dX12_ring_40 eh7 ?_
      refine r_aload_n (pc := 41) X dX12_ring_41 rfl ?_
      refine r_iconst (pc := 42) X 1 dX12_ring_42 (by decide) ?_
      refine r_iconst (pc := 43) X 1 dX12_ring_43 (by decide) ?_
      refine r_aload_n (pc := 44) X dX12_ring_44 rfl ?_
      obtain ⟨a8, ea8, hf⟩ := ob hf
      refine r_getR (pc := 45) X dX12_ring_45 fl_X12_13 rfl ea8 ?_
      refine r_iload_n (pc := 48) X dX12_ring_48 rfl ?_
      obtain ⟨x9, ex9, hf⟩ := ob hf
      refine r_iald (pc := 49) X dX12_ring_49 ex9 ?_
      refine r_ishl (pc := 50) X dX12_ring_50 ?_
      obtain ⟨u10, eu10, hf⟩ := ob hf
      obtain ⟨h11, eh11, hf⟩ := ob hf
      refine r_callVV (pc := 51) X [.int 1, .int (1 <<< (x9 &&& 31))] dX12_ring_51 ml_X12_375 vo_X12_goRing ⟨Nat.le_refl _, Nat.le_refl _⟩ eu10 (ev_X12_goRing 10 _ _ (d - 1) (by omega) _ _ _ _ _ eh11) hd1 rfl (Nat.le_of_ble_eq_true rfl) rfl ?_
      obtain ⟨x12, ex12, hf⟩ := ob hf
      refine r_iinc2 (pc := 54) X 1 [some (.ref v0), some (.int x12)] dX12_ring_54 (by decide) rfl (by decide) ex12 rfl ?_
      refine r_goto (pc := 57) X 14 dX12_ring_57 (by decide) ?_
      obtain rfl := Option.some.inj hf
      exact hk
    · rw [if_pos c14] at hf
      refine r_goto (pc := 31) X 54 dX12_ring_31 (by decide) ?_
      obtain ⟨x13, ex13, hf⟩ := ob hf
      refine r_iinc2 (pc := 54) X 1 [some (.ref v0), some (.int x13)] dX12_ring_54 (by decide) rfl (by decide) ex13 rfl ?_
      refine r_goto (pc := 57) X 14 dX12_ring_57 (by decide) ?_
      obtain rfl := Option.some.inj hf
      exact hk
def lb_X12_ring_80 (v0 : Nat) (s : Int32 × aH) : Option ((Int32 × aH) ⊕ ((Int32 × aH))) :=
  (gI s.2 v0 11 42).bind fun x20 =>
  if s.1 < x20 then
    (gR s.2 v0 11 41).bind fun a22 =>
    (aI s.2 a22 14 s.1).bind fun x23 =>
    (ck s.2 v0 11).bind fun u24 =>
    (fn_X12_tell s.2 v0 (Int32.toInt64 x23)).bind fun h25 =>
    (some (s.1 + 1)).bind fun x26 =>
    some (.inl (x26, h25))
  else
    (gI s.2 v0 11 42).bind fun x21 =>
    some (.inr (x21, s.2))
def hd_X12_ring_80 (Γ : aC) (v0 : Nat) (s : Int32 × aH) : Prop := Jd Γ (0, 0) 80 [some (.ref v0), some (.int s.1)] [] s.2
def ex_X12_ring_80 (Γ : aC) (v0 : Nat) (r : (Int32 × aH)) : Prop := (fun r => RqI Γ r) r
set_option maxRecDepth 20000 in
set_option maxHeartbeats 4000000 in
theorem lw_X12_ring_80 {Γ : aC} {d : Nat} (X : Cx Γ RX12 cX12_ring 2 (some .int) (d, 0, 0)) (hd : 21 ≤ d) (v0 : Nat) : ∀ n s o, lp (lb_X12_ring_80 v0) n s = some o → ex_X12_ring_80 Γ v0 o → hd_X12_ring_80 Γ v0 s := by
  have hd1 : 1 ≤ d := by omega
  refine J_lp _ _ _ ?_
  intro s o hf hk
  unfold lb_X12_ring_80 at hf
  refine r_iload_n (pc := 80) X dX12_ring_80 rfl ?_
  refine r_aload_n (pc := 81) X dX12_ring_81 rfl ?_
  obtain ⟨x20, ex20, hf⟩ := ob hf
  refine r_getI (pc := 82) X dX12_ring_82 fl_X12_372 rfl ex20 ?_
  refine r_icmp_ge (pc := 85) X 105 dX12_ring_85 (by decide) (fun c27 => ?_) (fun c27 => ?_)
  · rw [if_neg c27] at hf
    refine r_aload_n (pc := 105) X dX12_ring_105 rfl ?_
    obtain ⟨x21, ex21, hf⟩ := ob hf
    refine r_getI (pc := 106) X dX12_ring_106 fl_X12_372 rfl ex21 ?_
    obtain rfl := Option.some.inj hf
    exact r_iret (pc := 109) X dX12_ring_109 hk
  · rw [if_pos c27] at hf
    refine r_aload_n (pc := 88) X dX12_ring_88 rfl ?_
    refine r_aload_n (pc := 89) X dX12_ring_89 rfl ?_
    obtain ⟨a22, ea22, hf⟩ := ob hf
    refine r_getR (pc := 90) X dX12_ring_90 fl_X12_84 rfl ea22 ?_
    refine r_iload_n (pc := 93) X dX12_ring_93 rfl ?_
    obtain ⟨x23, ex23, hf⟩ := ob hf
    refine r_iald (pc := 94) X dX12_ring_94 ex23 ?_
    refine r_i2l (pc := 95) X dX12_ring_95 ?_
    obtain ⟨u24, eu24, hf⟩ := ob hf
    obtain ⟨h25, eh25, hf⟩ := ob hf
    refine r_callVV (pc := 96) X [.long (Int32.toInt64 x23)] dX12_ring_96 ml_X12_274 vo_X12_tell ⟨Nat.le_refl _, Nat.le_refl _⟩ eu24 (ev_X12_tell (d := d - 1) (by omega) _ _ _ _ eh25) hd1 rfl (Nat.le_of_ble_eq_true rfl) rfl ?_
    obtain ⟨x26, ex26, hf⟩ := ob hf
    refine r_iinc2 (pc := 99) X 1 [some (.ref v0), some (.int x26)] dX12_ring_99 (by decide) rfl (by decide) ex26 rfl ?_
    refine r_goto (pc := 102) X 80 dX12_ring_102 (by decide) ?_
    obtain rfl := Option.some.inj hf
    exact hk
def fn_X12_ring (h : aH) (p0 : Nat) : Option (Int32 × aH) :=
  (pI h p0 11 11 0).bind fun h1 =>
  (pI h1 p0 11 42 1000000).bind fun h2 =>
  (lp (lb_X12_ring_14 p0) lpN (0, h2)).bind fun o16 =>
  (gI o16 p0 11 42).bind fun x18 =>
  if x18 = 1000000 then
    some ((-2), o16)
  else
    (pI o16 p0 11 10 0).bind fun h19 =>
    (lp (lb_X12_ring_80 p0) lpN (0, h19)).bind fun o28 =>
    some o28
set_option maxRecDepth 20000 in
set_option maxHeartbeats 4000000 in
theorem ev_X12_ring {l : Launch} {g : aG} {d : Nat} (hd : 21 ≤ d) (h : aH) (p0 : Nat) (o : Int32 × aH) (hf : fn_X12_ring h p0 = some o) : EvM l g d yX12_ring cX12_ring 2 (some .int) [.ref p0] h (some (.int o.1), o.2) := by
  refine EvM.of mk_X12_ring (Nat.le_of_ble_eq_true rfl) ?_
  intro Γ hl hg hq X
  have hd1 : 1 ≤ d := by omega
  have hk : RqI Γ o := hq
  unfold fn_X12_ring at hf
  show Jd Γ (0, 0) 0 [some (.ref p0), none] [] h
  refine r_aload_n (pc := 0) X dX12_ring_0 rfl ?_
  refine r_iconst (pc := 1) X 0 dX12_ring_1 (by decide) ?_
  obtain ⟨h1, eh1, hf⟩ := ob hf
  refine r_putI (pc := 2) X dX12_ring_2 fp_X12_100 rfl eh1 ?_
  refine r_aload_n (pc := 5) X dX12_ring_5 rfl ?_
  refine r_ldcw (pc := 6) X 1000000 dX12_ring_6 kc_X12_356 ?_
  obtain ⟨h2, eh2, hf⟩ := ob hf
  refine r_putI (pc := 9) X dX12_ring_9 fp_X12_372 rfl eh2 ?_
  refine r_iconst (pc := 12) X 0 dX12_ring_12 (by decide) ?_
  refine r_istore_n (pc := 13) X [some (.ref p0), some (.int 0)] dX12_ring_13 (by decide) rfl ?_
  obtain ⟨o16, eo16, hf⟩ := ob hf
  refine (lw_X12_ring_14 X hd _ lpN _ o16 eo16 ?_)
  intro j17
  refine r_aload_n (pc := 60) X dX12_ring_60 rfl ?_
  obtain ⟨x18, ex18, hf⟩ := ob hf
  refine r_getI (pc := 61) X dX12_ring_61 fl_X12_372 rfl ex18 ?_
  refine r_ldcw (pc := 64) X 1000000 dX12_ring_64 kc_X12_356 ?_
  refine r_icmp_ne (pc := 67) X 73 dX12_ring_67 (by decide) (fun c29 => ?_) (fun c29 => ?_)
  · rw [if_neg c29] at hf
    refine r_aload_n (pc := 73) X dX12_ring_73 rfl ?_
    refine r_iconst (pc := 74) X 0 dX12_ring_74 (by decide) ?_
    obtain ⟨h19, eh19, hf⟩ := ob hf
    refine r_putI (pc := 75) X dX12_ring_75 fp_X12_104 rfl eh19 ?_
    refine r_iconst (pc := 78) X 0 dX12_ring_78 (by decide) ?_
    refine r_istore_n (pc := 79) X [some (.ref p0), some (.int 0)] dX12_ring_79 (by decide) rfl ?_
    obtain ⟨o28, eo28, hf⟩ := ob hf
    refine (lw_X12_ring_80 X hd _ lpN _ o28 eo28 ?_)
    obtain rfl := Option.some.inj hf
    exact hk
  · rw [if_pos c29] at hf
    refine r_bipush (pc := 70) X (-2) dX12_ring_70 (by decide) ?_
    obtain rfl := Option.some.inj hf
    exact r_iret (pc := 72) X dX12_ring_72 hk

theorem dX12_goOrder_0 : decode cX12_goOrder 0 = .ok (.iload_n 1, 1) := by decide +kernel
theorem dX12_goOrder_1 : decode cX12_goOrder 1 = .ok (.iload_n 2, 1) := by decide +kernel
theorem dX12_goOrder_2 : decode cX12_goOrder 2 = .ok (.if_icmp .ne 118, 3) := by decide +kernel
theorem dX12_goOrder_5 : decode cX12_goOrder 5 = .ok (.aload_n 0, 1) := by decide +kernel
theorem dX12_goOrder_6 : decode cX12_goOrder 6 = .ok (.getfield 9, 3) := by decide +kernel
theorem dX12_goOrder_9 : decode cX12_goOrder 9 = .ok (.aload_n 0, 1) := by decide +kernel
theorem dX12_goOrder_10 : decode cX12_goOrder 10 = .ok (.getfield 48, 3) := by decide +kernel
theorem dX12_goOrder_13 : decode cX12_goOrder 13 = .ok (.iconst 0, 1) := by decide +kernel
theorem dX12_goOrder_14 : decode cX12_goOrder 14 = .ok (.invokestatic 242, 3) := by decide +kernel
theorem dX12_goOrder_17 : decode cX12_goOrder 17 = .ok (.iconst 0, 1) := by decide +kernel
theorem dX12_goOrder_18 : decode cX12_goOrder 18 = .ok (.istore 4, 2) := by decide +kernel
theorem dX12_goOrder_20 : decode cX12_goOrder 20 = .ok (.iconst 0, 1) := by decide +kernel
theorem dX12_goOrder_21 : decode cX12_goOrder 21 = .ok (.istore 5, 2) := by decide +kernel
theorem dX12_goOrder_23 : decode cX12_goOrder 23 = .ok (.iload 5, 2) := by decide +kernel
theorem dX12_goOrder_25 : decode cX12_goOrder 25 = .ok (.iload_n 2, 1) := by decide +kernel
theorem dX12_goOrder_26 : decode cX12_goOrder 26 = .ok (.if_icmp .ge 48, 3) := by decide +kernel
theorem dX12_goOrder_29 : decode cX12_goOrder 29 = .ok (.aload_n 0, 1) := by decide +kernel
theorem dX12_goOrder_30 : decode cX12_goOrder 30 = .ok (.aload_n 0, 1) := by decide +kernel
theorem dX12_goOrder_31 : decode cX12_goOrder 31 = .ok (.getfield 48, 3) := by decide +kernel
theorem dX12_goOrder_34 : decode cX12_goOrder 34 = .ok (.aload_n 0, 1) := by decide +kernel
theorem dX12_goOrder_35 : decode cX12_goOrder 35 = .ok (.getfield 81, 3) := by decide +kernel
theorem dX12_goOrder_38 : decode cX12_goOrder 38 = .ok (.iload 5, 2) := by decide +kernel
theorem dX12_goOrder_40 : decode cX12_goOrder 40 = .ok (.iaload, 1) := by decide +kernel
theorem dX12_goOrder_41 : decode cX12_goOrder 41 = .ok (.invokevirtual 288, 3) := by decide +kernel
theorem dX12_goOrder_44 : decode cX12_goOrder 44 = .ok (.ifCond .ge 6, 3) := by decide +kernel
theorem dX12_goOrder_47 : decode cX12_goOrder 47 = .ok (.goto 21, 3) := by decide +kernel
theorem dX12_goOrder_50 : decode cX12_goOrder 50 = .ok (.aload_n 0, 1) := by decide +kernel
theorem dX12_goOrder_51 : decode cX12_goOrder 51 = .ok (.aload_n 0, 1) := by decide +kernel
theorem dX12_goOrder_52 : decode cX12_goOrder 52 = .ok (.getfield 48, 3) := by decide +kernel
theorem dX12_goOrder_55 : decode cX12_goOrder 55 = .ok (.aload_n 0, 1) := by decide +kernel
theorem dX12_goOrder_56 : decode cX12_goOrder 56 = .ok (.getfield 81, 3) := by decide +kernel
theorem dX12_goOrder_59 : decode cX12_goOrder 59 = .ok (.iload 5, 2) := by decide +kernel
theorem dX12_goOrder_61 : decode cX12_goOrder 61 = .ok (.iaload, 1) := by decide +kernel
theorem dX12_goOrder_62 : decode cX12_goOrder 62 = .ok (.invokevirtual 291, 3) := by decide +kernel
theorem dX12_goOrder_65 : decode cX12_goOrder 65 = .ok (.iinc 4 1, 3) := by decide +kernel
theorem dX12_goOrder_68 : decode cX12_goOrder 68 = .ok (.iinc 5 1, 3) := by decide +kernel
theorem dX12_goOrder_71 : decode cX12_goOrder 71 = .ok (.goto (-48), 3) := by decide +kernel
theorem dX12_goOrder_74 : decode cX12_goOrder 74 = .ok (.iload 4, 2) := by decide +kernel
theorem dX12_goOrder_76 : decode cX12_goOrder 76 = .ok (.aload_n 0, 1) := by decide +kernel
theorem dX12_goOrder_77 : decode cX12_goOrder 77 = .ok (.getfield 379, 3) := by decide +kernel
theorem dX12_goOrder_80 : decode cX12_goOrder 80 = .ok (.if_icmp .gt 4, 3) := by decide +kernel
theorem dX12_goOrder_83 : decode cX12_goOrder 83 = .ok (.return_, 1) := by decide +kernel
theorem dX12_goOrder_84 : decode cX12_goOrder 84 = .ok (.aload_n 0, 1) := by decide +kernel
theorem dX12_goOrder_85 : decode cX12_goOrder 85 = .ok (.iload 4, 2) := by decide +kernel
theorem dX12_goOrder_87 : decode cX12_goOrder 87 = .ok (.putfield 379, 3) := by decide +kernel
theorem dX12_goOrder_90 : decode cX12_goOrder 90 = .ok (.iconst 0, 1) := by decide +kernel
theorem dX12_goOrder_91 : decode cX12_goOrder 91 = .ok (.istore 5, 2) := by decide +kernel
theorem dX12_goOrder_93 : decode cX12_goOrder 93 = .ok (.iload 5, 2) := by decide +kernel
theorem dX12_goOrder_95 : decode cX12_goOrder 95 = .ok (.iload_n 2, 1) := by decide +kernel
theorem dX12_goOrder_96 : decode cX12_goOrder 96 = .ok (.if_icmp .ge 23, 3) := by decide +kernel
theorem dX12_goOrder_99 : decode cX12_goOrder 99 = .ok (.aload_n 0, 1) := by decide +kernel
theorem dX12_goOrder_100 : decode cX12_goOrder 100 = .ok (.getfield 84, 3) := by decide +kernel
theorem dX12_goOrder_103 : decode cX12_goOrder 103 = .ok (.iload 5, 2) := by decide +kernel
theorem dX12_goOrder_105 : decode cX12_goOrder 105 = .ok (.aload_n 0, 1) := by decide +kernel
theorem dX12_goOrder_106 : decode cX12_goOrder 106 = .ok (.getfield 81, 3) := by decide +kernel
theorem dX12_goOrder_109 : decode cX12_goOrder 109 = .ok (.iload 5, 2) := by decide +kernel
theorem dX12_goOrder_111 : decode cX12_goOrder 111 = .ok (.iaload, 1) := by decide +kernel
theorem dX12_goOrder_112 : decode cX12_goOrder 112 = .ok (.iastore, 1) := by decide +kernel
theorem dX12_goOrder_113 : decode cX12_goOrder 113 = .ok (.iinc 5 1, 3) := by decide +kernel
theorem dX12_goOrder_116 : decode cX12_goOrder 116 = .ok (.goto (-23), 3) := by decide +kernel
theorem dX12_goOrder_119 : decode cX12_goOrder 119 = .ok (.return_, 1) := by decide +kernel
theorem dX12_goOrder_120 : decode cX12_goOrder 120 = .ok (.iconst 0, 1) := by decide +kernel
theorem dX12_goOrder_121 : decode cX12_goOrder 121 = .ok (.istore 4, 2) := by decide +kernel
theorem dX12_goOrder_123 : decode cX12_goOrder 123 = .ok (.iload 4, 2) := by decide +kernel
theorem dX12_goOrder_125 : decode cX12_goOrder 125 = .ok (.iload_n 2, 1) := by decide +kernel
theorem dX12_goOrder_126 : decode cX12_goOrder 126 = .ok (.if_icmp .ge 43, 3) := by decide +kernel
theorem dX12_goOrder_129 : decode cX12_goOrder 129 = .ok (.iload_n 3, 1) := by decide +kernel
theorem dX12_goOrder_130 : decode cX12_goOrder 130 = .ok (.iload 4, 2) := by decide +kernel
theorem dX12_goOrder_132 : decode cX12_goOrder 132 = .ok (.invokestatic 252, 3) := by decide +kernel
theorem dX12_goOrder_135 : decode cX12_goOrder 135 = .ok (.ifCond .eq 6, 3) := by decide +kernel
theorem dX12_goOrder_138 : decode cX12_goOrder 138 = .ok (.goto 25, 3) := by decide +kernel
theorem dX12_goOrder_141 : decode cX12_goOrder 141 = .ok (.aload_n 0, 1) := by decide +kernel
theorem dX12_goOrder_142 : decode cX12_goOrder 142 = .ok (.getfield 81, 3) := by decide +kernel
theorem dX12_goOrder_145 : decode cX12_goOrder 145 = .ok (.iload_n 1, 1) := by decide +kernel
theorem dX12_goOrder_146 : decode cX12_goOrder 146 = .ok (.iload 4, 2) := by decide +kernel
theorem dX12_goOrder_148 : decode cX12_goOrder 148 = .ok (.iastore, 1) := by decide +kernel
theorem dX12_goOrder_149 : decode cX12_goOrder 149 = .ok (.aload_n 0, 1) := by decide +kernel
theorem dX12_goOrder_150 : decode cX12_goOrder 150 = .ok (.iload_n 1, 1) := by decide +kernel
theorem dX12_goOrder_151 : decode cX12_goOrder 151 = .ok (.iconst 1, 1) := by decide +kernel
theorem dX12_goOrder_152 : decode cX12_goOrder 152 = .ok (.iadd, 1) := by decide +kernel
theorem dX12_goOrder_153 : decode cX12_goOrder 153 = .ok (.iload_n 2, 1) := by decide +kernel
theorem dX12_goOrder_154 : decode cX12_goOrder 154 = .ok (.iload_n 3, 1) := by decide +kernel
theorem dX12_goOrder_155 : decode cX12_goOrder 155 = .ok (.iconst 1, 1) := by decide +kernel
theorem dX12_goOrder_156 : decode cX12_goOrder 156 = .ok (.iload 4, 2) := by decide +kernel
theorem dX12_goOrder_158 : decode cX12_goOrder 158 = .ok (.ishl, 1) := by decide +kernel
theorem dX12_goOrder_159 : decode cX12_goOrder 159 = .ok (.ior, 1) := by decide +kernel
theorem dX12_goOrder_160 : decode cX12_goOrder 160 = .ok (.invokevirtual 382, 3) := by decide +kernel
theorem dX12_goOrder_163 : decode cX12_goOrder 163 = .ok (.iinc 4 1, 3) := by decide +kernel
theorem dX12_goOrder_166 : decode cX12_goOrder 166 = .ok (.goto (-43), 3) := by decide +kernel
theorem dX12_goOrder_169 : decode cX12_goOrder 169 = .ok (.return_, 1) := by decide +kernel
def lb_X12_goOrder_123 (th : aH → Nat → Int32 → Int32 → Int32 → Option (aH)) (v0 : Nat) (v1 : Int32) (v2 : Int32) (v3 : Int32) (s : Int32 × aH) : Option ((Int32 × aH) ⊕ ((aH))) :=
  if s.1 < v2 then
    (fn_X12_has s.2 v3 s.1).bind fun x1 =>
    if x1 = 0 then
      (gR s.2 v0 11 40).bind fun a2 =>
      (wI s.2 a2 v1 s.1).bind fun h3 =>
      (ck h3 v0 11).bind fun u4 =>
      (th h3 v0 (v1 + 1) v2 (v3 ||| (1 <<< (s.1 &&& 31)))).bind fun h5 =>
      (some (s.1 + 1)).bind fun x6 =>
      some (.inl (x6, h5))
    else
      (some (s.1 + 1)).bind fun x7 =>
      some (.inl (x7, s.2))
  else
    some (.inr s.2)
def hd_X12_goOrder_123 (Γ : aC) (v0 : Nat) (v1 : Int32) (v2 : Int32) (v3 : Int32) (s : Int32 × aH) : Prop := ∀ (j5 : Option Value), Jd Γ (0, 0) 123 [some (.ref v0), some (.int v1), some (.int v2), some (.int v3), some (.int s.1), j5] [] s.2
def ex_X12_goOrder_123 (Γ : aC) (v0 : Nat) (v1 : Int32) (v2 : Int32) (v3 : Int32) (r : (aH)) : Prop := (fun r => RqV Γ r) r
set_option maxRecDepth 20000 in
set_option maxHeartbeats 4000000 in
theorem lw_X12_goOrder_123 (th : aH → Nat → Int32 → Int32 → Int32 → Option (aH)) {Γ : aC} {d D0 : Nat} (X : Cx Γ RX12 cX12_goOrder 6 none (d, 0, 0)) (hd : D0 + 3 ≤ d) (hth : ∀ (l : Launch) (g : aG) (d : Nat), D0 ≤ d → ∀ (h : aH) (q0 : Nat) (q1 : Int32) (q2 : Int32) (q3 : Int32) (o : aH), th h q0 q1 q2 q3 = some o → EvM l g d yX12_goOrder cX12_goOrder 6 none [.ref q0, .int q1, .int q2, .int q3] h (none, o)) (v0 : Nat) (v1 : Int32) (v2 : Int32) (v3 : Int32) : ∀ n s o, lp (lb_X12_goOrder_123 th v0 v1 v2 v3) n s = some o → ex_X12_goOrder_123 Γ v0 v1 v2 v3 o → hd_X12_goOrder_123 Γ v0 v1 v2 v3 s := by
  have hd1 : 1 ≤ d := by omega
  refine J_lp _ _ _ ?_
  intro s o hf hk j5
  unfold lb_X12_goOrder_123 at hf
  refine r_iload (pc := 123) X dX12_goOrder_123 rfl ?_
  refine r_iload_n (pc := 125) X dX12_goOrder_125 rfl ?_
  refine r_icmp_ge (pc := 126) X 169 dX12_goOrder_126 (by decide) (fun c9 => ?_) (fun c9 => ?_)
  · rw [if_neg c9] at hf
    obtain rfl := Option.some.inj hf
    exact r_vret (pc := 169) X dX12_goOrder_169 hk
  · rw [if_pos c9] at hf
    refine r_iload_n (pc := 129) X dX12_goOrder_129 rfl ?_
    refine r_iload (pc := 130) X dX12_goOrder_130 rfl ?_
    obtain ⟨x1, ex1, hf⟩ := ob hf
    refine r_callSI (pc := 132) X [.int v3, .int s.1] dX12_goOrder_132 ml_X12_252 so_X12_has ⟨Nat.le_refl _, Nat.le_refl _⟩ (ev_X12_has (d := d - 1) (by omega) _ _ _ _ ex1) hd1 rfl (Nat.le_of_ble_eq_true rfl) rfl ?_
    refine r_if_eq (pc := 135) X 141 dX12_goOrder_135 (by decide) (fun c8 => ?_) (fun c8 => ?_)
    · rw [if_pos c8] at hf
      refine r_aload_n (pc := 141) X dX12_goOrder_141 rfl ?_
      obtain ⟨a2, ea2, hf⟩ := ob hf
      refine r_getR (pc := 142) X dX12_goOrder_142 fl_X12_81 rfl ea2 ?_
      refine r_iload_n (pc := 145) X dX12_goOrder_145 rfl ?_
      refine r_iload (pc := 146) X dX12_goOrder_146 rfl ?_
      obtain ⟨h3, eh3, hf⟩ := ob hf
      refine r_iast (pc := 148) X dX12_goOrder_148 eh3 ?_
      refine r_aload_n (pc := 149) X dX12_goOrder_149 rfl ?_
      refine r_iload_n (pc := 150) X dX12_goOrder_150 rfl ?_
      refine r_iconst (pc := 151) X 1 dX12_goOrder_151 (by decide) ?_
      refine r_iadd (pc := 152) X dX12_goOrder_152 ?_
      refine r_iload_n (pc := 153) X dX12_goOrder_153 rfl ?_
      refine r_iload_n (pc := 154) X dX12_goOrder_154 rfl ?_
      refine r_iconst (pc := 155) X 1 dX12_goOrder_155 (by decide) ?_
      refine r_iload (pc := 156) X dX12_goOrder_156 rfl ?_
      refine r_ishl (pc := 158) X dX12_goOrder_158 ?_
      refine r_ior (pc := 159) X dX12_goOrder_159 ?_
      obtain ⟨u4, eu4, hf⟩ := ob hf
      obtain ⟨h5, eh5, hf⟩ := ob hf
      refine r_callVV (pc := 160) X [.int (v1 + 1), .int v2, .int (v3 ||| (1 <<< (s.1 &&& 31)))] dX12_goOrder_160 ml_X12_382 vo_X12_goOrder ⟨Nat.le_refl _, Nat.le_refl _⟩ eu4 (hth _ _ (d - 1) (by omega) _ _ _ _ _ _ eh5) hd1 rfl (Nat.le_of_ble_eq_true rfl) rfl ?_
      obtain ⟨x6, ex6, hf⟩ := ob hf
      refine r_iinc2 (pc := 163) X 1 [some (.ref v0), some (.int v1), some (.int v2), some (.int v3), some (.int x6), j5] dX12_goOrder_163 (by decide) rfl (by decide) ex6 rfl ?_
      refine r_goto (pc := 166) X 123 dX12_goOrder_166 (by decide) ?_
      obtain rfl := Option.some.inj hf
      exact hk _
    · rw [if_neg c8] at hf
      refine r_goto (pc := 138) X 163 dX12_goOrder_138 (by decide) ?_
      obtain ⟨x7, ex7, hf⟩ := ob hf
      refine r_iinc2 (pc := 163) X 1 [some (.ref v0), some (.int v1), some (.int v2), some (.int v3), some (.int x7), j5] dX12_goOrder_163 (by decide) rfl (by decide) ex7 rfl ?_
      refine r_goto (pc := 166) X 123 dX12_goOrder_166 (by decide) ?_
      obtain rfl := Option.some.inj hf
      exact hk _
def lb_X12_goOrder_23 (th : aH → Nat → Int32 → Int32 → Int32 → Option (aH)) (v0 : Nat) (v2 : Int32) (s : Int32 × Int32 × aH) : Option ((Int32 × Int32 × aH) ⊕ ((Int32 × aH))) :=
  if s.2.1 < v2 then
    (gR s.2.2 v0 11 26).bind fun a14 =>
    (gR s.2.2 v0 11 40).bind fun a15 =>
    (aI s.2.2 a15 14 s.2.1).bind fun x16 =>
    (ck s.2.2 v0 11).bind fun u17 =>
    (fn_X12_refusesBoat s.2.2 v0 a14 x16).bind fun x18 =>
    if x18 < 0 then
      (some (s.2.1 + 1)).bind fun x26 =>
      some (.inl (s.1, x26, s.2.2))
    else
      (gR s.2.2 v0 11 26).bind fun a19 =>
      (gR s.2.2 v0 11 40).bind fun a20 =>
      (aI s.2.2 a20 14 s.2.1).bind fun x21 =>
      (ck s.2.2 v0 11).bind fun u22 =>
      (fn_X12_goBoat s.2.2 v0 a19 x21).bind fun h23 =>
      (some (s.1 + 1)).bind fun x24 =>
      (some (s.2.1 + 1)).bind fun x25 =>
      some (.inl (x24, x25, h23))
  else
    some (.inr (s.1, s.2.2))
def hd_X12_goOrder_23 (Γ : aC) (v0 : Nat) (v2 : Int32) (s : Int32 × Int32 × aH) : Prop := ∀ (j1 : Option Value) (j3 : Option Value), Jd Γ (0, 0) 23 [some (.ref v0), j1, some (.int v2), j3, some (.int s.1), some (.int s.2.1)] [] s.2.2
def ex_X12_goOrder_23 (Γ : aC) (v0 : Nat) (v2 : Int32) (r : (Int32 × aH)) : Prop := (fun r => ∀ (j1 : Option Value) (j3 : Option Value) (j5 : Option Value), Jd Γ (0, 0) 74 [some (.ref v0), j1, some (.int v2), j3, some (.int r.1), j5] [] r.2) r
set_option maxRecDepth 20000 in
set_option maxHeartbeats 4000000 in
theorem lw_X12_goOrder_23 (th : aH → Nat → Int32 → Int32 → Int32 → Option (aH)) {Γ : aC} {d D0 : Nat} (X : Cx Γ RX12 cX12_goOrder 6 none (d, 0, 0)) (hd : D0 + 3 ≤ d) (hth : ∀ (l : Launch) (g : aG) (d : Nat), D0 ≤ d → ∀ (h : aH) (q0 : Nat) (q1 : Int32) (q2 : Int32) (q3 : Int32) (o : aH), th h q0 q1 q2 q3 = some o → EvM l g d yX12_goOrder cX12_goOrder 6 none [.ref q0, .int q1, .int q2, .int q3] h (none, o)) (v0 : Nat) (v2 : Int32) : ∀ n s o, lp (lb_X12_goOrder_23 th v0 v2) n s = some o → ex_X12_goOrder_23 Γ v0 v2 o → hd_X12_goOrder_23 Γ v0 v2 s := by
  have hd1 : 1 ≤ d := by omega
  refine J_lp _ _ _ ?_
  intro s o hf hk j1 j3
  unfold lb_X12_goOrder_23 at hf
  refine r_iload (pc := 23) X dX12_goOrder_23 rfl ?_
  refine r_iload_n (pc := 25) X dX12_goOrder_25 rfl ?_
  refine r_icmp_ge (pc := 26) X 74 dX12_goOrder_26 (by decide) (fun c28 => ?_) (fun c28 => ?_)
  · rw [if_neg c28] at hf
    obtain rfl := Option.some.inj hf
    exact hk _ _ _
  · rw [if_pos c28] at hf
    refine r_aload_n (pc := 29) X dX12_goOrder_29 rfl ?_
    refine r_aload_n (pc := 30) X dX12_goOrder_30 rfl ?_
    obtain ⟨a14, ea14, hf⟩ := ob hf
    refine r_getR (pc := 31) X dX12_goOrder_31 fl_X12_48 rfl ea14 ?_
    refine r_aload_n (pc := 34) X dX12_goOrder_34 rfl ?_
    obtain ⟨a15, ea15, hf⟩ := ob hf
    refine r_getR (pc := 35) X dX12_goOrder_35 fl_X12_81 rfl ea15 ?_
    refine r_iload (pc := 38) X dX12_goOrder_38 rfl ?_
    obtain ⟨x16, ex16, hf⟩ := ob hf
    refine r_iald (pc := 40) X dX12_goOrder_40 ex16 ?_
    obtain ⟨u17, eu17, hf⟩ := ob hf
    obtain ⟨x18, ex18, hf⟩ := ob hf
    refine r_callVI (pc := 41) X [.ref a14, .int x16] dX12_goOrder_41 ml_X12_288 vo_X12_refusesBoat ⟨Nat.le_refl _, Nat.le_refl _⟩ eu17 (ev_X12_refusesBoat (d := d - 1) (by omega) _ _ _ _ _ ex18) hd1 rfl (Nat.le_of_ble_eq_true rfl) rfl ?_
    refine r_if_ge (pc := 44) X 50 dX12_goOrder_44 (by decide) (fun c27 => ?_) (fun c27 => ?_)
    · rw [if_neg c27] at hf
      refine r_aload_n (pc := 50) X dX12_goOrder_50 rfl ?_
      refine r_aload_n (pc := 51) X dX12_goOrder_51 rfl ?_
      obtain ⟨a19, ea19, hf⟩ := ob hf
      refine r_getR (pc := 52) X dX12_goOrder_52 fl_X12_48 rfl ea19 ?_
      refine r_aload_n (pc := 55) X dX12_goOrder_55 rfl ?_
      obtain ⟨a20, ea20, hf⟩ := ob hf
      refine r_getR (pc := 56) X dX12_goOrder_56 fl_X12_81 rfl ea20 ?_
      refine r_iload (pc := 59) X dX12_goOrder_59 rfl ?_
      obtain ⟨x21, ex21, hf⟩ := ob hf
      refine r_iald (pc := 61) X dX12_goOrder_61 ex21 ?_
      obtain ⟨u22, eu22, hf⟩ := ob hf
      obtain ⟨h23, eh23, hf⟩ := ob hf
      refine r_callVV (pc := 62) X [.ref a19, .int x21] dX12_goOrder_62 ml_X12_291 vo_X12_goBoat ⟨Nat.le_refl _, Nat.le_refl _⟩ eu22 (ev_X12_goBoat (d := d - 1) (by omega) _ _ _ _ _ eh23) hd1 rfl (Nat.le_of_ble_eq_true rfl) rfl ?_
      obtain ⟨x24, ex24, hf⟩ := ob hf
      refine r_fg 3 [some (.ref v0), j1, some (.int v2), none, some (.int s.1), some (.int s.2.1)] rfl ?_
      refine r_iinc2 (pc := 65) X 1 [some (.ref v0), j1, some (.int v2), none, some (.int x24), some (.int s.2.1)] dX12_goOrder_65 (by decide) rfl (by decide) ex24 rfl ?_
      obtain ⟨x25, ex25, hf⟩ := ob hf
      refine r_iinc2 (pc := 68) X 1 [some (.ref v0), j1, some (.int v2), none, some (.int x24), some (.int x25)] dX12_goOrder_68 (by decide) rfl (by decide) ex25 rfl ?_
      refine r_goto (pc := 71) X 23 dX12_goOrder_71 (by decide) ?_
      obtain rfl := Option.some.inj hf
      exact hk _ _
    · rw [if_pos c27] at hf
      refine r_goto (pc := 47) X 68 dX12_goOrder_47 (by decide) ?_
      obtain ⟨x26, ex26, hf⟩ := ob hf
      refine r_iinc2 (pc := 68) X 1 [some (.ref v0), j1, some (.int v2), j3, some (.int s.1), some (.int x26)] dX12_goOrder_68 (by decide) rfl (by decide) ex26 rfl ?_
      refine r_goto (pc := 71) X 23 dX12_goOrder_71 (by decide) ?_
      obtain rfl := Option.some.inj hf
      exact hk _ _
def lb_X12_goOrder_93 (th : aH → Nat → Int32 → Int32 → Int32 → Option (aH)) (v0 : Nat) (v2 : Int32) (s : Int32 × aH) : Option ((Int32 × aH) ⊕ ((aH))) :=
  if s.1 < v2 then
    (gR s.2 v0 11 41).bind fun a35 =>
    (gR s.2 v0 11 40).bind fun a36 =>
    (aI s.2 a36 14 s.1).bind fun x37 =>
    (wI s.2 a35 s.1 x37).bind fun h38 =>
    (some (s.1 + 1)).bind fun x39 =>
    some (.inl (x39, h38))
  else
    some (.inr s.2)
def hd_X12_goOrder_93 (Γ : aC) (v0 : Nat) (v2 : Int32) (s : Int32 × aH) : Prop := ∀ (j1 : Option Value) (j3 : Option Value) (j4 : Option Value), Jd Γ (0, 0) 93 [some (.ref v0), j1, some (.int v2), j3, j4, some (.int s.1)] [] s.2
def ex_X12_goOrder_93 (Γ : aC) (v0 : Nat) (v2 : Int32) (r : (aH)) : Prop := (fun r => RqV Γ r) r
set_option maxRecDepth 20000 in
set_option maxHeartbeats 4000000 in
theorem lw_X12_goOrder_93 (th : aH → Nat → Int32 → Int32 → Int32 → Option (aH)) {Γ : aC} {d D0 : Nat} (X : Cx Γ RX12 cX12_goOrder 6 none (d, 0, 0)) (hd : D0 + 3 ≤ d) (hth : ∀ (l : Launch) (g : aG) (d : Nat), D0 ≤ d → ∀ (h : aH) (q0 : Nat) (q1 : Int32) (q2 : Int32) (q3 : Int32) (o : aH), th h q0 q1 q2 q3 = some o → EvM l g d yX12_goOrder cX12_goOrder 6 none [.ref q0, .int q1, .int q2, .int q3] h (none, o)) (v0 : Nat) (v2 : Int32) : ∀ n s o, lp (lb_X12_goOrder_93 th v0 v2) n s = some o → ex_X12_goOrder_93 Γ v0 v2 o → hd_X12_goOrder_93 Γ v0 v2 s := by
  have hd1 : 1 ≤ d := by omega
  refine J_lp _ _ _ ?_
  intro s o hf hk j1 j3 j4
  unfold lb_X12_goOrder_93 at hf
  refine r_iload (pc := 93) X dX12_goOrder_93 rfl ?_
  refine r_iload_n (pc := 95) X dX12_goOrder_95 rfl ?_
  refine r_icmp_ge (pc := 96) X 119 dX12_goOrder_96 (by decide) (fun c40 => ?_) (fun c40 => ?_)
  · rw [if_neg c40] at hf
    obtain rfl := Option.some.inj hf
    exact r_vret (pc := 119) X dX12_goOrder_119 hk
  · rw [if_pos c40] at hf
    refine r_aload_n (pc := 99) X dX12_goOrder_99 rfl ?_
    obtain ⟨a35, ea35, hf⟩ := ob hf
    refine r_getR (pc := 100) X dX12_goOrder_100 fl_X12_84 rfl ea35 ?_
    refine r_iload (pc := 103) X dX12_goOrder_103 rfl ?_
    refine r_aload_n (pc := 105) X dX12_goOrder_105 rfl ?_
    obtain ⟨a36, ea36, hf⟩ := ob hf
    refine r_getR (pc := 106) X dX12_goOrder_106 fl_X12_81 rfl ea36 ?_
    refine r_iload (pc := 109) X dX12_goOrder_109 rfl ?_
    obtain ⟨x37, ex37, hf⟩ := ob hf
    refine r_iald (pc := 111) X dX12_goOrder_111 ex37 ?_
    obtain ⟨h38, eh38, hf⟩ := ob hf
    refine r_iast (pc := 112) X dX12_goOrder_112 eh38 ?_
    obtain ⟨x39, ex39, hf⟩ := ob hf
    refine r_fg 4 [some (.ref v0), j1, some (.int v2), j3, none, some (.int s.1)] rfl ?_
    refine r_iinc2 (pc := 113) X 1 [some (.ref v0), j1, some (.int v2), j3, none, some (.int x39)] dX12_goOrder_113 (by decide) rfl (by decide) ex39 rfl ?_
    refine r_goto (pc := 116) X 93 dX12_goOrder_116 (by decide) ?_
    obtain rfl := Option.some.inj hf
    exact hk _ _ _
def fnF_X12_goOrder (th : aH → Nat → Int32 → Int32 → Int32 → Option (aH)) (h : aH) (p0 : Nat) (p1 : Int32) (p2 : Int32) (p3 : Int32) : Option (aH) :=
  if p1 = p2 then
    (gR h p0 11 0).bind fun a11 =>
    (gR h p0 11 26).bind fun a12 =>
    (fn_X12_lay h a11 a12 0).bind fun h13 =>
    (lp (lb_X12_goOrder_23 th p0 p2) lpN (0, 0, h13)).bind fun o29 =>
    (gI o29.2 p0 11 43).bind fun x33 =>
    if o29.1 ≤ x33 then
      some o29.2
    else
      (pI o29.2 p0 11 43 o29.1).bind fun h34 =>
      (lp (lb_X12_goOrder_93 th p0 p2) lpN (0, h34)).bind fun o41 =>
      some o41
  else
    (lp (lb_X12_goOrder_123 th p0 p1 p2 p3) lpN (0, h)).bind fun o10 =>
    some o10
set_option maxRecDepth 20000 in
set_option maxHeartbeats 4000000 in
theorem evF_X12_goOrder (th : aH → Nat → Int32 → Int32 → Int32 → Option (aH)) {l : Launch} {g : aG} {d D0 : Nat} (hd : D0 + 3 ≤ d) (hth : ∀ (l : Launch) (g : aG) (d : Nat), D0 ≤ d → ∀ (h : aH) (q0 : Nat) (q1 : Int32) (q2 : Int32) (q3 : Int32) (o : aH), th h q0 q1 q2 q3 = some o → EvM l g d yX12_goOrder cX12_goOrder 6 none [.ref q0, .int q1, .int q2, .int q3] h (none, o)) (h : aH) (p0 : Nat) (p1 : Int32) (p2 : Int32) (p3 : Int32) (o : aH) (hf : fnF_X12_goOrder th h p0 p1 p2 p3 = some o) : EvM l g d yX12_goOrder cX12_goOrder 6 none [.ref p0, .int p1, .int p2, .int p3] h (none, o) := by
  refine EvM.of mk_X12_goOrder (Nat.le_of_ble_eq_true rfl) ?_
  intro Γ hl hg hq X
  have hd1 : 1 ≤ d := by omega
  have hk : RqV Γ o := hq
  unfold fnF_X12_goOrder at hf
  show Jd Γ (0, 0) 0 [some (.ref p0), some (.int p1), some (.int p2), some (.int p3), none, none] [] h
  refine r_iload_n (pc := 0) X dX12_goOrder_0 rfl ?_
  refine r_iload_n (pc := 1) X dX12_goOrder_1 rfl ?_
  refine r_icmp_ne (pc := 2) X 120 dX12_goOrder_2 (by decide) (fun c43 => ?_) (fun c43 => ?_)
  · rw [if_neg c43] at hf
    refine r_iconst (pc := 120) X 0 dX12_goOrder_120 (by decide) ?_
    refine r_istore (pc := 121) X [some (.ref p0), some (.int p1), some (.int p2), some (.int p3), some (.int 0), none] dX12_goOrder_121 (by decide) rfl ?_
    obtain ⟨o10, eo10, hf⟩ := ob hf
    refine (lw_X12_goOrder_123 th X hd hth _ _ _ _ lpN _ o10 eo10 ?_) _
    obtain rfl := Option.some.inj hf
    exact hk
  · rw [if_pos c43] at hf
    refine r_aload_n (pc := 5) X dX12_goOrder_5 rfl ?_
    obtain ⟨a11, ea11, hf⟩ := ob hf
    refine r_getR (pc := 6) X dX12_goOrder_6 fl_X12_9 rfl ea11 ?_
    refine r_aload_n (pc := 9) X dX12_goOrder_9 rfl ?_
    obtain ⟨a12, ea12, hf⟩ := ob hf
    refine r_getR (pc := 10) X dX12_goOrder_10 fl_X12_48 rfl ea12 ?_
    refine r_iconst (pc := 13) X 0 dX12_goOrder_13 (by decide) ?_
    obtain ⟨h13, eh13, hf⟩ := ob hf
    refine r_callSV (pc := 14) X [.ref a11, .ref a12, .int 0] dX12_goOrder_14 ml_X12_242 so_X12_lay ⟨Nat.le_refl _, Nat.le_refl _⟩ (ev_X12_lay (d := d - 1) (by omega) _ _ _ _ _ eh13) hd1 rfl (Nat.le_of_ble_eq_true rfl) rfl ?_
    refine r_iconst (pc := 17) X 0 dX12_goOrder_17 (by decide) ?_
    refine r_istore (pc := 18) X [some (.ref p0), some (.int p1), some (.int p2), some (.int p3), some (.int 0), none] dX12_goOrder_18 (by decide) rfl ?_
    refine r_iconst (pc := 20) X 0 dX12_goOrder_20 (by decide) ?_
    refine r_istore (pc := 21) X [some (.ref p0), some (.int p1), some (.int p2), some (.int p3), some (.int 0), some (.int 0)] dX12_goOrder_21 (by decide) rfl ?_
    obtain ⟨o29, eo29, hf⟩ := ob hf
    refine (lw_X12_goOrder_23 th X hd hth _ _ lpN _ o29 eo29 ?_) _ _
    intro j30 j31 j32
    refine r_iload (pc := 74) X dX12_goOrder_74 rfl ?_
    refine r_aload_n (pc := 76) X dX12_goOrder_76 rfl ?_
    obtain ⟨x33, ex33, hf⟩ := ob hf
    refine r_getI (pc := 77) X dX12_goOrder_77 fl_X12_379 rfl ex33 ?_
    refine r_icmp_gt (pc := 80) X 84 dX12_goOrder_80 (by decide) (fun c42 => ?_) (fun c42 => ?_)
    · rw [if_neg c42] at hf
      refine r_aload_n (pc := 84) X dX12_goOrder_84 rfl ?_
      refine r_iload (pc := 85) X dX12_goOrder_85 rfl ?_
      obtain ⟨h34, eh34, hf⟩ := ob hf
      refine r_putI (pc := 87) X dX12_goOrder_87 fp_X12_379 rfl eh34 ?_
      refine r_iconst (pc := 90) X 0 dX12_goOrder_90 (by decide) ?_
      refine r_istore (pc := 91) X [some (.ref p0), j30, some (.int p2), j31, some (.int o29.1), some (.int 0)] dX12_goOrder_91 (by decide) rfl ?_
      obtain ⟨o41, eo41, hf⟩ := ob hf
      refine (lw_X12_goOrder_93 th X hd hth _ _ lpN _ o41 eo41 ?_) _ _ _
      obtain rfl := Option.some.inj hf
      exact hk
    · rw [if_pos c42] at hf
      obtain rfl := Option.some.inj hf
      exact r_vret (pc := 83) X dX12_goOrder_83 hk

def fn_X12_goOrder : Nat → aH → Nat → Int32 → Int32 → Int32 → Option (aH)
  | 0 => fun _ _ _ _ _ => none
  | n + 1 => fnF_X12_goOrder (fn_X12_goOrder n)
theorem ev_X12_goOrder (n : Nat) : ∀ (l : Launch) (g : aG) (d : Nat), 3 * n ≤ d → ∀ (h : aH) (q0 : Nat) (q1 : Int32) (q2 : Int32) (q3 : Int32) (o : aH), fn_X12_goOrder n h q0 q1 q2 q3 = some o → EvM l g d yX12_goOrder cX12_goOrder 6 none [.ref q0, .int q1, .int q2, .int q3] h (none, o) := by
  induction n with
  | zero => intro l g d hd h q0 q1 q2 q3 o hf; cases hf
  | succ n ih => intro l g d hd h q0 q1 q2 q3 o hf; exact evF_X12_goOrder (fn_X12_goOrder n) (D0 := 3 * n) (by omega) ih h q0 q1 q2 q3 o hf

theorem dX12_order_0 : decode cX12_order 0 = .ok (.aload_n 0, 1) := by decide +kernel
theorem dX12_order_1 : decode cX12_order 1 = .ok (.iconst 0, 1) := by decide +kernel
theorem dX12_order_2 : decode cX12_order 2 = .ok (.putfield 100, 3) := by decide +kernel
theorem dX12_order_5 : decode cX12_order 5 = .ok (.bipush 6, 2) := by decide +kernel
theorem dX12_order_7 : decode cX12_order 7 = .ok (.aload_n 0, 1) := by decide +kernel
theorem dX12_order_8 : decode cX12_order 8 = .ok (.getfield 118, 3) := by decide +kernel
theorem dX12_order_11 : decode cX12_order 11 = .ok (.invokestatic 217, 3) := by decide +kernel
theorem dX12_order_14 : decode cX12_order 14 = .ok (.istore_n 1, 1) := by decide +kernel
theorem dX12_order_15 : decode cX12_order 15 = .ok (.aload_n 0, 1) := by decide +kernel
theorem dX12_order_16 : decode cX12_order 16 = .ok (.iconst (-1), 1) := by decide +kernel
theorem dX12_order_17 : decode cX12_order 17 = .ok (.putfield 379, 3) := by decide +kernel
theorem dX12_order_20 : decode cX12_order 20 = .ok (.aload_n 0, 1) := by decide +kernel
theorem dX12_order_21 : decode cX12_order 21 = .ok (.iconst 0, 1) := by decide +kernel
theorem dX12_order_22 : decode cX12_order 22 = .ok (.iload_n 1, 1) := by decide +kernel
theorem dX12_order_23 : decode cX12_order 23 = .ok (.iconst 0, 1) := by decide +kernel
theorem dX12_order_24 : decode cX12_order 24 = .ok (.invokevirtual 382, 3) := by decide +kernel
theorem dX12_order_27 : decode cX12_order 27 = .ok (.aload_n 0, 1) := by decide +kernel
theorem dX12_order_28 : decode cX12_order 28 = .ok (.iconst 0, 1) := by decide +kernel
theorem dX12_order_29 : decode cX12_order 29 = .ok (.putfield 104, 3) := by decide +kernel
theorem dX12_order_32 : decode cX12_order 32 = .ok (.iconst 0, 1) := by decide +kernel
theorem dX12_order_33 : decode cX12_order 33 = .ok (.istore_n 2, 1) := by decide +kernel
theorem dX12_order_34 : decode cX12_order 34 = .ok (.iload_n 2, 1) := by decide +kernel
theorem dX12_order_35 : decode cX12_order 35 = .ok (.iload_n 1, 1) := by decide +kernel
theorem dX12_order_36 : decode cX12_order 36 = .ok (.if_icmp .ge 20, 3) := by decide +kernel
theorem dX12_order_39 : decode cX12_order 39 = .ok (.aload_n 0, 1) := by decide +kernel
theorem dX12_order_40 : decode cX12_order 40 = .ok (.aload_n 0, 1) := by decide +kernel
theorem dX12_order_41 : decode cX12_order 41 = .ok (.getfield 84, 3) := by decide +kernel
theorem dX12_order_44 : decode cX12_order 44 = .ok (.iload_n 2, 1) := by decide +kernel
theorem dX12_order_45 : decode cX12_order 45 = .ok (.iaload, 1) := by decide +kernel
theorem dX12_order_46 : decode cX12_order 46 = .ok (.i2l, 1) := by decide +kernel
theorem dX12_order_47 : decode cX12_order 47 = .ok (.invokevirtual 274, 3) := by decide +kernel
theorem dX12_order_50 : decode cX12_order 50 = .ok (.iinc 2 1, 3) := by decide +kernel
theorem dX12_order_53 : decode cX12_order 53 = .ok (.goto (-19), 3) := by decide +kernel
theorem dX12_order_56 : decode cX12_order 56 = .ok (.aload_n 0, 1) := by decide +kernel
theorem dX12_order_57 : decode cX12_order 57 = .ok (.getfield 379, 3) := by decide +kernel
theorem dX12_order_60 : decode cX12_order 60 = .ok (.ireturn, 1) := by decide +kernel
def lb_X12_order_34 (v0 : Nat) (v1 : Int32) (s : Int32 × aH) : Option ((Int32 × aH) ⊕ ((Int32 × aH))) :=
  if s.1 < v1 then
    (gR s.2 v0 11 41).bind fun a9 =>
    (aI s.2 a9 14 s.1).bind fun x10 =>
    (ck s.2 v0 11).bind fun u11 =>
    (fn_X12_tell s.2 v0 (Int32.toInt64 x10)).bind fun h12 =>
    (some (s.1 + 1)).bind fun x13 =>
    some (.inl (x13, h12))
  else
    (gI s.2 v0 11 43).bind fun x8 =>
    some (.inr (x8, s.2))
def hd_X12_order_34 (Γ : aC) (v0 : Nat) (v1 : Int32) (s : Int32 × aH) : Prop := Jd Γ (0, 0) 34 [some (.ref v0), some (.int v1), some (.int s.1)] [] s.2
def ex_X12_order_34 (Γ : aC) (v0 : Nat) (v1 : Int32) (r : (Int32 × aH)) : Prop := (fun r => RqI Γ r) r
set_option maxRecDepth 20000 in
set_option maxHeartbeats 4000000 in
theorem lw_X12_order_34 {Γ : aC} {d : Nat} (X : Cx Γ RX12 cX12_order 3 (some .int) (d, 0, 0)) (hd : 31 ≤ d) (v0 : Nat) (v1 : Int32) : ∀ n s o, lp (lb_X12_order_34 v0 v1) n s = some o → ex_X12_order_34 Γ v0 v1 o → hd_X12_order_34 Γ v0 v1 s := by
  have hd1 : 1 ≤ d := by omega
  refine J_lp _ _ _ ?_
  intro s o hf hk
  unfold lb_X12_order_34 at hf
  refine r_iload_n (pc := 34) X dX12_order_34 rfl ?_
  refine r_iload_n (pc := 35) X dX12_order_35 rfl ?_
  refine r_icmp_ge (pc := 36) X 56 dX12_order_36 (by decide) (fun c14 => ?_) (fun c14 => ?_)
  · rw [if_neg c14] at hf
    refine r_aload_n (pc := 56) X dX12_order_56 rfl ?_
    obtain ⟨x8, ex8, hf⟩ := ob hf
    refine r_getI (pc := 57) X dX12_order_57 fl_X12_379 rfl ex8 ?_
    obtain rfl := Option.some.inj hf
    exact r_iret (pc := 60) X dX12_order_60 hk
  · rw [if_pos c14] at hf
    refine r_aload_n (pc := 39) X dX12_order_39 rfl ?_
    refine r_aload_n (pc := 40) X dX12_order_40 rfl ?_
    obtain ⟨a9, ea9, hf⟩ := ob hf
    refine r_getR (pc := 41) X dX12_order_41 fl_X12_84 rfl ea9 ?_
    refine r_iload_n (pc := 44) X dX12_order_44 rfl ?_
    obtain ⟨x10, ex10, hf⟩ := ob hf
    refine r_iald (pc := 45) X dX12_order_45 ex10 ?_
    refine r_i2l (pc := 46) X dX12_order_46 ?_
    obtain ⟨u11, eu11, hf⟩ := ob hf
    obtain ⟨h12, eh12, hf⟩ := ob hf
    refine r_callVV (pc := 47) X [.long (Int32.toInt64 x10)] dX12_order_47 ml_X12_274 vo_X12_tell ⟨Nat.le_refl _, Nat.le_refl _⟩ eu11 (ev_X12_tell (d := d - 1) (by omega) _ _ _ _ eh12) hd1 rfl (Nat.le_of_ble_eq_true rfl) rfl ?_
    obtain ⟨x13, ex13, hf⟩ := ob hf
    refine r_iinc2 (pc := 50) X 1 [some (.ref v0), some (.int v1), some (.int x13)] dX12_order_50 (by decide) rfl (by decide) ex13 rfl ?_
    refine r_goto (pc := 53) X 34 dX12_order_53 (by decide) ?_
    obtain rfl := Option.some.inj hf
    exact hk
def fn_X12_order (h : aH) (p0 : Nat) : Option (Int32 × aH) :=
  (pI h p0 11 11 0).bind fun h1 =>
  (gI h1 p0 11 2).bind fun x2 =>
  (some (mn 6 x2)).bind fun x3 =>
  (pI h1 p0 11 43 (-1)).bind fun h4 =>
  (ck h4 p0 11).bind fun u5 =>
  (fn_X12_goOrder 10 h4 p0 0 x3 0).bind fun h6 =>
  (pI h6 p0 11 10 0).bind fun h7 =>
  (lp (lb_X12_order_34 p0 x3) lpN (0, h7)).bind fun o15 =>
  some o15
set_option maxRecDepth 20000 in
set_option maxHeartbeats 4000000 in
theorem ev_X12_order {l : Launch} {g : aG} {d : Nat} (hd : 31 ≤ d) (h : aH) (p0 : Nat) (o : Int32 × aH) (hf : fn_X12_order h p0 = some o) : EvM l g d yX12_order cX12_order 3 (some .int) [.ref p0] h (some (.int o.1), o.2) := by
  refine EvM.of mk_X12_order (Nat.le_of_ble_eq_true rfl) ?_
  intro Γ hl hg hq X
  have hd1 : 1 ≤ d := by omega
  have hk : RqI Γ o := hq
  unfold fn_X12_order at hf
  show Jd Γ (0, 0) 0 [some (.ref p0), none, none] [] h
  refine r_aload_n (pc := 0) X dX12_order_0 rfl ?_
  refine r_iconst (pc := 1) X 0 dX12_order_1 (by decide) ?_
  obtain ⟨h1, eh1, hf⟩ := ob hf
  refine r_putI (pc := 2) X dX12_order_2 fp_X12_100 rfl eh1 ?_
  refine r_bipush (pc := 5) X 6 dX12_order_5 (by decide) ?_
  refine r_aload_n (pc := 7) X dX12_order_7 rfl ?_
  obtain ⟨x2, ex2, hf⟩ := ob hf
  refine r_getI (pc := 8) X dX12_order_8 fl_X12_118 rfl ex2 ?_
  refine r_min (pc := 11) X dX12_order_11 ml_X12_217 ⟨Nat.le_refl _, Nat.le_refl _⟩ hd1 (Nat.le_of_ble_eq_true rfl) ?_
  obtain ⟨x3, ex3, hf⟩ := ob hf
  refine r_nmI ex3 ?_
  refine r_istore_n (pc := 14) X [some (.ref p0), some (.int x3), none] dX12_order_14 (by decide) rfl ?_
  refine r_aload_n (pc := 15) X dX12_order_15 rfl ?_
  refine r_iconst (pc := 16) X (-1) dX12_order_16 (by decide) ?_
  obtain ⟨h4, eh4, hf⟩ := ob hf
  refine r_putI (pc := 17) X dX12_order_17 fp_X12_379 rfl eh4 ?_
  refine r_aload_n (pc := 20) X dX12_order_20 rfl ?_
  refine r_iconst (pc := 21) X 0 dX12_order_21 (by decide) ?_
  refine r_iload_n (pc := 22) X dX12_order_22 rfl ?_
  refine r_iconst (pc := 23) X 0 dX12_order_23 (by decide) ?_
  obtain ⟨u5, eu5, hf⟩ := ob hf
  obtain ⟨h6, eh6, hf⟩ := ob hf
  refine r_callVV (pc := 24) X [.int 0, .int x3, .int 0] dX12_order_24 ml_X12_382 vo_X12_goOrder ⟨Nat.le_refl _, Nat.le_refl _⟩ eu5 (ev_X12_goOrder 10 _ _ (d - 1) (by omega) _ _ _ _ _ _ eh6) hd1 rfl (Nat.le_of_ble_eq_true rfl) rfl ?_
  refine r_aload_n (pc := 27) X dX12_order_27 rfl ?_
  refine r_iconst (pc := 28) X 0 dX12_order_28 (by decide) ?_
  obtain ⟨h7, eh7, hf⟩ := ob hf
  refine r_putI (pc := 29) X dX12_order_29 fp_X12_104 rfl eh7 ?_
  refine r_iconst (pc := 32) X 0 dX12_order_32 (by decide) ?_
  refine r_istore_n (pc := 33) X [some (.ref p0), some (.int x3), some (.int 0)] dX12_order_33 (by decide) rfl ?_
  obtain ⟨o15, eo15, hf⟩ := ob hf
  refine (lw_X12_order_34 X hd _ _ lpN _ o15 eo15 ?_)
  obtain rfl := Option.some.inj hf
  exact hk

theorem dX12_losesAt_0 : decode cX12_losesAt 0 = .ok (.iload_n 1, 1) := by decide +kernel
theorem dX12_losesAt_1 : decode cX12_losesAt 1 = .ok (.ifCond .lt 25, 3) := by decide +kernel
theorem dX12_losesAt_4 : decode cX12_losesAt 4 = .ok (.iload_n 2, 1) := by decide +kernel
theorem dX12_losesAt_5 : decode cX12_losesAt 5 = .ok (.ifCond .lt 21, 3) := by decide +kernel
theorem dX12_losesAt_8 : decode cX12_losesAt 8 = .ok (.aload_n 0, 1) := by decide +kernel
theorem dX12_losesAt_9 : decode cX12_losesAt 9 = .ok (.getfield 87, 3) := by decide +kernel
theorem dX12_losesAt_12 : decode cX12_losesAt 12 = .ok (.bipush 21, 2) := by decide +kernel
theorem dX12_losesAt_14 : decode cX12_losesAt 14 = .ok (.iload_n 1, 1) := by decide +kernel
theorem dX12_losesAt_15 : decode cX12_losesAt 15 = .ok (.imul, 1) := by decide +kernel
theorem dX12_losesAt_16 : decode cX12_losesAt 16 = .ok (.iload_n 2, 1) := by decide +kernel
theorem dX12_losesAt_17 : decode cX12_losesAt 17 = .ok (.iadd, 1) := by decide +kernel
theorem dX12_losesAt_18 : decode cX12_losesAt 18 = .ok (.baload, 1) := by decide +kernel
theorem dX12_losesAt_19 : decode cX12_losesAt 19 = .ok (.ifCond .eq 7, 3) := by decide +kernel
theorem dX12_losesAt_22 : decode cX12_losesAt 22 = .ok (.iconst 1, 1) := by decide +kernel
theorem dX12_losesAt_23 : decode cX12_losesAt 23 = .ok (.goto 4, 3) := by decide +kernel
theorem dX12_losesAt_26 : decode cX12_losesAt 26 = .ok (.iconst 0, 1) := by decide +kernel
theorem dX12_losesAt_27 : decode cX12_losesAt 27 = .ok (.ireturn, 1) := by decide +kernel
def fn_X12_losesAt (h : aH) (p0 : Nat) (p1 : Int32) (p2 : Int32) : Option (Int32) :=
  if p1 < 0 then
    some 0
  else
    if p2 < 0 then
      some 0
    else
      (gR h p0 11 44).bind fun a1 =>
      (aI h a1 16 ((21 * p1) + p2)).bind fun x2 =>
      if x2 = 0 then
        some 0
      else
        some 1
set_option maxRecDepth 20000 in
set_option maxHeartbeats 4000000 in
theorem ev_X12_losesAt {l : Launch} {g : aG} {d : Nat} (hd : 0 ≤ d) (h : aH) (p0 : Nat) (p1 : Int32) (p2 : Int32) (o : Int32) (hf : fn_X12_losesAt h p0 p1 p2 = some o) : EvM l g d yX12_losesAt cX12_losesAt 3 (some .boolean) [.ref p0, .int p1, .int p2] h (some (.int o), h) := by
  refine EvM.of mk_X12_losesAt (Nat.le_of_ble_eq_true rfl) ?_
  intro Γ hl hg hq X
  have hd1 : 0 ≤ d := by omega
  have hk : RpI h Γ o := hq
  unfold fn_X12_losesAt at hf
  show Jd Γ (0, 0) 0 [some (.ref p0), some (.int p1), some (.int p2)] [] h
  refine r_iload_n (pc := 0) X dX12_losesAt_0 rfl ?_
  refine r_if_lt (pc := 1) X 26 dX12_losesAt_1 (by decide) (fun c5 => ?_) (fun c5 => ?_)
  · rw [if_pos c5] at hf
    refine r_iconst (pc := 26) X 0 dX12_losesAt_26 (by decide) ?_
    obtain rfl := Option.some.inj hf
    exact r_zret (pc := 27) X dX12_losesAt_27 (Or.inl rfl) hk
  · rw [if_neg c5] at hf
    refine r_iload_n (pc := 4) X dX12_losesAt_4 rfl ?_
    refine r_if_lt (pc := 5) X 26 dX12_losesAt_5 (by decide) (fun c4 => ?_) (fun c4 => ?_)
    · rw [if_pos c4] at hf
      refine r_iconst (pc := 26) X 0 dX12_losesAt_26 (by decide) ?_
      obtain rfl := Option.some.inj hf
      exact r_zret (pc := 27) X dX12_losesAt_27 (Or.inl rfl) hk
    · rw [if_neg c4] at hf
      refine r_aload_n (pc := 8) X dX12_losesAt_8 rfl ?_
      obtain ⟨a1, ea1, hf⟩ := ob hf
      refine r_getR (pc := 9) X dX12_losesAt_9 fl_X12_87 rfl ea1 ?_
      refine r_bipush (pc := 12) X 21 dX12_losesAt_12 (by decide) ?_
      refine r_iload_n (pc := 14) X dX12_losesAt_14 rfl ?_
      refine r_imul (pc := 15) X dX12_losesAt_15 ?_
      refine r_iload_n (pc := 16) X dX12_losesAt_16 rfl ?_
      refine r_iadd (pc := 17) X dX12_losesAt_17 ?_
      obtain ⟨x2, ex2, hf⟩ := ob hf
      refine r_zald (pc := 18) X dX12_losesAt_18 ex2 ?_
      refine r_if_eq (pc := 19) X 26 dX12_losesAt_19 (by decide) (fun c3 => ?_) (fun c3 => ?_)
      · rw [if_pos c3] at hf
        refine r_iconst (pc := 26) X 0 dX12_losesAt_26 (by decide) ?_
        obtain rfl := Option.some.inj hf
        exact r_zret (pc := 27) X dX12_losesAt_27 (Or.inl rfl) hk
      · rw [if_neg c3] at hf
        refine r_iconst (pc := 22) X 1 dX12_losesAt_22 (by decide) ?_
        refine r_goto (pc := 23) X 27 dX12_losesAt_23 (by decide) ?_
        obtain rfl := Option.some.inj hf
        exact r_zret (pc := 27) X dX12_losesAt_27 (Or.inr rfl) hk

theorem dX12_moveOf_0 : decode cX12_moveOf 0 = .ok (.aload_n 0, 1) := by decide +kernel
theorem dX12_moveOf_1 : decode cX12_moveOf 1 = .ok (.iload_n 1, 1) := by decide +kernel
theorem dX12_moveOf_2 : decode cX12_moveOf 2 = .ok (.iload_n 2, 1) := by decide +kernel
theorem dX12_moveOf_3 : decode cX12_moveOf 3 = .ok (.iconst 2, 1) := by decide +kernel
theorem dX12_moveOf_4 : decode cX12_moveOf 4 = .ok (.isub, 1) := by decide +kernel
theorem dX12_moveOf_5 : decode cX12_moveOf 5 = .ok (.invokevirtual 385, 3) := by decide +kernel
theorem dX12_moveOf_8 : decode cX12_moveOf 8 = .ok (.ifCond .eq 7, 3) := by decide +kernel
theorem dX12_moveOf_11 : decode cX12_moveOf 11 = .ok (.iconst 2, 1) := by decide +kernel
theorem dX12_moveOf_12 : decode cX12_moveOf 12 = .ok (.goto 37, 3) := by decide +kernel
theorem dX12_moveOf_15 : decode cX12_moveOf 15 = .ok (.aload_n 0, 1) := by decide +kernel
theorem dX12_moveOf_16 : decode cX12_moveOf 16 = .ok (.iload_n 1, 1) := by decide +kernel
theorem dX12_moveOf_17 : decode cX12_moveOf 17 = .ok (.iconst 1, 1) := by decide +kernel
theorem dX12_moveOf_18 : decode cX12_moveOf 18 = .ok (.isub, 1) := by decide +kernel
theorem dX12_moveOf_19 : decode cX12_moveOf 19 = .ok (.iload_n 2, 1) := by decide +kernel
theorem dX12_moveOf_20 : decode cX12_moveOf 20 = .ok (.iconst 1, 1) := by decide +kernel
theorem dX12_moveOf_21 : decode cX12_moveOf 21 = .ok (.isub, 1) := by decide +kernel
theorem dX12_moveOf_22 : decode cX12_moveOf 22 = .ok (.invokevirtual 385, 3) := by decide +kernel
theorem dX12_moveOf_25 : decode cX12_moveOf 25 = .ok (.ifCond .eq 7, 3) := by decide +kernel
theorem dX12_moveOf_28 : decode cX12_moveOf 28 = .ok (.iconst 4, 1) := by decide +kernel
theorem dX12_moveOf_29 : decode cX12_moveOf 29 = .ok (.goto 20, 3) := by decide +kernel
theorem dX12_moveOf_32 : decode cX12_moveOf 32 = .ok (.aload_n 0, 1) := by decide +kernel
theorem dX12_moveOf_33 : decode cX12_moveOf 33 = .ok (.iload_n 1, 1) := by decide +kernel
theorem dX12_moveOf_34 : decode cX12_moveOf 34 = .ok (.iconst 2, 1) := by decide +kernel
theorem dX12_moveOf_35 : decode cX12_moveOf 35 = .ok (.isub, 1) := by decide +kernel
theorem dX12_moveOf_36 : decode cX12_moveOf 36 = .ok (.iload_n 2, 1) := by decide +kernel
theorem dX12_moveOf_37 : decode cX12_moveOf 37 = .ok (.invokevirtual 385, 3) := by decide +kernel
theorem dX12_moveOf_40 : decode cX12_moveOf 40 = .ok (.ifCond .eq 8, 3) := by decide +kernel
theorem dX12_moveOf_43 : decode cX12_moveOf 43 = .ok (.bipush 6, 2) := by decide +kernel
theorem dX12_moveOf_45 : decode cX12_moveOf 45 = .ok (.goto 4, 3) := by decide +kernel
theorem dX12_moveOf_48 : decode cX12_moveOf 48 = .ok (.iconst 0, 1) := by decide +kernel
theorem dX12_moveOf_49 : decode cX12_moveOf 49 = .ok (.ireturn, 1) := by decide +kernel
def fn_X12_moveOf (h : aH) (p0 : Nat) (p1 : Int32) (p2 : Int32) : Option (Int32) :=
  (ck h p0 11).bind fun u1 =>
  (fn_X12_losesAt h p0 p1 (p2 - 2)).bind fun x2 =>
  if x2 = 0 then
    (ck h p0 11).bind fun u3 =>
    (fn_X12_losesAt h p0 (p1 - 1) (p2 - 1)).bind fun x4 =>
    if x4 = 0 then
      (ck h p0 11).bind fun u5 =>
      (fn_X12_losesAt h p0 (p1 - 2) p2).bind fun x6 =>
      if x6 = 0 then
        some 0
      else
        some 6
    else
      some 4
  else
    some 2
set_option maxRecDepth 20000 in
set_option maxHeartbeats 4000000 in
theorem ev_X12_moveOf {l : Launch} {g : aG} {d : Nat} (hd : 1 ≤ d) (h : aH) (p0 : Nat) (p1 : Int32) (p2 : Int32) (o : Int32) (hf : fn_X12_moveOf h p0 p1 p2 = some o) : EvM l g d yX12_moveOf cX12_moveOf 3 (some .int) [.ref p0, .int p1, .int p2] h (some (.int o), h) := by
  refine EvM.of mk_X12_moveOf (Nat.le_of_ble_eq_true rfl) ?_
  intro Γ hl hg hq X
  have hd1 : 1 ≤ d := by omega
  have hk : RpI h Γ o := hq
  unfold fn_X12_moveOf at hf
  show Jd Γ (0, 0) 0 [some (.ref p0), some (.int p1), some (.int p2)] [] h
  refine r_aload_n (pc := 0) X dX12_moveOf_0 rfl ?_
  refine r_iload_n (pc := 1) X dX12_moveOf_1 rfl ?_
  refine r_iload_n (pc := 2) X dX12_moveOf_2 rfl ?_
  refine r_iconst (pc := 3) X 2 dX12_moveOf_3 (by decide) ?_
  refine r_isub (pc := 4) X dX12_moveOf_4 ?_
  obtain ⟨u1, eu1, hf⟩ := ob hf
  obtain ⟨x2, ex2, hf⟩ := ob hf
  refine r_callVI (pc := 5) X [.int p1, .int (p2 - 2)] dX12_moveOf_5 ml_X12_385 vo_X12_losesAt ⟨Nat.le_refl _, Nat.le_refl _⟩ eu1 (ev_X12_losesAt (d := d - 1) (by omega) _ _ _ _ _ ex2) hd1 rfl (Nat.le_of_ble_eq_true rfl) rfl ?_
  refine r_if_eq (pc := 8) X 15 dX12_moveOf_8 (by decide) (fun c9 => ?_) (fun c9 => ?_)
  · rw [if_pos c9] at hf
    refine r_aload_n (pc := 15) X dX12_moveOf_15 rfl ?_
    refine r_iload_n (pc := 16) X dX12_moveOf_16 rfl ?_
    refine r_iconst (pc := 17) X 1 dX12_moveOf_17 (by decide) ?_
    refine r_isub (pc := 18) X dX12_moveOf_18 ?_
    refine r_iload_n (pc := 19) X dX12_moveOf_19 rfl ?_
    refine r_iconst (pc := 20) X 1 dX12_moveOf_20 (by decide) ?_
    refine r_isub (pc := 21) X dX12_moveOf_21 ?_
    obtain ⟨u3, eu3, hf⟩ := ob hf
    obtain ⟨x4, ex4, hf⟩ := ob hf
    refine r_callVI (pc := 22) X [.int (p1 - 1), .int (p2 - 1)] dX12_moveOf_22 ml_X12_385 vo_X12_losesAt ⟨Nat.le_refl _, Nat.le_refl _⟩ eu3 (ev_X12_losesAt (d := d - 1) (by omega) _ _ _ _ _ ex4) hd1 rfl (Nat.le_of_ble_eq_true rfl) rfl ?_
    refine r_if_eq (pc := 25) X 32 dX12_moveOf_25 (by decide) (fun c8 => ?_) (fun c8 => ?_)
    · rw [if_pos c8] at hf
      refine r_aload_n (pc := 32) X dX12_moveOf_32 rfl ?_
      refine r_iload_n (pc := 33) X dX12_moveOf_33 rfl ?_
      refine r_iconst (pc := 34) X 2 dX12_moveOf_34 (by decide) ?_
      refine r_isub (pc := 35) X dX12_moveOf_35 ?_
      refine r_iload_n (pc := 36) X dX12_moveOf_36 rfl ?_
      obtain ⟨u5, eu5, hf⟩ := ob hf
      obtain ⟨x6, ex6, hf⟩ := ob hf
      refine r_callVI (pc := 37) X [.int (p1 - 2), .int p2] dX12_moveOf_37 ml_X12_385 vo_X12_losesAt ⟨Nat.le_refl _, Nat.le_refl _⟩ eu5 (ev_X12_losesAt (d := d - 1) (by omega) _ _ _ _ _ ex6) hd1 rfl (Nat.le_of_ble_eq_true rfl) rfl ?_
      refine r_if_eq (pc := 40) X 48 dX12_moveOf_40 (by decide) (fun c7 => ?_) (fun c7 => ?_)
      · rw [if_pos c7] at hf
        refine r_iconst (pc := 48) X 0 dX12_moveOf_48 (by decide) ?_
        obtain rfl := Option.some.inj hf
        exact r_iret (pc := 49) X dX12_moveOf_49 hk
      · rw [if_neg c7] at hf
        refine r_bipush (pc := 43) X 6 dX12_moveOf_43 (by decide) ?_
        refine r_goto (pc := 45) X 49 dX12_moveOf_45 (by decide) ?_
        obtain rfl := Option.some.inj hf
        exact r_iret (pc := 49) X dX12_moveOf_49 hk
    · rw [if_neg c8] at hf
      refine r_iconst (pc := 28) X 4 dX12_moveOf_28 (by decide) ?_
      refine r_goto (pc := 29) X 49 dX12_moveOf_29 (by decide) ?_
      obtain rfl := Option.some.inj hf
      exact r_iret (pc := 49) X dX12_moveOf_49 hk
  · rw [if_neg c9] at hf
    refine r_iconst (pc := 11) X 2 dX12_moveOf_11 (by decide) ?_
    refine r_goto (pc := 12) X 49 dX12_moveOf_12 (by decide) ?_
    obtain rfl := Option.some.inj hf
    exact r_iret (pc := 49) X dX12_moveOf_49 hk

theorem dX12_locks_0 : decode cX12_locks 0 = .ok (.aload_n 0, 1) := by decide +kernel
theorem dX12_locks_1 : decode cX12_locks 1 = .ok (.iconst 0, 1) := by decide +kernel
theorem dX12_locks_2 : decode cX12_locks 2 = .ok (.putfield 100, 3) := by decide +kernel
theorem dX12_locks_5 : decode cX12_locks 5 = .ok (.iload_n 1, 1) := by decide +kernel
theorem dX12_locks_6 : decode cX12_locks 6 = .ok (.iconst 0, 1) := by decide +kernel
theorem dX12_locks_7 : decode cX12_locks 7 = .ok (.bipush 20, 2) := by decide +kernel
theorem dX12_locks_9 : decode cX12_locks 9 = .ok (.invokestatic 110, 3) := by decide +kernel
theorem dX12_locks_12 : decode cX12_locks 12 = .ok (.ifCond .eq 13, 3) := by decide +kernel
theorem dX12_locks_15 : decode cX12_locks 15 = .ok (.iload_n 2, 1) := by decide +kernel
theorem dX12_locks_16 : decode cX12_locks 16 = .ok (.iconst 0, 1) := by decide +kernel
theorem dX12_locks_17 : decode cX12_locks 17 = .ok (.bipush 20, 2) := by decide +kernel
theorem dX12_locks_19 : decode cX12_locks 19 = .ok (.invokestatic 110, 3) := by decide +kernel
theorem dX12_locks_22 : decode cX12_locks 22 = .ok (.ifCond .ne 5, 3) := by decide +kernel
theorem dX12_locks_25 : decode cX12_locks 25 = .ok (.iconst (-1), 1) := by decide +kernel
theorem dX12_locks_26 : decode cX12_locks 26 = .ok (.ireturn, 1) := by decide +kernel
theorem dX12_locks_27 : decode cX12_locks 27 = .ok (.iconst 0, 1) := by decide +kernel
theorem dX12_locks_28 : decode cX12_locks 28 = .ok (.istore_n 3, 1) := by decide +kernel
theorem dX12_locks_29 : decode cX12_locks 29 = .ok (.iload_n 3, 1) := by decide +kernel
theorem dX12_locks_30 : decode cX12_locks 30 = .ok (.iload_n 1, 1) := by decide +kernel
theorem dX12_locks_31 : decode cX12_locks 31 = .ok (.if_icmp .gt 51, 3) := by decide +kernel
theorem dX12_locks_34 : decode cX12_locks 34 = .ok (.iconst 0, 1) := by decide +kernel
theorem dX12_locks_35 : decode cX12_locks 35 = .ok (.istore 4, 2) := by decide +kernel
theorem dX12_locks_37 : decode cX12_locks 37 = .ok (.iload 4, 2) := by decide +kernel
theorem dX12_locks_39 : decode cX12_locks 39 = .ok (.iload_n 2, 1) := by decide +kernel
theorem dX12_locks_40 : decode cX12_locks 40 = .ok (.if_icmp .gt 36, 3) := by decide +kernel
theorem dX12_locks_43 : decode cX12_locks 43 = .ok (.aload_n 0, 1) := by decide +kernel
theorem dX12_locks_44 : decode cX12_locks 44 = .ok (.getfield 87, 3) := by decide +kernel
theorem dX12_locks_47 : decode cX12_locks 47 = .ok (.bipush 21, 2) := by decide +kernel
theorem dX12_locks_49 : decode cX12_locks 49 = .ok (.iload_n 3, 1) := by decide +kernel
theorem dX12_locks_50 : decode cX12_locks 50 = .ok (.imul, 1) := by decide +kernel
theorem dX12_locks_51 : decode cX12_locks 51 = .ok (.iload 4, 2) := by decide +kernel
theorem dX12_locks_53 : decode cX12_locks 53 = .ok (.iadd, 1) := by decide +kernel
theorem dX12_locks_54 : decode cX12_locks 54 = .ok (.aload_n 0, 1) := by decide +kernel
theorem dX12_locks_55 : decode cX12_locks 55 = .ok (.iload_n 3, 1) := by decide +kernel
theorem dX12_locks_56 : decode cX12_locks 56 = .ok (.iload 4, 2) := by decide +kernel
theorem dX12_locks_58 : decode cX12_locks 58 = .ok (.invokevirtual 388, 3) := by decide +kernel
theorem dX12_locks_61 : decode cX12_locks 61 = .ok (.ifCond .ne 7, 3) := by decide +kernel
theorem dX12_locks_64 : decode cX12_locks 64 = .ok (.iconst 1, 1) := by decide +kernel
theorem dX12_locks_65 : decode cX12_locks 65 = .ok (.goto 4, 3) := by decide +kernel
theorem dX12_locks_68 : decode cX12_locks 68 = .ok (.iconst 0, 1) := by decide +kernel
theorem dX12_locks_69 : decode cX12_locks 69 = .ok (.bastore, 1) := by decide +kernel
theorem dX12_locks_70 : decode cX12_locks 70 = .ok (.iinc 4 1, 3) := by decide +kernel
theorem dX12_locks_73 : decode cX12_locks 73 = .ok (.goto (-36), 3) := by decide +kernel
theorem dX12_locks_76 : decode cX12_locks 76 = .ok (.iinc 3 1, 3) := by decide +kernel
theorem dX12_locks_79 : decode cX12_locks 79 = .ok (.goto (-50), 3) := by decide +kernel
theorem dX12_locks_82 : decode cX12_locks 82 = .ok (.aload_n 0, 1) := by decide +kernel
theorem dX12_locks_83 : decode cX12_locks 83 = .ok (.iload_n 1, 1) := by decide +kernel
theorem dX12_locks_84 : decode cX12_locks 84 = .ok (.iload_n 2, 1) := by decide +kernel
theorem dX12_locks_85 : decode cX12_locks 85 = .ok (.invokevirtual 388, 3) := by decide +kernel
theorem dX12_locks_88 : decode cX12_locks 88 = .ok (.istore_n 3, 1) := by decide +kernel
theorem dX12_locks_89 : decode cX12_locks 89 = .ok (.aload_n 0, 1) := by decide +kernel
theorem dX12_locks_90 : decode cX12_locks 90 = .ok (.iconst 0, 1) := by decide +kernel
theorem dX12_locks_91 : decode cX12_locks 91 = .ok (.putfield 104, 3) := by decide +kernel
theorem dX12_locks_94 : decode cX12_locks 94 = .ok (.iload_n 3, 1) := by decide +kernel
theorem dX12_locks_95 : decode cX12_locks 95 = .ok (.ifCond .ne 5, 3) := by decide +kernel
theorem dX12_locks_98 : decode cX12_locks 98 = .ok (.iconst 0, 1) := by decide +kernel
theorem dX12_locks_99 : decode cX12_locks 99 = .ok (.ireturn, 1) := by decide +kernel
theorem dX12_locks_100 : decode cX12_locks 100 = .ok (.aload_n 0, 1) := by decide +kernel
theorem dX12_locks_101 : decode cX12_locks 101 = .ok (.iload_n 3, 1) := by decide +kernel
theorem dX12_locks_102 : decode cX12_locks 102 = .ok (.iconst 3, 1) := by decide +kernel
theorem dX12_locks_103 : decode cX12_locks 103 = .ok (.idiv, 1) := by decide +kernel
theorem dX12_locks_104 : decode cX12_locks 104 = .ok (.i2l, 1) := by decide +kernel
theorem dX12_locks_105 : decode cX12_locks 105 = .ok (.invokevirtual 274, 3) := by decide +kernel
theorem dX12_locks_108 : decode cX12_locks 108 = .ok (.aload_n 0, 1) := by decide +kernel
theorem dX12_locks_109 : decode cX12_locks 109 = .ok (.iload_n 3, 1) := by decide +kernel
theorem dX12_locks_110 : decode cX12_locks 110 = .ok (.iconst 3, 1) := by decide +kernel
theorem dX12_locks_111 : decode cX12_locks 111 = .ok (.irem, 1) := by decide +kernel
theorem dX12_locks_112 : decode cX12_locks 112 = .ok (.i2l, 1) := by decide +kernel
theorem dX12_locks_113 : decode cX12_locks 113 = .ok (.invokevirtual 274, 3) := by decide +kernel
theorem dX12_locks_116 : decode cX12_locks 116 = .ok (.iconst 1, 1) := by decide +kernel
theorem dX12_locks_117 : decode cX12_locks 117 = .ok (.ireturn, 1) := by decide +kernel
def lb_X12_locks_37 (v0 : Nat) (v1 : Int32) (v2 : Int32) (v3 : Int32) (s : Int32 × aH) : Option ((Int32 × aH) ⊕ ((aH))) :=
  if s.1 ≤ v2 then
    (gR s.2 v0 11 44).bind fun a4 =>
    (ck s.2 v0 11).bind fun u5 =>
    (fn_X12_moveOf s.2 v0 v3 s.1).bind fun x6 =>
    ((
      if x6 = 0 then
        some 1
      else
        some 0
    ) : Option (Int32)).bind fun t7 =>
    (wZ s.2 a4 ((21 * v3) + s.1) t7).bind fun h8 =>
    (some (s.1 + 1)).bind fun x9 =>
    some (.inl (x9, h8))
  else
    some (.inr s.2)
def hd_X12_locks_37 (Γ : aC) (v0 : Nat) (v1 : Int32) (v2 : Int32) (v3 : Int32) (s : Int32 × aH) : Prop := Jd Γ (0, 0) 37 [some (.ref v0), some (.int v1), some (.int v2), some (.int v3), some (.int s.1)] [] s.2
def ex_X12_locks_37 (Γ : aC) (v0 : Nat) (v1 : Int32) (v2 : Int32) (v3 : Int32) (r : (aH)) : Prop := (fun r => ∀ (j4 : Option Value), Jd Γ (0, 0) 76 [some (.ref v0), some (.int v1), some (.int v2), some (.int v3), j4] [] r) r
set_option maxRecDepth 20000 in
set_option maxHeartbeats 4000000 in
theorem lw_X12_locks_37 {Γ : aC} {d : Nat} (X : Cx Γ RX12 cX12_locks 5 (some .int) (d, 0, 0)) (hd : 2 ≤ d) (v0 : Nat) (v1 : Int32) (v2 : Int32) (v3 : Int32) : ∀ n s o, lp (lb_X12_locks_37 v0 v1 v2 v3) n s = some o → ex_X12_locks_37 Γ v0 v1 v2 v3 o → hd_X12_locks_37 Γ v0 v1 v2 v3 s := by
  have hd1 : 1 ≤ d := by omega
  refine J_lp _ _ _ ?_
  intro s o hf hk
  unfold lb_X12_locks_37 at hf
  refine r_iload (pc := 37) X dX12_locks_37 rfl ?_
  refine r_iload_n (pc := 39) X dX12_locks_39 rfl ?_
  refine r_icmp_gt (pc := 40) X 76 dX12_locks_40 (by decide) (fun c11 => ?_) (fun c11 => ?_)
  · rw [if_neg c11] at hf
    obtain rfl := Option.some.inj hf
    exact hk _
  · rw [if_pos c11] at hf
    refine r_aload_n (pc := 43) X dX12_locks_43 rfl ?_
    obtain ⟨a4, ea4, hf⟩ := ob hf
    refine r_getR (pc := 44) X dX12_locks_44 fl_X12_87 rfl ea4 ?_
    refine r_bipush (pc := 47) X 21 dX12_locks_47 (by decide) ?_
    refine r_iload_n (pc := 49) X dX12_locks_49 rfl ?_
    refine r_imul (pc := 50) X dX12_locks_50 ?_
    refine r_iload (pc := 51) X dX12_locks_51 rfl ?_
    refine r_iadd (pc := 53) X dX12_locks_53 ?_
    refine r_aload_n (pc := 54) X dX12_locks_54 rfl ?_
    refine r_iload_n (pc := 55) X dX12_locks_55 rfl ?_
    refine r_iload (pc := 56) X dX12_locks_56 rfl ?_
    obtain ⟨u5, eu5, hf⟩ := ob hf
    obtain ⟨x6, ex6, hf⟩ := ob hf
    refine r_callVI (pc := 58) X [.int v3, .int s.1] dX12_locks_58 ml_X12_388 vo_X12_moveOf ⟨Nat.le_refl _, Nat.le_refl _⟩ eu5 (ev_X12_moveOf (d := d - 1) (by omega) _ _ _ _ _ ex6) hd1 rfl (Nat.le_of_ble_eq_true rfl) rfl ?_
    obtain ⟨t7, et7, hf⟩ := ob hf
    have Jt7 : Jd Γ (0, 0) 69 [some (.ref v0), some (.int v1), some (.int v2), some (.int v3), some (.int s.1)] [.int t7, .int ((21 * v3) + s.1), .ref a4] s.2 := by
      obtain ⟨h8, eh8, hf⟩ := ob hf
      refine r_zast (pc := 69) X dX12_locks_69 eh8 ?_
      obtain ⟨x9, ex9, hf⟩ := ob hf
      refine r_iinc2 (pc := 70) X 1 [some (.ref v0), some (.int v1), some (.int v2), some (.int v3), some (.int x9)] dX12_locks_70 (by decide) rfl (by decide) ex9 rfl ?_
      refine r_goto (pc := 73) X 37 dX12_locks_73 (by decide) ?_
      obtain rfl := Option.some.inj hf
      exact hk
    refine r_if_ne (pc := 61) X 68 dX12_locks_61 (by decide) (fun c10 => ?_) (fun c10 => ?_)
    · rw [if_neg c10] at et7
      refine r_iconst (pc := 68) X 0 dX12_locks_68 (by decide) ?_
      obtain rfl := Option.some.inj et7
      exact Jt7
    · rw [if_pos c10] at et7
      refine r_iconst (pc := 64) X 1 dX12_locks_64 (by decide) ?_
      refine r_goto (pc := 65) X 69 dX12_locks_65 (by decide) ?_
      obtain rfl := Option.some.inj et7
      exact Jt7
def lb_X12_locks_29 (v0 : Nat) (v1 : Int32) (v2 : Int32) (s : Int32 × aH) : Option ((Int32 × aH) ⊕ ((aH))) :=
  if s.1 ≤ v1 then
    (lp (lb_X12_locks_37 v0 v1 v2 s.1) lpN (0, s.2)).bind fun o12 =>
    (some (s.1 + 1)).bind fun x14 =>
    some (.inl (x14, o12))
  else
    some (.inr s.2)
def hd_X12_locks_29 (Γ : aC) (v0 : Nat) (v1 : Int32) (v2 : Int32) (s : Int32 × aH) : Prop := ∀ (j4 : Option Value), Jd Γ (0, 0) 29 [some (.ref v0), some (.int v1), some (.int v2), some (.int s.1), j4] [] s.2
def ex_X12_locks_29 (Γ : aC) (v0 : Nat) (v1 : Int32) (v2 : Int32) (r : (aH)) : Prop := (fun r => ∀ (j3 : Option Value) (j4 : Option Value), Jd Γ (0, 0) 82 [some (.ref v0), some (.int v1), some (.int v2), j3, j4] [] r) r
set_option maxRecDepth 20000 in
set_option maxHeartbeats 4000000 in
theorem lw_X12_locks_29 {Γ : aC} {d : Nat} (X : Cx Γ RX12 cX12_locks 5 (some .int) (d, 0, 0)) (hd : 2 ≤ d) (v0 : Nat) (v1 : Int32) (v2 : Int32) : ∀ n s o, lp (lb_X12_locks_29 v0 v1 v2) n s = some o → ex_X12_locks_29 Γ v0 v1 v2 o → hd_X12_locks_29 Γ v0 v1 v2 s := by
  have hd1 : 1 ≤ d := by omega
  refine J_lp _ _ _ ?_
  intro s o hf hk j4
  unfold lb_X12_locks_29 at hf
  refine r_iload_n (pc := 29) X dX12_locks_29 rfl ?_
  refine r_iload_n (pc := 30) X dX12_locks_30 rfl ?_
  refine r_icmp_gt (pc := 31) X 82 dX12_locks_31 (by decide) (fun c15 => ?_) (fun c15 => ?_)
  · rw [if_neg c15] at hf
    obtain rfl := Option.some.inj hf
    exact hk _ _
  · rw [if_pos c15] at hf
    refine r_iconst (pc := 34) X 0 dX12_locks_34 (by decide) ?_
    refine r_istore (pc := 35) X [some (.ref v0), some (.int v1), some (.int v2), some (.int s.1), some (.int 0)] dX12_locks_35 (by decide) rfl ?_
    obtain ⟨o12, eo12, hf⟩ := ob hf
    refine (lw_X12_locks_37 X hd _ _ _ _ lpN _ o12 eo12 ?_)
    intro j13
    obtain ⟨x14, ex14, hf⟩ := ob hf
    refine r_iinc2 (pc := 76) X 1 [some (.ref v0), some (.int v1), some (.int v2), some (.int x14), j13] dX12_locks_76 (by decide) rfl (by decide) ex14 rfl ?_
    refine r_goto (pc := 79) X 29 dX12_locks_79 (by decide) ?_
    obtain rfl := Option.some.inj hf
    exact hk _
def fn_X12_locks (h : aH) (p0 : Nat) (p1 : Int32) (p2 : Int32) : Option (Int32 × aH) :=
  (pI h p0 11 11 0).bind fun h1 =>
  (fn_X12_in h1 p1 0 20).bind fun x2 =>
  if x2 = 0 then
    some ((-1), h1)
  else
    (fn_X12_in h1 p2 0 20).bind fun x3 =>
    if x3 = 0 then
      some ((-1), h1)
    else
      (lp (lb_X12_locks_29 p0 p1 p2) lpN (0, h1)).bind fun o16 =>
      (ck o16 p0 11).bind fun u19 =>
      (fn_X12_moveOf o16 p0 p1 p2).bind fun x20 =>
      (pI o16 p0 11 10 0).bind fun h21 =>
      if x20 = 0 then
        some (0, h21)
      else
        (idv x20 3).bind fun x22 =>
        (ck h21 p0 11).bind fun u23 =>
        (fn_X12_tell h21 p0 (Int32.toInt64 x22)).bind fun h24 =>
        (irm x20 3).bind fun x25 =>
        (ck h24 p0 11).bind fun u26 =>
        (fn_X12_tell h24 p0 (Int32.toInt64 x25)).bind fun h27 =>
        some (1, h27)
set_option maxRecDepth 20000 in
set_option maxHeartbeats 4000000 in
theorem ev_X12_locks {l : Launch} {g : aG} {d : Nat} (hd : 2 ≤ d) (h : aH) (p0 : Nat) (p1 : Int32) (p2 : Int32) (o : Int32 × aH) (hf : fn_X12_locks h p0 p1 p2 = some o) : EvM l g d yX12_locks cX12_locks 5 (some .int) [.ref p0, .int p1, .int p2] h (some (.int o.1), o.2) := by
  refine EvM.of mk_X12_locks (Nat.le_of_ble_eq_true rfl) ?_
  intro Γ hl hg hq X
  have hd1 : 1 ≤ d := by omega
  have hk : RqI Γ o := hq
  unfold fn_X12_locks at hf
  show Jd Γ (0, 0) 0 [some (.ref p0), some (.int p1), some (.int p2), none, none] [] h
  refine r_aload_n (pc := 0) X dX12_locks_0 rfl ?_
  refine r_iconst (pc := 1) X 0 dX12_locks_1 (by decide) ?_
  obtain ⟨h1, eh1, hf⟩ := ob hf
  refine r_putI (pc := 2) X dX12_locks_2 fp_X12_100 rfl eh1 ?_
  refine r_iload_n (pc := 5) X dX12_locks_5 rfl ?_
  refine r_iconst (pc := 6) X 0 dX12_locks_6 (by decide) ?_
  refine r_bipush (pc := 7) X 20 dX12_locks_7 (by decide) ?_
  obtain ⟨x2, ex2, hf⟩ := ob hf
  refine r_callSI (pc := 9) X [.int p1, .int 0, .int 20] dX12_locks_9 ml_X12_110 so_X12_in ⟨Nat.le_refl _, Nat.le_refl _⟩ (ev_X12_in (d := d - 1) (by omega) _ _ _ _ _ ex2) hd1 rfl (Nat.le_of_ble_eq_true rfl) rfl ?_
  refine r_if_eq (pc := 12) X 25 dX12_locks_12 (by decide) (fun c30 => ?_) (fun c30 => ?_)
  · rw [if_pos c30] at hf
    refine r_iconst (pc := 25) X (-1) dX12_locks_25 (by decide) ?_
    obtain rfl := Option.some.inj hf
    exact r_iret (pc := 26) X dX12_locks_26 hk
  · rw [if_neg c30] at hf
    refine r_iload_n (pc := 15) X dX12_locks_15 rfl ?_
    refine r_iconst (pc := 16) X 0 dX12_locks_16 (by decide) ?_
    refine r_bipush (pc := 17) X 20 dX12_locks_17 (by decide) ?_
    obtain ⟨x3, ex3, hf⟩ := ob hf
    refine r_callSI (pc := 19) X [.int p2, .int 0, .int 20] dX12_locks_19 ml_X12_110 so_X12_in ⟨Nat.le_refl _, Nat.le_refl _⟩ (ev_X12_in (d := d - 1) (by omega) _ _ _ _ _ ex3) hd1 rfl (Nat.le_of_ble_eq_true rfl) rfl ?_
    refine r_if_ne (pc := 22) X 27 dX12_locks_22 (by decide) (fun c29 => ?_) (fun c29 => ?_)
    · rw [if_neg c29] at hf
      refine r_iconst (pc := 27) X 0 dX12_locks_27 (by decide) ?_
      refine r_istore_n (pc := 28) X [some (.ref p0), some (.int p1), some (.int p2), some (.int 0), none] dX12_locks_28 (by decide) rfl ?_
      obtain ⟨o16, eo16, hf⟩ := ob hf
      refine (lw_X12_locks_29 X hd _ _ _ lpN _ o16 eo16 ?_) _
      intro j17 j18
      refine r_aload_n (pc := 82) X dX12_locks_82 rfl ?_
      refine r_iload_n (pc := 83) X dX12_locks_83 rfl ?_
      refine r_iload_n (pc := 84) X dX12_locks_84 rfl ?_
      obtain ⟨u19, eu19, hf⟩ := ob hf
      obtain ⟨x20, ex20, hf⟩ := ob hf
      refine r_callVI (pc := 85) X [.int p1, .int p2] dX12_locks_85 ml_X12_388 vo_X12_moveOf ⟨Nat.le_refl _, Nat.le_refl _⟩ eu19 (ev_X12_moveOf (d := d - 1) (by omega) _ _ _ _ _ ex20) hd1 rfl (Nat.le_of_ble_eq_true rfl) rfl ?_
      refine r_istore_n (pc := 88) X [some (.ref p0), some (.int p1), some (.int p2), some (.int x20), j18] dX12_locks_88 (by decide) rfl ?_
      refine r_aload_n (pc := 89) X dX12_locks_89 rfl ?_
      refine r_iconst (pc := 90) X 0 dX12_locks_90 (by decide) ?_
      obtain ⟨h21, eh21, hf⟩ := ob hf
      refine r_putI (pc := 91) X dX12_locks_91 fp_X12_104 rfl eh21 ?_
      refine r_iload_n (pc := 94) X dX12_locks_94 rfl ?_
      refine r_if_ne (pc := 95) X 100 dX12_locks_95 (by decide) (fun c28 => ?_) (fun c28 => ?_)
      · rw [if_neg c28] at hf
        refine r_aload_n (pc := 100) X dX12_locks_100 rfl ?_
        refine r_iload_n (pc := 101) X dX12_locks_101 rfl ?_
        refine r_iconst (pc := 102) X 3 dX12_locks_102 (by decide) ?_
        obtain ⟨x22, ex22, hf⟩ := ob hf
        refine r_idiv (pc := 103) X dX12_locks_103 ex22 ?_
        refine r_i2l (pc := 104) X dX12_locks_104 ?_
        obtain ⟨u23, eu23, hf⟩ := ob hf
        obtain ⟨h24, eh24, hf⟩ := ob hf
        refine r_callVV (pc := 105) X [.long (Int32.toInt64 x22)] dX12_locks_105 ml_X12_274 vo_X12_tell ⟨Nat.le_refl _, Nat.le_refl _⟩ eu23 (ev_X12_tell (d := d - 1) (by omega) _ _ _ _ eh24) hd1 rfl (Nat.le_of_ble_eq_true rfl) rfl ?_
        refine r_aload_n (pc := 108) X dX12_locks_108 rfl ?_
        refine r_iload_n (pc := 109) X dX12_locks_109 rfl ?_
        refine r_iconst (pc := 110) X 3 dX12_locks_110 (by decide) ?_
        obtain ⟨x25, ex25, hf⟩ := ob hf
        refine r_irem (pc := 111) X dX12_locks_111 ex25 ?_
        refine r_i2l (pc := 112) X dX12_locks_112 ?_
        obtain ⟨u26, eu26, hf⟩ := ob hf
        obtain ⟨h27, eh27, hf⟩ := ob hf
        refine r_callVV (pc := 113) X [.long (Int32.toInt64 x25)] dX12_locks_113 ml_X12_274 vo_X12_tell ⟨Nat.le_refl _, Nat.le_refl _⟩ eu26 (ev_X12_tell (d := d - 1) (by omega) _ _ _ _ eh27) hd1 rfl (Nat.le_of_ble_eq_true rfl) rfl ?_
        refine r_iconst (pc := 116) X 1 dX12_locks_116 (by decide) ?_
        obtain rfl := Option.some.inj hf
        exact r_iret (pc := 117) X dX12_locks_117 hk
      · rw [if_pos c28] at hf
        refine r_iconst (pc := 98) X 0 dX12_locks_98 (by decide) ?_
        obtain rfl := Option.some.inj hf
        exact r_iret (pc := 99) X dX12_locks_99 hk
    · rw [if_pos c29] at hf
      refine r_iconst (pc := 25) X (-1) dX12_locks_25 (by decide) ?_
      obtain rfl := Option.some.inj hf
      exact r_iret (pc := 26) X dX12_locks_26 hk

theorem dX12_common_0 : decode cX12_common 0 = .ok (.lload_n 2, 1) := by decide +kernel
theorem dX12_common_1 : decode cX12_common 1 = .ok (.lconst 0, 1) := by decide +kernel
theorem dX12_common_2 : decode cX12_common 2 = .ok (.lcmp, 1) := by decide +kernel
theorem dX12_common_3 : decode cX12_common 3 = .ok (.ifCond .ne 7, 3) := by decide +kernel
theorem dX12_common_6 : decode cX12_common 6 = .ok (.lload_n 0, 1) := by decide +kernel
theorem dX12_common_7 : decode cX12_common 7 = .ok (.goto 10, 3) := by decide +kernel
theorem dX12_common_10 : decode cX12_common 10 = .ok (.lload_n 2, 1) := by decide +kernel
theorem dX12_common_11 : decode cX12_common 11 = .ok (.lload_n 0, 1) := by decide +kernel
theorem dX12_common_12 : decode cX12_common 12 = .ok (.lload_n 2, 1) := by decide +kernel
theorem dX12_common_13 : decode cX12_common 13 = .ok (.lrem, 1) := by decide +kernel
theorem dX12_common_14 : decode cX12_common 14 = .ok (.invokestatic 391, 3) := by decide +kernel
theorem dX12_common_17 : decode cX12_common 17 = .ok (.lreturn, 1) := by decide +kernel
def fnF_X12_common (th : aH → Int64 → Int64 → Option (Int64)) (h : aH) (p0 : Int64) (p1 : Int64) : Option (Int64) :=
  if (lg_cmp p1 0) = 0 then
    some p0
  else
    (lrm p0 p1).bind fun y1 =>
    (th h p1 y1).bind fun y2 =>
    some y2
set_option maxRecDepth 20000 in
set_option maxHeartbeats 4000000 in
theorem evF_X12_common (th : aH → Int64 → Int64 → Option (Int64)) {l : Launch} {g : aG} {d D0 : Nat} (hd : D0 + 1 ≤ d) (hth : ∀ (l : Launch) (g : aG) (d : Nat), D0 ≤ d → ∀ (h : aH) (q0 : Int64) (q1 : Int64) (o : Int64), th h q0 q1 = some o → EvM l g d yX12_common cX12_common 4 (some .long) [.long q0, .long q1] h (some (.long o), h)) (h : aH) (p0 : Int64) (p1 : Int64) (o : Int64) (hf : fnF_X12_common th h p0 p1 = some o) : EvM l g d yX12_common cX12_common 4 (some .long) [.long p0, .long p1] h (some (.long o), h) := by
  refine EvM.of mk_X12_common (Nat.le_of_ble_eq_true rfl) ?_
  intro Γ hl hg hq X
  have hd1 : 1 ≤ d := by omega
  have hk : RpJ h Γ o := hq
  unfold fnF_X12_common at hf
  show Jd Γ (0, 0) 0 [some (.long p0), none, some (.long p1), none] [] h
  refine r_lload_n (pc := 0) X dX12_common_0 rfl ?_
  refine r_lconst (pc := 1) X 0 dX12_common_1 (by decide) ?_
  refine r_lcmp (pc := 2) X dX12_common_2 ?_
  refine r_if_ne (pc := 3) X 10 dX12_common_3 (by decide) (fun c3 => ?_) (fun c3 => ?_)
  · rw [if_neg c3] at hf
    refine r_lload_n (pc := 10) X dX12_common_10 rfl ?_
    refine r_lload_n (pc := 11) X dX12_common_11 rfl ?_
    refine r_lload_n (pc := 12) X dX12_common_12 rfl ?_
    obtain ⟨y1, ey1, hf⟩ := ob hf
    refine r_lrem (pc := 13) X dX12_common_13 ey1 ?_
    obtain ⟨y2, ey2, hf⟩ := ob hf
    refine r_callSJ (pc := 14) X [.long p1, .long y1] dX12_common_14 ml_X12_391 so_X12_common ⟨Nat.le_refl _, Nat.le_refl _⟩ (hth _ _ (d - 1) (by omega) _ _ _ _ ey2) hd1 rfl (Nat.le_of_ble_eq_true rfl) rfl ?_
    obtain rfl := Option.some.inj hf
    exact r_lret (pc := 17) X dX12_common_17 hk
  · rw [if_pos c3] at hf
    refine r_lload_n (pc := 6) X dX12_common_6 rfl ?_
    refine r_goto (pc := 7) X 17 dX12_common_7 (by decide) ?_
    obtain rfl := Option.some.inj hf
    exact r_lret (pc := 17) X dX12_common_17 hk

def fn_X12_common : Nat → aH → Int64 → Int64 → Option (Int64)
  | 0 => fun _ _ _ => none
  | n + 1 => fnF_X12_common (fn_X12_common n)
theorem ev_X12_common (n : Nat) : ∀ (l : Launch) (g : aG) (d : Nat), 1 * n ≤ d → ∀ (h : aH) (q0 : Int64) (q1 : Int64) (o : Int64), fn_X12_common n h q0 q1 = some o → EvM l g d yX12_common cX12_common 4 (some .long) [.long q0, .long q1] h (some (.long o), h) := by
  induction n with
  | zero => intro l g d hd h q0 q1 o hf; cases hf
  | succ n ih => intro l g d hd h q0 q1 o hf; exact evF_X12_common (fn_X12_common n) (D0 := 1 * n) (by omega) ih h q0 q1 o hf

theorem dX12_power_0 : decode cX12_power 0 = .ok (.lconst 1, 1) := by decide +kernel
theorem dX12_power_1 : decode cX12_power 1 = .ok (.lstore_n 3, 1) := by decide +kernel
theorem dX12_power_2 : decode cX12_power 2 = .ok (.iconst 0, 1) := by decide +kernel
theorem dX12_power_3 : decode cX12_power 3 = .ok (.istore 5, 2) := by decide +kernel
theorem dX12_power_5 : decode cX12_power 5 = .ok (.iload 5, 2) := by decide +kernel
theorem dX12_power_7 : decode cX12_power 7 = .ok (.iload_n 2, 1) := by decide +kernel
theorem dX12_power_8 : decode cX12_power 8 = .ok (.if_icmp .ge 13, 3) := by decide +kernel
theorem dX12_power_11 : decode cX12_power 11 = .ok (.lload_n 3, 1) := by decide +kernel
theorem dX12_power_12 : decode cX12_power 12 = .ok (.lload_n 0, 1) := by decide +kernel
theorem dX12_power_13 : decode cX12_power 13 = .ok (.lmul, 1) := by decide +kernel
theorem dX12_power_14 : decode cX12_power 14 = .ok (.lstore_n 3, 1) := by decide +kernel
theorem dX12_power_15 : decode cX12_power 15 = .ok (.iinc 5 1, 3) := by decide +kernel
theorem dX12_power_18 : decode cX12_power 18 = .ok (.goto (-13), 3) := by decide +kernel
theorem dX12_power_21 : decode cX12_power 21 = .ok (.lload_n 3, 1) := by decide +kernel
theorem dX12_power_22 : decode cX12_power 22 = .ok (.lreturn, 1) := by decide +kernel
def lb_X12_power_5 (hh : aH) (v0 : Int64) (v2 : Int32) (s : Int64 × Int32) : Option ((Int64 × Int32) ⊕ ((Int64))) :=
  if s.2 < v2 then
    (some (s.1 * v0)).bind fun y1 =>
    (some (s.2 + 1)).bind fun x2 =>
    some (.inl (y1, x2))
  else
    some (.inr s.1)
def hd_X12_power_5 (Γ : aC) (hh : aH) (v0 : Int64) (v2 : Int32) (s : Int64 × Int32) : Prop := ∀ (j1 : Option Value) (j4 : Option Value), Jd Γ (0, 0) 5 [some (.long v0), j1, some (.int v2), some (.long s.1), j4, some (.int s.2)] [] hh
def ex_X12_power_5 (Γ : aC) (hh : aH) (v0 : Int64) (v2 : Int32) (r : (Int64)) : Prop := (fun r => RpJ hh Γ r) r
set_option maxRecDepth 20000 in
set_option maxHeartbeats 4000000 in
theorem lw_X12_power_5 {Γ : aC} {d : Nat} (X : Cx Γ RX12 cX12_power 6 (some .long) (d, 0, 0)) (hd : 0 ≤ d) (hh : aH) (v0 : Int64) (v2 : Int32) : ∀ n s o, lp (lb_X12_power_5 hh v0 v2) n s = some o → ex_X12_power_5 Γ hh v0 v2 o → hd_X12_power_5 Γ hh v0 v2 s := by
  have hd1 : 0 ≤ d := by omega
  refine J_lp _ _ _ ?_
  intro s o hf hk j1 j4
  unfold lb_X12_power_5 at hf
  refine r_iload (pc := 5) X dX12_power_5 rfl ?_
  refine r_iload_n (pc := 7) X dX12_power_7 rfl ?_
  refine r_icmp_ge (pc := 8) X 21 dX12_power_8 (by decide) (fun c3 => ?_) (fun c3 => ?_)
  · rw [if_neg c3] at hf
    refine r_lload_n (pc := 21) X dX12_power_21 rfl ?_
    obtain rfl := Option.some.inj hf
    exact r_lret (pc := 22) X dX12_power_22 hk
  · rw [if_pos c3] at hf
    refine r_lload_n (pc := 11) X dX12_power_11 rfl ?_
    refine r_lload_n (pc := 12) X dX12_power_12 rfl ?_
    refine r_lmul (pc := 13) X dX12_power_13 ?_
    obtain ⟨y1, ey1, hf⟩ := ob hf
    refine r_nmJ ey1 ?_
    refine r_lstore_n (pc := 14) X [some (.long v0), j1, some (.int v2), some (.long y1), none, some (.int s.2)] dX12_power_14 (by decide) rfl ?_
    obtain ⟨x2, ex2, hf⟩ := ob hf
    refine r_iinc2 (pc := 15) X 1 [some (.long v0), j1, some (.int v2), some (.long y1), none, some (.int x2)] dX12_power_15 (by decide) rfl (by decide) ex2 rfl ?_
    refine r_goto (pc := 18) X 5 dX12_power_18 (by decide) ?_
    obtain rfl := Option.some.inj hf
    exact hk _ _
def fn_X12_power (h : aH) (p0 : Int64) (p1 : Int32) : Option (Int64) :=
  (lp (lb_X12_power_5 h p0 p1) lpN (1, 0)).bind fun o4 =>
  some o4
set_option maxRecDepth 20000 in
set_option maxHeartbeats 4000000 in
theorem ev_X12_power {l : Launch} {g : aG} {d : Nat} (hd : 0 ≤ d) (h : aH) (p0 : Int64) (p1 : Int32) (o : Int64) (hf : fn_X12_power h p0 p1 = some o) : EvM l g d yX12_power cX12_power 6 (some .long) [.long p0, .int p1] h (some (.long o), h) := by
  refine EvM.of mk_X12_power (Nat.le_of_ble_eq_true rfl) ?_
  intro Γ hl hg hq X
  have hd1 : 0 ≤ d := by omega
  have hk : RpJ h Γ o := hq
  unfold fn_X12_power at hf
  show Jd Γ (0, 0) 0 [some (.long p0), none, some (.int p1), none, none, none] [] h
  refine r_lconst (pc := 0) X 1 dX12_power_0 (by decide) ?_
  refine r_lstore_n (pc := 1) X [some (.long p0), none, some (.int p1), some (.long 1), none, none] dX12_power_1 (by decide) rfl ?_
  refine r_iconst (pc := 2) X 0 dX12_power_2 (by decide) ?_
  refine r_istore (pc := 3) X [some (.long p0), none, some (.int p1), some (.long 1), none, some (.int 0)] dX12_power_3 (by decide) rfl ?_
  obtain ⟨o4, eo4, hf⟩ := ob hf
  refine (lw_X12_power_5 X hd _ _ _ lpN _ o4 eo4 ?_) _ _
  obtain rfl := Option.some.inj hf
  exact hk

theorem dX12_spoils_0 : decode cX12_spoils 0 = .ok (.aload_n 0, 1) := by decide +kernel
theorem dX12_spoils_1 : decode cX12_spoils 1 = .ok (.iconst 0, 1) := by decide +kernel
theorem dX12_spoils_2 : decode cX12_spoils 2 = .ok (.putfield 100, 3) := by decide +kernel
theorem dX12_spoils_5 : decode cX12_spoils 5 = .ok (.iload_n 1, 1) := by decide +kernel
theorem dX12_spoils_6 : decode cX12_spoils 6 = .ok (.iconst 1, 1) := by decide +kernel
theorem dX12_spoils_7 : decode cX12_spoils 7 = .ok (.bipush 12, 2) := by decide +kernel
theorem dX12_spoils_9 : decode cX12_spoils 9 = .ok (.invokestatic 110, 3) := by decide +kernel
theorem dX12_spoils_12 : decode cX12_spoils 12 = .ok (.ifCond .eq 23, 3) := by decide +kernel
theorem dX12_spoils_15 : decode cX12_spoils 15 = .ok (.iload_n 2, 1) := by decide +kernel
theorem dX12_spoils_16 : decode cX12_spoils 16 = .ok (.iconst 1, 1) := by decide +kernel
theorem dX12_spoils_17 : decode cX12_spoils 17 = .ok (.bipush 12, 2) := by decide +kernel
theorem dX12_spoils_19 : decode cX12_spoils 19 = .ok (.invokestatic 110, 3) := by decide +kernel
theorem dX12_spoils_22 : decode cX12_spoils 22 = .ok (.ifCond .eq 13, 3) := by decide +kernel
theorem dX12_spoils_25 : decode cX12_spoils 25 = .ok (.iload_n 3, 1) := by decide +kernel
theorem dX12_spoils_26 : decode cX12_spoils 26 = .ok (.iconst 0, 1) := by decide +kernel
theorem dX12_spoils_27 : decode cX12_spoils 27 = .ok (.bipush 10, 2) := by decide +kernel
theorem dX12_spoils_29 : decode cX12_spoils 29 = .ok (.invokestatic 110, 3) := by decide +kernel
theorem dX12_spoils_32 : decode cX12_spoils 32 = .ok (.ifCond .ne 5, 3) := by decide +kernel
theorem dX12_spoils_35 : decode cX12_spoils 35 = .ok (.iconst (-1), 1) := by decide +kernel
theorem dX12_spoils_36 : decode cX12_spoils 36 = .ok (.ireturn, 1) := by decide +kernel
theorem dX12_spoils_37 : decode cX12_spoils 37 = .ok (.iload_n 2, 1) := by decide +kernel
theorem dX12_spoils_38 : decode cX12_spoils 38 = .ok (.iload_n 1, 1) := by decide +kernel
theorem dX12_spoils_39 : decode cX12_spoils 39 = .ok (.if_icmp .le 7, 3) := by decide +kernel
theorem dX12_spoils_42 : decode cX12_spoils 42 = .ok (.lconst 0, 1) := by decide +kernel
theorem dX12_spoils_43 : decode cX12_spoils 43 = .ok (.goto 4, 3) := by decide +kernel
theorem dX12_spoils_46 : decode cX12_spoils 46 = .ok (.lconst 1, 1) := by decide +kernel
theorem dX12_spoils_47 : decode cX12_spoils 47 = .ok (.lstore 4, 2) := by decide +kernel
theorem dX12_spoils_49 : decode cX12_spoils 49 = .ok (.iconst 1, 1) := by decide +kernel
theorem dX12_spoils_50 : decode cX12_spoils 50 = .ok (.istore 6, 2) := by decide +kernel
theorem dX12_spoils_52 : decode cX12_spoils 52 = .ok (.iload 6, 2) := by decide +kernel
theorem dX12_spoils_54 : decode cX12_spoils 54 = .ok (.iload_n 2, 1) := by decide +kernel
theorem dX12_spoils_55 : decode cX12_spoils 55 = .ok (.if_icmp .ge 23, 3) := by decide +kernel
theorem dX12_spoils_58 : decode cX12_spoils 58 = .ok (.lload 4, 2) := by decide +kernel
theorem dX12_spoils_60 : decode cX12_spoils 60 = .ok (.iload_n 1, 1) := by decide +kernel
theorem dX12_spoils_61 : decode cX12_spoils 61 = .ok (.iload 6, 2) := by decide +kernel
theorem dX12_spoils_63 : decode cX12_spoils 63 = .ok (.isub, 1) := by decide +kernel
theorem dX12_spoils_64 : decode cX12_spoils 64 = .ok (.i2l, 1) := by decide +kernel
theorem dX12_spoils_65 : decode cX12_spoils 65 = .ok (.lmul, 1) := by decide +kernel
theorem dX12_spoils_66 : decode cX12_spoils 66 = .ok (.iload 6, 2) := by decide +kernel
theorem dX12_spoils_68 : decode cX12_spoils 68 = .ok (.i2l, 1) := by decide +kernel
theorem dX12_spoils_69 : decode cX12_spoils 69 = .ok (.ldiv, 1) := by decide +kernel
theorem dX12_spoils_70 : decode cX12_spoils 70 = .ok (.lstore 4, 2) := by decide +kernel
theorem dX12_spoils_72 : decode cX12_spoils 72 = .ok (.iinc 6 1, 3) := by decide +kernel
theorem dX12_spoils_75 : decode cX12_spoils 75 = .ok (.goto (-23), 3) := by decide +kernel
theorem dX12_spoils_78 : decode cX12_spoils 78 = .ok (.lload 4, 2) := by decide +kernel
theorem dX12_spoils_80 : decode cX12_spoils 80 = .ok (.lconst 0, 1) := by decide +kernel
theorem dX12_spoils_81 : decode cX12_spoils 81 = .ok (.lcmp, 1) := by decide +kernel
theorem dX12_spoils_82 : decode cX12_spoils 82 = .ok (.ifCond .ne 7, 3) := by decide +kernel
theorem dX12_spoils_85 : decode cX12_spoils 85 = .ok (.lconst 0, 1) := by decide +kernel
theorem dX12_spoils_86 : decode cX12_spoils 86 = .ok (.goto 24, 3) := by decide +kernel
theorem dX12_spoils_89 : decode cX12_spoils 89 = .ok (.lload 4, 2) := by decide +kernel
theorem dX12_spoils_91 : decode cX12_spoils 91 = .ok (.iload_n 3, 1) := by decide +kernel
theorem dX12_spoils_92 : decode cX12_spoils 92 = .ok (.i2l, 1) := by decide +kernel
theorem dX12_spoils_93 : decode cX12_spoils 93 = .ok (.iload_n 2, 1) := by decide +kernel
theorem dX12_spoils_94 : decode cX12_spoils 94 = .ok (.invokestatic 395, 3) := by decide +kernel
theorem dX12_spoils_97 : decode cX12_spoils 97 = .ok (.lmul, 1) := by decide +kernel
theorem dX12_spoils_98 : decode cX12_spoils 98 = .ok (.bipush 10, 2) := by decide +kernel
theorem dX12_spoils_100 : decode cX12_spoils 100 = .ok (.iload_n 3, 1) := by decide +kernel
theorem dX12_spoils_101 : decode cX12_spoils 101 = .ok (.isub, 1) := by decide +kernel
theorem dX12_spoils_102 : decode cX12_spoils 102 = .ok (.i2l, 1) := by decide +kernel
theorem dX12_spoils_103 : decode cX12_spoils 103 = .ok (.iload_n 1, 1) := by decide +kernel
theorem dX12_spoils_104 : decode cX12_spoils 104 = .ok (.iload_n 2, 1) := by decide +kernel
theorem dX12_spoils_105 : decode cX12_spoils 105 = .ok (.isub, 1) := by decide +kernel
theorem dX12_spoils_106 : decode cX12_spoils 106 = .ok (.invokestatic 395, 3) := by decide +kernel
theorem dX12_spoils_109 : decode cX12_spoils 109 = .ok (.lmul, 1) := by decide +kernel
theorem dX12_spoils_110 : decode cX12_spoils 110 = .ok (.lstore 6, 2) := by decide +kernel
theorem dX12_spoils_112 : decode cX12_spoils 112 = .ok (.ldc2_w 399, 3) := by decide +kernel
theorem dX12_spoils_115 : decode cX12_spoils 115 = .ok (.iload_n 1, 1) := by decide +kernel
theorem dX12_spoils_116 : decode cX12_spoils 116 = .ok (.invokestatic 395, 3) := by decide +kernel
theorem dX12_spoils_119 : decode cX12_spoils 119 = .ok (.lstore 8, 2) := by decide +kernel
theorem dX12_spoils_121 : decode cX12_spoils 121 = .ok (.lload 6, 2) := by decide +kernel
theorem dX12_spoils_123 : decode cX12_spoils 123 = .ok (.lload 8, 2) := by decide +kernel
theorem dX12_spoils_125 : decode cX12_spoils 125 = .ok (.invokestatic 391, 3) := by decide +kernel
theorem dX12_spoils_128 : decode cX12_spoils 128 = .ok (.lstore 10, 2) := by decide +kernel
theorem dX12_spoils_130 : decode cX12_spoils 130 = .ok (.aload_n 0, 1) := by decide +kernel
theorem dX12_spoils_131 : decode cX12_spoils 131 = .ok (.iconst 0, 1) := by decide +kernel
theorem dX12_spoils_132 : decode cX12_spoils 132 = .ok (.putfield 104, 3) := by decide +kernel
theorem dX12_spoils_135 : decode cX12_spoils 135 = .ok (.aload_n 0, 1) := by decide +kernel
theorem dX12_spoils_136 : decode cX12_spoils 136 = .ok (.lload 6, 2) := by decide +kernel
theorem dX12_spoils_138 : decode cX12_spoils 138 = .ok (.lload 10, 2) := by decide +kernel
theorem dX12_spoils_140 : decode cX12_spoils 140 = .ok (.ldiv, 1) := by decide +kernel
theorem dX12_spoils_141 : decode cX12_spoils 141 = .ok (.invokevirtual 274, 3) := by decide +kernel
theorem dX12_spoils_144 : decode cX12_spoils 144 = .ok (.aload_n 0, 1) := by decide +kernel
theorem dX12_spoils_145 : decode cX12_spoils 145 = .ok (.lload 8, 2) := by decide +kernel
theorem dX12_spoils_147 : decode cX12_spoils 147 = .ok (.lload 10, 2) := by decide +kernel
theorem dX12_spoils_149 : decode cX12_spoils 149 = .ok (.ldiv, 1) := by decide +kernel
theorem dX12_spoils_150 : decode cX12_spoils 150 = .ok (.invokevirtual 274, 3) := by decide +kernel
theorem dX12_spoils_153 : decode cX12_spoils 153 = .ok (.iconst 0, 1) := by decide +kernel
theorem dX12_spoils_154 : decode cX12_spoils 154 = .ok (.ireturn, 1) := by decide +kernel
def lb_X12_spoils_52 (hh : aH) (v0 : Nat) (v1 : Int32) (v2 : Int32) (v3 : Int32) (s : Int64 × Int32) : Option ((Int64 × Int32) ⊕ ((Int64))) :=
  if s.2 < v2 then
    (ldv (s.1 * (Int32.toInt64 (v1 - s.2))) (Int32.toInt64 s.2)).bind fun y6 =>
    (some (s.2 + 1)).bind fun x7 =>
    some (.inl (y6, x7))
  else
    some (.inr s.1)
def hd_X12_spoils_52 (Γ : aC) (hh : aH) (v0 : Nat) (v1 : Int32) (v2 : Int32) (v3 : Int32) (s : Int64 × Int32) : Prop := ∀ (j5 : Option Value) (j7 : Option Value) (j8 : Option Value) (j9 : Option Value) (j10 : Option Value) (j11 : Option Value), Jd Γ (0, 0) 52 [some (.ref v0), some (.int v1), some (.int v2), some (.int v3), some (.long s.1), j5, some (.int s.2), j7, j8, j9, j10, j11] [] hh
def ex_X12_spoils_52 (Γ : aC) (hh : aH) (v0 : Nat) (v1 : Int32) (v2 : Int32) (v3 : Int32) (r : (Int64)) : Prop := (fun r => ∀ (j5 : Option Value) (j6 : Option Value) (j7 : Option Value) (j8 : Option Value) (j9 : Option Value) (j10 : Option Value) (j11 : Option Value), Jd Γ (0, 0) 78 [some (.ref v0), some (.int v1), some (.int v2), some (.int v3), some (.long r), j5, j6, j7, j8, j9, j10, j11] [] hh) r
set_option maxRecDepth 20000 in
set_option maxHeartbeats 4000000 in
theorem lw_X12_spoils_52 {Γ : aC} {d : Nat} (X : Cx Γ RX12 cX12_spoils 12 (some .int) (d, 0, 0)) (hd : 101 ≤ d) (hh : aH) (v0 : Nat) (v1 : Int32) (v2 : Int32) (v3 : Int32) : ∀ n s o, lp (lb_X12_spoils_52 hh v0 v1 v2 v3) n s = some o → ex_X12_spoils_52 Γ hh v0 v1 v2 v3 o → hd_X12_spoils_52 Γ hh v0 v1 v2 v3 s := by
  have hd1 : 1 ≤ d := by omega
  refine J_lp _ _ _ ?_
  intro s o hf hk j5 j7 j8 j9 j10 j11
  unfold lb_X12_spoils_52 at hf
  refine r_iload (pc := 52) X dX12_spoils_52 rfl ?_
  refine r_iload_n (pc := 54) X dX12_spoils_54 rfl ?_
  refine r_icmp_ge (pc := 55) X 78 dX12_spoils_55 (by decide) (fun c8 => ?_) (fun c8 => ?_)
  · rw [if_neg c8] at hf
    obtain rfl := Option.some.inj hf
    exact hk _ _ _ _ _ _ _
  · rw [if_pos c8] at hf
    refine r_lload (pc := 58) X dX12_spoils_58 rfl ?_
    refine r_iload_n (pc := 60) X dX12_spoils_60 rfl ?_
    refine r_iload (pc := 61) X dX12_spoils_61 rfl ?_
    refine r_isub (pc := 63) X dX12_spoils_63 ?_
    refine r_i2l (pc := 64) X dX12_spoils_64 ?_
    refine r_lmul (pc := 65) X dX12_spoils_65 ?_
    refine r_iload (pc := 66) X dX12_spoils_66 rfl ?_
    refine r_i2l (pc := 68) X dX12_spoils_68 ?_
    obtain ⟨y6, ey6, hf⟩ := ob hf
    refine r_ldiv (pc := 69) X dX12_spoils_69 ey6 ?_
    refine r_lstore (pc := 70) X [some (.ref v0), some (.int v1), some (.int v2), some (.int v3), some (.long y6), none, some (.int s.2), j7, j8, j9, j10, j11] dX12_spoils_70 (by decide) rfl ?_
    obtain ⟨x7, ex7, hf⟩ := ob hf
    refine r_iinc2 (pc := 72) X 1 [some (.ref v0), some (.int v1), some (.int v2), some (.int v3), some (.long y6), none, some (.int x7), j7, j8, j9, j10, j11] dX12_spoils_72 (by decide) rfl (by decide) ex7 rfl ?_
    refine r_goto (pc := 75) X 52 dX12_spoils_75 (by decide) ?_
    obtain rfl := Option.some.inj hf
    exact hk _ _ _ _ _ _
def fn_X12_spoils (h : aH) (p0 : Nat) (p1 : Int32) (p2 : Int32) (p3 : Int32) : Option (Int32 × aH) :=
  (pI h p0 11 11 0).bind fun h1 =>
  (fn_X12_in h1 p1 1 12).bind fun x2 =>
  if x2 = 0 then
    some ((-1), h1)
  else
    (fn_X12_in h1 p2 1 12).bind fun x3 =>
    if x3 = 0 then
      some ((-1), h1)
    else
      (fn_X12_in h1 p3 0 10).bind fun x4 =>
      if x4 = 0 then
        some ((-1), h1)
      else
        ((
          if p2 ≤ p1 then
            some 1
          else
            some 0
        ) : Option (Int64)).bind fun t5 =>
        (lp (lb_X12_spoils_52 h1 p0 p1 p2 p3) lpN (t5, 1)).bind fun o9 =>
        ((
          if (lg_cmp o9 0) = 0 then
            some 0
          else
            (fn_X12_power h1 (Int32.toInt64 p3) p2).bind fun y27 =>
            (fn_X12_power h1 (Int32.toInt64 (10 - p3)) (p1 - p2)).bind fun y28 =>
            some ((o9 * y27) * y28)
        ) : Option (Int64)).bind fun t17 =>
        (fn_X12_power h1 10 p1).bind fun y18 =>
        (fn_X12_common 100 h1 t17 y18).bind fun y19 =>
        (pI h1 p0 11 10 0).bind fun h20 =>
        (ldv t17 y19).bind fun y21 =>
        (ck h20 p0 11).bind fun u22 =>
        (fn_X12_tell h20 p0 y21).bind fun h23 =>
        (ldv y18 y19).bind fun y24 =>
        (ck h23 p0 11).bind fun u25 =>
        (fn_X12_tell h23 p0 y24).bind fun h26 =>
        some (0, h26)
set_option maxRecDepth 20000 in
set_option maxHeartbeats 4000000 in
theorem ev_X12_spoils {l : Launch} {g : aG} {d : Nat} (hd : 101 ≤ d) (h : aH) (p0 : Nat) (p1 : Int32) (p2 : Int32) (p3 : Int32) (o : Int32 × aH) (hf : fn_X12_spoils h p0 p1 p2 p3 = some o) : EvM l g d yX12_spoils cX12_spoils 12 (some .int) [.ref p0, .int p1, .int p2, .int p3] h (some (.int o.1), o.2) := by
  refine EvM.of mk_X12_spoils (Nat.le_of_ble_eq_true rfl) ?_
  intro Γ hl hg hq X
  have hd1 : 1 ≤ d := by omega
  have hk : RqI Γ o := hq
  unfold fn_X12_spoils at hf
  show Jd Γ (0, 0) 0 [some (.ref p0), some (.int p1), some (.int p2), some (.int p3), none, none, none, none, none, none, none, none] [] h
  refine r_aload_n (pc := 0) X dX12_spoils_0 rfl ?_
  refine r_iconst (pc := 1) X 0 dX12_spoils_1 (by decide) ?_
  obtain ⟨h1, eh1, hf⟩ := ob hf
  refine r_putI (pc := 2) X dX12_spoils_2 fp_X12_100 rfl eh1 ?_
  refine r_iload_n (pc := 5) X dX12_spoils_5 rfl ?_
  refine r_iconst (pc := 6) X 1 dX12_spoils_6 (by decide) ?_
  refine r_bipush (pc := 7) X 12 dX12_spoils_7 (by decide) ?_
  obtain ⟨x2, ex2, hf⟩ := ob hf
  refine r_callSI (pc := 9) X [.int p1, .int 1, .int 12] dX12_spoils_9 ml_X12_110 so_X12_in ⟨Nat.le_refl _, Nat.le_refl _⟩ (ev_X12_in (d := d - 1) (by omega) _ _ _ _ _ ex2) hd1 rfl (Nat.le_of_ble_eq_true rfl) rfl ?_
  refine r_if_eq (pc := 12) X 35 dX12_spoils_12 (by decide) (fun c33 => ?_) (fun c33 => ?_)
  · rw [if_pos c33] at hf
    refine r_iconst (pc := 35) X (-1) dX12_spoils_35 (by decide) ?_
    obtain rfl := Option.some.inj hf
    exact r_iret (pc := 36) X dX12_spoils_36 hk
  · rw [if_neg c33] at hf
    refine r_iload_n (pc := 15) X dX12_spoils_15 rfl ?_
    refine r_iconst (pc := 16) X 1 dX12_spoils_16 (by decide) ?_
    refine r_bipush (pc := 17) X 12 dX12_spoils_17 (by decide) ?_
    obtain ⟨x3, ex3, hf⟩ := ob hf
    refine r_callSI (pc := 19) X [.int p2, .int 1, .int 12] dX12_spoils_19 ml_X12_110 so_X12_in ⟨Nat.le_refl _, Nat.le_refl _⟩ (ev_X12_in (d := d - 1) (by omega) _ _ _ _ _ ex3) hd1 rfl (Nat.le_of_ble_eq_true rfl) rfl ?_
    refine r_if_eq (pc := 22) X 35 dX12_spoils_22 (by decide) (fun c32 => ?_) (fun c32 => ?_)
    · rw [if_pos c32] at hf
      refine r_iconst (pc := 35) X (-1) dX12_spoils_35 (by decide) ?_
      obtain rfl := Option.some.inj hf
      exact r_iret (pc := 36) X dX12_spoils_36 hk
    · rw [if_neg c32] at hf
      refine r_iload_n (pc := 25) X dX12_spoils_25 rfl ?_
      refine r_iconst (pc := 26) X 0 dX12_spoils_26 (by decide) ?_
      refine r_bipush (pc := 27) X 10 dX12_spoils_27 (by decide) ?_
      obtain ⟨x4, ex4, hf⟩ := ob hf
      refine r_callSI (pc := 29) X [.int p3, .int 0, .int 10] dX12_spoils_29 ml_X12_110 so_X12_in ⟨Nat.le_refl _, Nat.le_refl _⟩ (ev_X12_in (d := d - 1) (by omega) _ _ _ _ _ ex4) hd1 rfl (Nat.le_of_ble_eq_true rfl) rfl ?_
      refine r_if_ne (pc := 32) X 37 dX12_spoils_32 (by decide) (fun c31 => ?_) (fun c31 => ?_)
      · rw [if_neg c31] at hf
        refine r_iload_n (pc := 37) X dX12_spoils_37 rfl ?_
        refine r_iload_n (pc := 38) X dX12_spoils_38 rfl ?_
        obtain ⟨t5, et5, hf⟩ := ob hf
        have Jt5 : Jd Γ (0, 0) 47 [some (.ref p0), some (.int p1), some (.int p2), some (.int p3), none, none, none, none, none, none, none, none] [.long t5] h1 := by
          refine r_lstore (pc := 47) X [some (.ref p0), some (.int p1), some (.int p2), some (.int p3), some (.long t5), none, none, none, none, none, none, none] dX12_spoils_47 (by decide) rfl ?_
          refine r_iconst (pc := 49) X 1 dX12_spoils_49 (by decide) ?_
          refine r_istore (pc := 50) X [some (.ref p0), some (.int p1), some (.int p2), some (.int p3), some (.long t5), none, some (.int 1), none, none, none, none, none] dX12_spoils_50 (by decide) rfl ?_
          obtain ⟨o9, eo9, hf⟩ := ob hf
          refine (lw_X12_spoils_52 X hd _ _ _ _ _ lpN _ o9 eo9 ?_) _ _ _ _ _ _
          intro j10 j11 j12 j13 j14 j15 j16
          refine r_lload (pc := 78) X dX12_spoils_78 rfl ?_
          refine r_lconst (pc := 80) X 0 dX12_spoils_80 (by decide) ?_
          refine r_lcmp (pc := 81) X dX12_spoils_81 ?_
          obtain ⟨t17, et17, hf⟩ := ob hf
          have Jt17 : Jd Γ (0, 0) 110 [some (.ref p0), some (.int p1), some (.int p2), some (.int p3), some (.long o9), j10, j11, j12, j13, j14, j15, j16] [.long t17] h1 := by
            refine r_fg 5 [some (.ref p0), some (.int p1), some (.int p2), some (.int p3), some (.long o9), none, j11, j12, j13, j14, j15, j16] rfl ?_
            refine r_lstore (pc := 110) X [some (.ref p0), some (.int p1), some (.int p2), some (.int p3), some (.long o9), none, some (.long t17), none, j13, j14, j15, j16] dX12_spoils_110 (by decide) rfl ?_
            refine r_ldc2 (pc := 112) X 10 dX12_spoils_112 kl_X12_399 ?_
            refine r_iload_n (pc := 115) X dX12_spoils_115 rfl ?_
            obtain ⟨y18, ey18, hf⟩ := ob hf
            refine r_callSJ (pc := 116) X [.long 10, .int p1] dX12_spoils_116 ml_X12_395 so_X12_power ⟨Nat.le_refl _, Nat.le_refl _⟩ (ev_X12_power (d := d - 1) (by omega) _ _ _ _ ey18) hd1 rfl (Nat.le_of_ble_eq_true rfl) rfl ?_
            refine r_lstore (pc := 119) X [some (.ref p0), some (.int p1), some (.int p2), some (.int p3), some (.long o9), none, some (.long t17), none, some (.long y18), none, j15, j16] dX12_spoils_119 (by decide) rfl ?_
            refine r_lload (pc := 121) X dX12_spoils_121 rfl ?_
            refine r_lload (pc := 123) X dX12_spoils_123 rfl ?_
            obtain ⟨y19, ey19, hf⟩ := ob hf
            refine r_callSJ (pc := 125) X [.long t17, .long y18] dX12_spoils_125 ml_X12_391 so_X12_common ⟨Nat.le_refl _, Nat.le_refl _⟩ (ev_X12_common 100 _ _ (d - 1) (by omega) _ _ _ _ ey19) hd1 rfl (Nat.le_of_ble_eq_true rfl) rfl ?_
            refine r_lstore (pc := 128) X [some (.ref p0), some (.int p1), some (.int p2), some (.int p3), some (.long o9), none, some (.long t17), none, some (.long y18), none, some (.long y19), none] dX12_spoils_128 (by decide) rfl ?_
            refine r_aload_n (pc := 130) X dX12_spoils_130 rfl ?_
            refine r_iconst (pc := 131) X 0 dX12_spoils_131 (by decide) ?_
            obtain ⟨h20, eh20, hf⟩ := ob hf
            refine r_putI (pc := 132) X dX12_spoils_132 fp_X12_104 rfl eh20 ?_
            refine r_aload_n (pc := 135) X dX12_spoils_135 rfl ?_
            refine r_lload (pc := 136) X dX12_spoils_136 rfl ?_
            refine r_lload (pc := 138) X dX12_spoils_138 rfl ?_
            obtain ⟨y21, ey21, hf⟩ := ob hf
            refine r_ldiv (pc := 140) X dX12_spoils_140 ey21 ?_
            obtain ⟨u22, eu22, hf⟩ := ob hf
            obtain ⟨h23, eh23, hf⟩ := ob hf
            refine r_callVV (pc := 141) X [.long y21] dX12_spoils_141 ml_X12_274 vo_X12_tell ⟨Nat.le_refl _, Nat.le_refl _⟩ eu22 (ev_X12_tell (d := d - 1) (by omega) _ _ _ _ eh23) hd1 rfl (Nat.le_of_ble_eq_true rfl) rfl ?_
            refine r_aload_n (pc := 144) X dX12_spoils_144 rfl ?_
            refine r_lload (pc := 145) X dX12_spoils_145 rfl ?_
            refine r_lload (pc := 147) X dX12_spoils_147 rfl ?_
            obtain ⟨y24, ey24, hf⟩ := ob hf
            refine r_ldiv (pc := 149) X dX12_spoils_149 ey24 ?_
            obtain ⟨u25, eu25, hf⟩ := ob hf
            obtain ⟨h26, eh26, hf⟩ := ob hf
            refine r_callVV (pc := 150) X [.long y24] dX12_spoils_150 ml_X12_274 vo_X12_tell ⟨Nat.le_refl _, Nat.le_refl _⟩ eu25 (ev_X12_tell (d := d - 1) (by omega) _ _ _ _ eh26) hd1 rfl (Nat.le_of_ble_eq_true rfl) rfl ?_
            refine r_iconst (pc := 153) X 0 dX12_spoils_153 (by decide) ?_
            obtain rfl := Option.some.inj hf
            exact r_iret (pc := 154) X dX12_spoils_154 hk
          refine r_if_ne (pc := 82) X 89 dX12_spoils_82 (by decide) (fun c29 => ?_) (fun c29 => ?_)
          · rw [if_neg c29] at et17
            refine r_lload (pc := 89) X dX12_spoils_89 rfl ?_
            refine r_iload_n (pc := 91) X dX12_spoils_91 rfl ?_
            refine r_i2l (pc := 92) X dX12_spoils_92 ?_
            refine r_iload_n (pc := 93) X dX12_spoils_93 rfl ?_
            obtain ⟨y27, ey27, et17⟩ := ob et17
            refine r_callSJ (pc := 94) X [.long (Int32.toInt64 p3), .int p2] dX12_spoils_94 ml_X12_395 so_X12_power ⟨Nat.le_refl _, Nat.le_refl _⟩ (ev_X12_power (d := d - 1) (by omega) _ _ _ _ ey27) hd1 rfl (Nat.le_of_ble_eq_true rfl) rfl ?_
            refine r_lmul (pc := 97) X dX12_spoils_97 ?_
            refine r_bipush (pc := 98) X 10 dX12_spoils_98 (by decide) ?_
            refine r_iload_n (pc := 100) X dX12_spoils_100 rfl ?_
            refine r_isub (pc := 101) X dX12_spoils_101 ?_
            refine r_i2l (pc := 102) X dX12_spoils_102 ?_
            refine r_iload_n (pc := 103) X dX12_spoils_103 rfl ?_
            refine r_iload_n (pc := 104) X dX12_spoils_104 rfl ?_
            refine r_isub (pc := 105) X dX12_spoils_105 ?_
            obtain ⟨y28, ey28, et17⟩ := ob et17
            refine r_callSJ (pc := 106) X [.long (Int32.toInt64 (10 - p3)), .int (p1 - p2)] dX12_spoils_106 ml_X12_395 so_X12_power ⟨Nat.le_refl _, Nat.le_refl _⟩ (ev_X12_power (d := d - 1) (by omega) _ _ _ _ ey28) hd1 rfl (Nat.le_of_ble_eq_true rfl) rfl ?_
            refine r_lmul (pc := 109) X dX12_spoils_109 ?_
            obtain rfl := Option.some.inj et17
            exact Jt17
          · rw [if_pos c29] at et17
            refine r_lconst (pc := 85) X 0 dX12_spoils_85 (by decide) ?_
            refine r_goto (pc := 86) X 110 dX12_spoils_86 (by decide) ?_
            obtain rfl := Option.some.inj et17
            exact Jt17
        refine r_icmp_le (pc := 39) X 46 dX12_spoils_39 (by decide) (fun c30 => ?_) (fun c30 => ?_)
        · rw [if_pos c30] at et5
          refine r_lconst (pc := 46) X 1 dX12_spoils_46 (by decide) ?_
          obtain rfl := Option.some.inj et5
          exact Jt5
        · rw [if_neg c30] at et5
          refine r_lconst (pc := 42) X 0 dX12_spoils_42 (by decide) ?_
          refine r_goto (pc := 43) X 47 dX12_spoils_43 (by decide) ?_
          obtain rfl := Option.some.inj et5
          exact Jt5
      · rw [if_pos c31] at hf
        refine r_iconst (pc := 35) X (-1) dX12_spoils_35 (by decide) ?_
        obtain rfl := Option.some.inj hf
        exact r_iret (pc := 36) X dX12_spoils_36 hk

theorem dX12_gets_0 : decode cX12_gets 0 = .ok (.iload_n 0, 1) := by decide +kernel
theorem dX12_gets_1 : decode cX12_gets 1 = .ok (.iload_n 1, 1) := by decide +kernel
theorem dX12_gets_2 : decode cX12_gets 2 = .ok (.if_icmp .ne 9, 3) := by decide +kernel
theorem dX12_gets_5 : decode cX12_gets 5 = .ok (.iload_n 2, 1) := by decide +kernel
theorem dX12_gets_6 : decode cX12_gets 6 = .ok (.iconst 2, 1) := by decide +kernel
theorem dX12_gets_7 : decode cX12_gets 7 = .ok (.idiv, 1) := by decide +kernel
theorem dX12_gets_8 : decode cX12_gets 8 = .ok (.goto 15, 3) := by decide +kernel
theorem dX12_gets_11 : decode cX12_gets 11 = .ok (.iload_n 0, 1) := by decide +kernel
theorem dX12_gets_12 : decode cX12_gets 12 = .ok (.iload_n 1, 1) := by decide +kernel
theorem dX12_gets_13 : decode cX12_gets 13 = .ok (.if_icmp .le 9, 3) := by decide +kernel
theorem dX12_gets_16 : decode cX12_gets 16 = .ok (.iload_n 2, 1) := by decide +kernel
theorem dX12_gets_17 : decode cX12_gets 17 = .ok (.iconst 4, 1) := by decide +kernel
theorem dX12_gets_18 : decode cX12_gets 18 = .ok (.idiv, 1) := by decide +kernel
theorem dX12_gets_19 : decode cX12_gets 19 = .ok (.goto 4, 3) := by decide +kernel
theorem dX12_gets_22 : decode cX12_gets 22 = .ok (.iconst 0, 1) := by decide +kernel
theorem dX12_gets_23 : decode cX12_gets 23 = .ok (.iload_n 0, 1) := by decide +kernel
theorem dX12_gets_24 : decode cX12_gets 24 = .ok (.iconst 1, 1) := by decide +kernel
theorem dX12_gets_25 : decode cX12_gets 25 = .ok (.iadd, 1) := by decide +kernel
theorem dX12_gets_26 : decode cX12_gets 26 = .ok (.iconst 2, 1) := by decide +kernel
theorem dX12_gets_27 : decode cX12_gets 27 = .ok (.idiv, 1) := by decide +kernel
theorem dX12_gets_28 : decode cX12_gets 28 = .ok (.isub, 1) := by decide +kernel
theorem dX12_gets_29 : decode cX12_gets 29 = .ok (.ireturn, 1) := by decide +kernel
def fn_X12_gets (h : aH) (p0 : Int32) (p1 : Int32) (p2 : Int32) : Option (Int32) :=
  ((
    if p0 = p1 then
      (idv p2 2).bind fun x5 =>
      some x5
    else
      if p0 ≤ p1 then
        some 0
      else
        (idv p2 4).bind fun x3 =>
        some x3
  ) : Option (Int32)).bind fun t1 =>
  (idv (p0 + 1) 2).bind fun x2 =>
  some (t1 - x2)
set_option maxRecDepth 20000 in
set_option maxHeartbeats 4000000 in
theorem ev_X12_gets {l : Launch} {g : aG} {d : Nat} (hd : 0 ≤ d) (h : aH) (p0 : Int32) (p1 : Int32) (p2 : Int32) (o : Int32) (hf : fn_X12_gets h p0 p1 p2 = some o) : EvM l g d yX12_gets cX12_gets 3 (some .int) [.int p0, .int p1, .int p2] h (some (.int o), h) := by
  refine EvM.of mk_X12_gets (Nat.le_of_ble_eq_true rfl) ?_
  intro Γ hl hg hq X
  have hd1 : 0 ≤ d := by omega
  have hk : RpI h Γ o := hq
  unfold fn_X12_gets at hf
  show Jd Γ (0, 0) 0 [some (.int p0), some (.int p1), some (.int p2)] [] h
  refine r_iload_n (pc := 0) X dX12_gets_0 rfl ?_
  refine r_iload_n (pc := 1) X dX12_gets_1 rfl ?_
  obtain ⟨t1, et1, hf⟩ := ob hf
  have Jt1 : Jd Γ (0, 0) 23 [some (.int p0), some (.int p1), some (.int p2)] [.int t1] h := by
    refine r_iload_n (pc := 23) X dX12_gets_23 rfl ?_
    refine r_iconst (pc := 24) X 1 dX12_gets_24 (by decide) ?_
    refine r_iadd (pc := 25) X dX12_gets_25 ?_
    refine r_iconst (pc := 26) X 2 dX12_gets_26 (by decide) ?_
    obtain ⟨x2, ex2, hf⟩ := ob hf
    refine r_idiv (pc := 27) X dX12_gets_27 ex2 ?_
    refine r_isub (pc := 28) X dX12_gets_28 ?_
    obtain rfl := Option.some.inj hf
    exact r_iret (pc := 29) X dX12_gets_29 hk
  refine r_icmp_ne (pc := 2) X 11 dX12_gets_2 (by decide) (fun c6 => ?_) (fun c6 => ?_)
  · rw [if_neg c6] at et1
    refine r_iload_n (pc := 11) X dX12_gets_11 rfl ?_
    refine r_iload_n (pc := 12) X dX12_gets_12 rfl ?_
    refine r_icmp_le (pc := 13) X 22 dX12_gets_13 (by decide) (fun c4 => ?_) (fun c4 => ?_)
    · rw [if_pos c4] at et1
      refine r_iconst (pc := 22) X 0 dX12_gets_22 (by decide) ?_
      obtain rfl := Option.some.inj et1
      exact Jt1
    · rw [if_neg c4] at et1
      refine r_iload_n (pc := 16) X dX12_gets_16 rfl ?_
      refine r_iconst (pc := 17) X 4 dX12_gets_17 (by decide) ?_
      obtain ⟨x3, ex3, et1⟩ := ob et1
      refine r_idiv (pc := 18) X dX12_gets_18 ex3 ?_
      refine r_goto (pc := 19) X 23 dX12_gets_19 (by decide) ?_
      obtain rfl := Option.some.inj et1
      exact Jt1
  · rw [if_pos c6] at et1
    refine r_iload_n (pc := 5) X dX12_gets_5 rfl ?_
    refine r_iconst (pc := 6) X 2 dX12_gets_6 (by decide) ?_
    obtain ⟨x5, ex5, et1⟩ := ob et1
    refine r_idiv (pc := 7) X dX12_gets_7 ex5 ?_
    refine r_goto (pc := 8) X 23 dX12_gets_8 (by decide) ?_
    obtain rfl := Option.some.inj et1
    exact Jt1

theorem dX12_isBest_0 : decode cX12_isBest 0 = .ok (.iconst 0, 1) := by decide +kernel
theorem dX12_isBest_1 : decode cX12_isBest 1 = .ok (.istore_n 3, 1) := by decide +kernel
theorem dX12_isBest_2 : decode cX12_isBest 2 = .ok (.iload_n 3, 1) := by decide +kernel
theorem dX12_isBest_3 : decode cX12_isBest 3 = .ok (.bipush 9, 2) := by decide +kernel
theorem dX12_isBest_5 : decode cX12_isBest 5 = .ok (.if_icmp .gt 26, 3) := by decide +kernel
theorem dX12_isBest_8 : decode cX12_isBest 8 = .ok (.iload_n 3, 1) := by decide +kernel
theorem dX12_isBest_9 : decode cX12_isBest 9 = .ok (.iload_n 1, 1) := by decide +kernel
theorem dX12_isBest_10 : decode cX12_isBest 10 = .ok (.iload_n 2, 1) := by decide +kernel
theorem dX12_isBest_11 : decode cX12_isBest 11 = .ok (.invokestatic 401, 3) := by decide +kernel
theorem dX12_isBest_14 : decode cX12_isBest 14 = .ok (.iload_n 0, 1) := by decide +kernel
theorem dX12_isBest_15 : decode cX12_isBest 15 = .ok (.iload_n 1, 1) := by decide +kernel
theorem dX12_isBest_16 : decode cX12_isBest 16 = .ok (.iload_n 2, 1) := by decide +kernel
theorem dX12_isBest_17 : decode cX12_isBest 17 = .ok (.invokestatic 401, 3) := by decide +kernel
theorem dX12_isBest_20 : decode cX12_isBest 20 = .ok (.if_icmp .le 5, 3) := by decide +kernel
theorem dX12_isBest_23 : decode cX12_isBest 23 = .ok (.iconst 0, 1) := by decide +kernel
theorem dX12_isBest_24 : decode cX12_isBest 24 = .ok (.ireturn, 1) := by decide +kernel
theorem dX12_isBest_25 : decode cX12_isBest 25 = .ok (.iinc 3 1, 3) := by decide +kernel
theorem dX12_isBest_28 : decode cX12_isBest 28 = .ok (.goto (-26), 3) := by decide +kernel
theorem dX12_isBest_31 : decode cX12_isBest 31 = .ok (.iconst 1, 1) := by decide +kernel
theorem dX12_isBest_32 : decode cX12_isBest 32 = .ok (.ireturn, 1) := by decide +kernel
def lb_X12_isBest_2 (hh : aH) (v0 : Int32) (v1 : Int32) (v2 : Int32) (s : Int32) : Option ((Int32) ⊕ ((Int32))) :=
  if s ≤ 9 then
    (fn_X12_gets hh s v1 v2).bind fun x1 =>
    (fn_X12_gets hh v0 v1 v2).bind fun x2 =>
    if x1 ≤ x2 then
      (some (s + 1)).bind fun x3 =>
      some (.inl x3)
    else
      some (.inr 0)
  else
    some (.inr 1)
def hd_X12_isBest_2 (Γ : aC) (hh : aH) (v0 : Int32) (v1 : Int32) (v2 : Int32) (s : Int32) : Prop := Jd Γ (0, 0) 2 [some (.int v0), some (.int v1), some (.int v2), some (.int s)] [] hh
def ex_X12_isBest_2 (Γ : aC) (hh : aH) (v0 : Int32) (v1 : Int32) (v2 : Int32) (r : (Int32)) : Prop := (fun r => RpI hh Γ r) r
set_option maxRecDepth 20000 in
set_option maxHeartbeats 4000000 in
theorem lw_X12_isBest_2 {Γ : aC} {d : Nat} (X : Cx Γ RX12 cX12_isBest 4 (some .boolean) (d, 0, 0)) (hd : 1 ≤ d) (hh : aH) (v0 : Int32) (v1 : Int32) (v2 : Int32) : ∀ n s o, lp (lb_X12_isBest_2 hh v0 v1 v2) n s = some o → ex_X12_isBest_2 Γ hh v0 v1 v2 o → hd_X12_isBest_2 Γ hh v0 v1 v2 s := by
  have hd1 : 1 ≤ d := by omega
  refine J_lp _ _ _ ?_
  intro s o hf hk
  unfold lb_X12_isBest_2 at hf
  refine r_iload_n (pc := 2) X dX12_isBest_2 rfl ?_
  refine r_bipush (pc := 3) X 9 dX12_isBest_3 (by decide) ?_
  refine r_icmp_gt (pc := 5) X 31 dX12_isBest_5 (by decide) (fun c5 => ?_) (fun c5 => ?_)
  · rw [if_neg c5] at hf
    refine r_iconst (pc := 31) X 1 dX12_isBest_31 (by decide) ?_
    obtain rfl := Option.some.inj hf
    exact r_zret (pc := 32) X dX12_isBest_32 (Or.inr rfl) hk
  · rw [if_pos c5] at hf
    refine r_iload_n (pc := 8) X dX12_isBest_8 rfl ?_
    refine r_iload_n (pc := 9) X dX12_isBest_9 rfl ?_
    refine r_iload_n (pc := 10) X dX12_isBest_10 rfl ?_
    obtain ⟨x1, ex1, hf⟩ := ob hf
    refine r_callSI (pc := 11) X [.int s, .int v1, .int v2] dX12_isBest_11 ml_X12_401 so_X12_gets ⟨Nat.le_refl _, Nat.le_refl _⟩ (ev_X12_gets (d := d - 1) (by omega) _ _ _ _ _ ex1) hd1 rfl (Nat.le_of_ble_eq_true rfl) rfl ?_
    refine r_iload_n (pc := 14) X dX12_isBest_14 rfl ?_
    refine r_iload_n (pc := 15) X dX12_isBest_15 rfl ?_
    refine r_iload_n (pc := 16) X dX12_isBest_16 rfl ?_
    obtain ⟨x2, ex2, hf⟩ := ob hf
    refine r_callSI (pc := 17) X [.int v0, .int v1, .int v2] dX12_isBest_17 ml_X12_401 so_X12_gets ⟨Nat.le_refl _, Nat.le_refl _⟩ (ev_X12_gets (d := d - 1) (by omega) _ _ _ _ _ ex2) hd1 rfl (Nat.le_of_ble_eq_true rfl) rfl ?_
    refine r_icmp_le (pc := 20) X 25 dX12_isBest_20 (by decide) (fun c4 => ?_) (fun c4 => ?_)
    · rw [if_pos c4] at hf
      obtain ⟨x3, ex3, hf⟩ := ob hf
      refine r_iinc2 (pc := 25) X 1 [some (.int v0), some (.int v1), some (.int v2), some (.int x3)] dX12_isBest_25 (by decide) rfl (by decide) ex3 rfl ?_
      refine r_goto (pc := 28) X 2 dX12_isBest_28 (by decide) ?_
      obtain rfl := Option.some.inj hf
      exact hk
    · rw [if_neg c4] at hf
      refine r_iconst (pc := 23) X 0 dX12_isBest_23 (by decide) ?_
      obtain rfl := Option.some.inj hf
      exact r_zret (pc := 24) X dX12_isBest_24 (Or.inl rfl) hk
def fn_X12_isBest (h : aH) (p0 : Int32) (p1 : Int32) (p2 : Int32) : Option (Int32) :=
  (lp (lb_X12_isBest_2 h p0 p1 p2) lpN 0).bind fun o6 =>
  some o6
set_option maxRecDepth 20000 in
set_option maxHeartbeats 4000000 in
theorem ev_X12_isBest {l : Launch} {g : aG} {d : Nat} (hd : 1 ≤ d) (h : aH) (p0 : Int32) (p1 : Int32) (p2 : Int32) (o : Int32) (hf : fn_X12_isBest h p0 p1 p2 = some o) : EvM l g d yX12_isBest cX12_isBest 4 (some .boolean) [.int p0, .int p1, .int p2] h (some (.int o), h) := by
  refine EvM.of mk_X12_isBest (Nat.le_of_ble_eq_true rfl) ?_
  intro Γ hl hg hq X
  have hd1 : 1 ≤ d := by omega
  have hk : RpI h Γ o := hq
  unfold fn_X12_isBest at hf
  show Jd Γ (0, 0) 0 [some (.int p0), some (.int p1), some (.int p2), none] [] h
  refine r_iconst (pc := 0) X 0 dX12_isBest_0 (by decide) ?_
  refine r_istore_n (pc := 1) X [some (.int p0), some (.int p1), some (.int p2), some (.int 0)] dX12_isBest_1 (by decide) rfl ?_
  obtain ⟨o6, eo6, hf⟩ := ob hf
  refine (lw_X12_isBest_2 X hd _ _ _ _ lpN _ o6 eo6 ?_)
  obtain rfl := Option.some.inj hf
  exact hk

theorem dX12_rests_0 : decode cX12_rests 0 = .ok (.aload_n 0, 1) := by decide +kernel
theorem dX12_rests_1 : decode cX12_rests 1 = .ok (.iconst 0, 1) := by decide +kernel
theorem dX12_rests_2 : decode cX12_rests 2 = .ok (.putfield 100, 3) := by decide +kernel
theorem dX12_rests_5 : decode cX12_rests 5 = .ok (.iload_n 1, 1) := by decide +kernel
theorem dX12_rests_6 : decode cX12_rests 6 = .ok (.iconst 0, 1) := by decide +kernel
theorem dX12_rests_7 : decode cX12_rests 7 = .ok (.bipush 20, 2) := by decide +kernel
theorem dX12_rests_9 : decode cX12_rests 9 = .ok (.invokestatic 110, 3) := by decide +kernel
theorem dX12_rests_12 : decode cX12_rests 12 = .ok (.ifCond .ne 5, 3) := by decide +kernel
theorem dX12_rests_15 : decode cX12_rests 15 = .ok (.iconst (-1), 1) := by decide +kernel
theorem dX12_rests_16 : decode cX12_rests 16 = .ok (.ireturn, 1) := by decide +kernel
theorem dX12_rests_17 : decode cX12_rests 17 = .ok (.iconst 0, 1) := by decide +kernel
theorem dX12_rests_18 : decode cX12_rests 18 = .ok (.istore_n 2, 1) := by decide +kernel
theorem dX12_rests_19 : decode cX12_rests 19 = .ok (.aload_n 0, 1) := by decide +kernel
theorem dX12_rests_20 : decode cX12_rests 20 = .ok (.iconst 0, 1) := by decide +kernel
theorem dX12_rests_21 : decode cX12_rests 21 = .ok (.putfield 104, 3) := by decide +kernel
theorem dX12_rests_24 : decode cX12_rests 24 = .ok (.iconst 0, 1) := by decide +kernel
theorem dX12_rests_25 : decode cX12_rests 25 = .ok (.istore_n 3, 1) := by decide +kernel
theorem dX12_rests_26 : decode cX12_rests 26 = .ok (.iload_n 3, 1) := by decide +kernel
theorem dX12_rests_27 : decode cX12_rests 27 = .ok (.bipush 9, 2) := by decide +kernel
theorem dX12_rests_29 : decode cX12_rests 29 = .ok (.if_icmp .gt 68, 3) := by decide +kernel
theorem dX12_rests_32 : decode cX12_rests 32 = .ok (.iconst 0, 1) := by decide +kernel
theorem dX12_rests_33 : decode cX12_rests 33 = .ok (.istore 4, 2) := by decide +kernel
theorem dX12_rests_35 : decode cX12_rests 35 = .ok (.iload 4, 2) := by decide +kernel
theorem dX12_rests_37 : decode cX12_rests 37 = .ok (.bipush 9, 2) := by decide +kernel
theorem dX12_rests_39 : decode cX12_rests 39 = .ok (.if_icmp .gt 52, 3) := by decide +kernel
theorem dX12_rests_42 : decode cX12_rests 42 = .ok (.iload_n 3, 1) := by decide +kernel
theorem dX12_rests_43 : decode cX12_rests 43 = .ok (.iload 4, 2) := by decide +kernel
theorem dX12_rests_45 : decode cX12_rests 45 = .ok (.iload_n 1, 1) := by decide +kernel
theorem dX12_rests_46 : decode cX12_rests 46 = .ok (.invokestatic 404, 3) := by decide +kernel
theorem dX12_rests_49 : decode cX12_rests 49 = .ok (.ifCond .eq 36, 3) := by decide +kernel
theorem dX12_rests_52 : decode cX12_rests 52 = .ok (.iload 4, 2) := by decide +kernel
theorem dX12_rests_54 : decode cX12_rests 54 = .ok (.iload_n 3, 1) := by decide +kernel
theorem dX12_rests_55 : decode cX12_rests 55 = .ok (.iload_n 1, 1) := by decide +kernel
theorem dX12_rests_56 : decode cX12_rests 56 = .ok (.invokestatic 404, 3) := by decide +kernel
theorem dX12_rests_59 : decode cX12_rests 59 = .ok (.ifCond .ne 6, 3) := by decide +kernel
theorem dX12_rests_62 : decode cX12_rests 62 = .ok (.goto 23, 3) := by decide +kernel
theorem dX12_rests_65 : decode cX12_rests 65 = .ok (.iload_n 2, 1) := by decide +kernel
theorem dX12_rests_66 : decode cX12_rests 66 = .ok (.ifCond .ne 16, 3) := by decide +kernel
theorem dX12_rests_69 : decode cX12_rests 69 = .ok (.aload_n 0, 1) := by decide +kernel
theorem dX12_rests_70 : decode cX12_rests 70 = .ok (.iload_n 3, 1) := by decide +kernel
theorem dX12_rests_71 : decode cX12_rests 71 = .ok (.i2l, 1) := by decide +kernel
theorem dX12_rests_72 : decode cX12_rests 72 = .ok (.invokevirtual 274, 3) := by decide +kernel
theorem dX12_rests_75 : decode cX12_rests 75 = .ok (.aload_n 0, 1) := by decide +kernel
theorem dX12_rests_76 : decode cX12_rests 76 = .ok (.iload 4, 2) := by decide +kernel
theorem dX12_rests_78 : decode cX12_rests 78 = .ok (.i2l, 1) := by decide +kernel
theorem dX12_rests_79 : decode cX12_rests 79 = .ok (.invokevirtual 274, 3) := by decide +kernel
theorem dX12_rests_82 : decode cX12_rests 82 = .ok (.iinc 2 1, 3) := by decide +kernel
theorem dX12_rests_85 : decode cX12_rests 85 = .ok (.iinc 4 1, 3) := by decide +kernel
theorem dX12_rests_88 : decode cX12_rests 88 = .ok (.goto (-53), 3) := by decide +kernel
theorem dX12_rests_91 : decode cX12_rests 91 = .ok (.iinc 3 1, 3) := by decide +kernel
theorem dX12_rests_94 : decode cX12_rests 94 = .ok (.goto (-68), 3) := by decide +kernel
theorem dX12_rests_97 : decode cX12_rests 97 = .ok (.iload_n 2, 1) := by decide +kernel
theorem dX12_rests_98 : decode cX12_rests 98 = .ok (.ireturn, 1) := by decide +kernel
def lb_X12_rests_35 (v0 : Nat) (v1 : Int32) (v3 : Int32) (s : Int32 × Int32 × aH) : Option ((Int32 × Int32 × aH) ⊕ ((Int32 × aH))) :=
  if s.2.1 ≤ 9 then
    (fn_X12_isBest s.2.2 v3 s.2.1 v1).bind fun x4 =>
    if x4 = 0 then
      (some (s.2.1 + 1)).bind fun x5 =>
      some (.inl (s.1, x5, s.2.2))
    else
      (fn_X12_isBest s.2.2 s.2.1 v3 v1).bind fun x6 =>
      if x6 = 0 then
        (some (s.2.1 + 1)).bind fun x16 =>
        some (.inl (s.1, x16, s.2.2))
      else
        if s.1 = 0 then
          (ck s.2.2 v0 11).bind fun u9 =>
          (fn_X12_tell s.2.2 v0 (Int32.toInt64 v3)).bind fun h10 =>
          (ck h10 v0 11).bind fun u11 =>
          (fn_X12_tell h10 v0 (Int32.toInt64 s.2.1)).bind fun h12 =>
          (some (s.1 + 1)).bind fun x13 =>
          (some (s.2.1 + 1)).bind fun x14 =>
          some (.inl (x13, x14, h12))
        else
          (some (s.1 + 1)).bind fun x7 =>
          (some (s.2.1 + 1)).bind fun x8 =>
          some (.inl (x7, x8, s.2.2))
  else
    some (.inr (s.1, s.2.2))
def hd_X12_rests_35 (Γ : aC) (v0 : Nat) (v1 : Int32) (v3 : Int32) (s : Int32 × Int32 × aH) : Prop := Jd Γ (0, 0) 35 [some (.ref v0), some (.int v1), some (.int s.1), some (.int v3), some (.int s.2.1)] [] s.2.2
def ex_X12_rests_35 (Γ : aC) (v0 : Nat) (v1 : Int32) (v3 : Int32) (r : (Int32 × aH)) : Prop := (fun r => ∀ (j4 : Option Value), Jd Γ (0, 0) 91 [some (.ref v0), some (.int v1), some (.int r.1), some (.int v3), j4] [] r.2) r
set_option maxRecDepth 20000 in
set_option maxHeartbeats 4000000 in
theorem lw_X12_rests_35 {Γ : aC} {d : Nat} (X : Cx Γ RX12 cX12_rests 5 (some .int) (d, 0, 0)) (hd : 2 ≤ d) (v0 : Nat) (v1 : Int32) (v3 : Int32) : ∀ n s o, lp (lb_X12_rests_35 v0 v1 v3) n s = some o → ex_X12_rests_35 Γ v0 v1 v3 o → hd_X12_rests_35 Γ v0 v1 v3 s := by
  have hd1 : 1 ≤ d := by omega
  refine J_lp _ _ _ ?_
  intro s o hf hk
  unfold lb_X12_rests_35 at hf
  refine r_iload (pc := 35) X dX12_rests_35 rfl ?_
  refine r_bipush (pc := 37) X 9 dX12_rests_37 (by decide) ?_
  refine r_icmp_gt (pc := 39) X 91 dX12_rests_39 (by decide) (fun c19 => ?_) (fun c19 => ?_)
  · rw [if_neg c19] at hf
    obtain rfl := Option.some.inj hf
    exact hk _
  · rw [if_pos c19] at hf
    refine r_iload_n (pc := 42) X dX12_rests_42 rfl ?_
    refine r_iload (pc := 43) X dX12_rests_43 rfl ?_
    refine r_iload_n (pc := 45) X dX12_rests_45 rfl ?_
    obtain ⟨x4, ex4, hf⟩ := ob hf
    refine r_callSI (pc := 46) X [.int v3, .int s.2.1, .int v1] dX12_rests_46 ml_X12_404 so_X12_isBest ⟨Nat.le_refl _, Nat.le_refl _⟩ (ev_X12_isBest (d := d - 1) (by omega) _ _ _ _ _ ex4) hd1 rfl (Nat.le_of_ble_eq_true rfl) rfl ?_
    refine r_if_eq (pc := 49) X 85 dX12_rests_49 (by decide) (fun c18 => ?_) (fun c18 => ?_)
    · rw [if_pos c18] at hf
      obtain ⟨x5, ex5, hf⟩ := ob hf
      refine r_iinc2 (pc := 85) X 1 [some (.ref v0), some (.int v1), some (.int s.1), some (.int v3), some (.int x5)] dX12_rests_85 (by decide) rfl (by decide) ex5 rfl ?_
      refine r_goto (pc := 88) X 35 dX12_rests_88 (by decide) ?_
      obtain rfl := Option.some.inj hf
      exact hk
    · rw [if_neg c18] at hf
      refine r_iload (pc := 52) X dX12_rests_52 rfl ?_
      refine r_iload_n (pc := 54) X dX12_rests_54 rfl ?_
      refine r_iload_n (pc := 55) X dX12_rests_55 rfl ?_
      obtain ⟨x6, ex6, hf⟩ := ob hf
      refine r_callSI (pc := 56) X [.int s.2.1, .int v3, .int v1] dX12_rests_56 ml_X12_404 so_X12_isBest ⟨Nat.le_refl _, Nat.le_refl _⟩ (ev_X12_isBest (d := d - 1) (by omega) _ _ _ _ _ ex6) hd1 rfl (Nat.le_of_ble_eq_true rfl) rfl ?_
      refine r_if_ne (pc := 59) X 65 dX12_rests_59 (by decide) (fun c17 => ?_) (fun c17 => ?_)
      · rw [if_neg c17] at hf
        refine r_iload_n (pc := 65) X dX12_rests_65 rfl ?_
        refine r_if_ne (pc := 66) X 82 dX12_rests_66 (by decide) (fun c15 => ?_) (fun c15 => ?_)
        · rw [if_neg c15] at hf
          obtain ⟨x7, ex7, hf⟩ := ob hf
          refine r_iinc2 (pc := 82) X 1 [some (.ref v0), some (.int v1), some (.int x7), some (.int v3), some (.int s.2.1)] dX12_rests_82 (by decide) rfl (by decide) ex7 rfl ?_
          obtain ⟨x8, ex8, hf⟩ := ob hf
          refine r_iinc2 (pc := 85) X 1 [some (.ref v0), some (.int v1), some (.int x7), some (.int v3), some (.int x8)] dX12_rests_85 (by decide) rfl (by decide) ex8 rfl ?_
          refine r_goto (pc := 88) X 35 dX12_rests_88 (by decide) ?_
          obtain rfl := Option.some.inj hf
          exact hk
        · rw [if_pos c15] at hf
          refine r_aload_n (pc := 69) X dX12_rests_69 rfl ?_
          refine r_iload_n (pc := 70) X dX12_rests_70 rfl ?_
          refine r_i2l (pc := 71) X dX12_rests_71 ?_
          obtain ⟨u9, eu9, hf⟩ := ob hf
          obtain ⟨h10, eh10, hf⟩ := ob hf
          refine r_callVV (pc := 72) X [.long (Int32.toInt64 v3)] dX12_rests_72 ml_X12_274 vo_X12_tell ⟨Nat.le_refl _, Nat.le_refl _⟩ eu9 (ev_X12_tell (d := d - 1) (by omega) _ _ _ _ eh10) hd1 rfl (Nat.le_of_ble_eq_true rfl) rfl ?_
          refine r_aload_n (pc := 75) X dX12_rests_75 rfl ?_
          refine r_iload (pc := 76) X dX12_rests_76 rfl ?_
          refine r_i2l (pc := 78) X dX12_rests_78 ?_
          obtain ⟨u11, eu11, hf⟩ := ob hf
          obtain ⟨h12, eh12, hf⟩ := ob hf
          refine r_callVV (pc := 79) X [.long (Int32.toInt64 s.2.1)] dX12_rests_79 ml_X12_274 vo_X12_tell ⟨Nat.le_refl _, Nat.le_refl _⟩ eu11 (ev_X12_tell (d := d - 1) (by omega) _ _ _ _ eh12) hd1 rfl (Nat.le_of_ble_eq_true rfl) rfl ?_
          obtain ⟨x13, ex13, hf⟩ := ob hf
          refine r_iinc2 (pc := 82) X 1 [some (.ref v0), some (.int v1), some (.int x13), some (.int v3), some (.int s.2.1)] dX12_rests_82 (by decide) rfl (by decide) ex13 rfl ?_
          obtain ⟨x14, ex14, hf⟩ := ob hf
          refine r_iinc2 (pc := 85) X 1 [some (.ref v0), some (.int v1), some (.int x13), some (.int v3), some (.int x14)] dX12_rests_85 (by decide) rfl (by decide) ex14 rfl ?_
          refine r_goto (pc := 88) X 35 dX12_rests_88 (by decide) ?_
          obtain rfl := Option.some.inj hf
          exact hk
      · rw [if_pos c17] at hf
        refine r_goto (pc := 62) X 85 dX12_rests_62 (by decide) ?_
        obtain ⟨x16, ex16, hf⟩ := ob hf
        refine r_iinc2 (pc := 85) X 1 [some (.ref v0), some (.int v1), some (.int s.1), some (.int v3), some (.int x16)] dX12_rests_85 (by decide) rfl (by decide) ex16 rfl ?_
        refine r_goto (pc := 88) X 35 dX12_rests_88 (by decide) ?_
        obtain rfl := Option.some.inj hf
        exact hk
def lb_X12_rests_26 (v0 : Nat) (v1 : Int32) (s : Int32 × Int32 × aH) : Option ((Int32 × Int32 × aH) ⊕ ((Int32 × aH))) :=
  if s.2.1 ≤ 9 then
    (lp (lb_X12_rests_35 v0 v1 s.2.1) lpN (s.1, 0, s.2.2)).bind fun o20 =>
    (some (s.2.1 + 1)).bind fun x22 =>
    some (.inl (o20.1, x22, o20.2))
  else
    some (.inr (s.1, s.2.2))
def hd_X12_rests_26 (Γ : aC) (v0 : Nat) (v1 : Int32) (s : Int32 × Int32 × aH) : Prop := ∀ (j4 : Option Value), Jd Γ (0, 0) 26 [some (.ref v0), some (.int v1), some (.int s.1), some (.int s.2.1), j4] [] s.2.2
def ex_X12_rests_26 (Γ : aC) (v0 : Nat) (v1 : Int32) (r : (Int32 × aH)) : Prop := (fun r => RqI Γ r) r
set_option maxRecDepth 20000 in
set_option maxHeartbeats 4000000 in
theorem lw_X12_rests_26 {Γ : aC} {d : Nat} (X : Cx Γ RX12 cX12_rests 5 (some .int) (d, 0, 0)) (hd : 2 ≤ d) (v0 : Nat) (v1 : Int32) : ∀ n s o, lp (lb_X12_rests_26 v0 v1) n s = some o → ex_X12_rests_26 Γ v0 v1 o → hd_X12_rests_26 Γ v0 v1 s := by
  have hd1 : 1 ≤ d := by omega
  refine J_lp _ _ _ ?_
  intro s o hf hk j4
  unfold lb_X12_rests_26 at hf
  refine r_iload_n (pc := 26) X dX12_rests_26 rfl ?_
  refine r_bipush (pc := 27) X 9 dX12_rests_27 (by decide) ?_
  refine r_icmp_gt (pc := 29) X 97 dX12_rests_29 (by decide) (fun c23 => ?_) (fun c23 => ?_)
  · rw [if_neg c23] at hf
    refine r_iload_n (pc := 97) X dX12_rests_97 rfl ?_
    obtain rfl := Option.some.inj hf
    exact r_iret (pc := 98) X dX12_rests_98 hk
  · rw [if_pos c23] at hf
    refine r_iconst (pc := 32) X 0 dX12_rests_32 (by decide) ?_
    refine r_istore (pc := 33) X [some (.ref v0), some (.int v1), some (.int s.1), some (.int s.2.1), some (.int 0)] dX12_rests_33 (by decide) rfl ?_
    obtain ⟨o20, eo20, hf⟩ := ob hf
    refine (lw_X12_rests_35 X hd _ _ _ lpN _ o20 eo20 ?_)
    intro j21
    obtain ⟨x22, ex22, hf⟩ := ob hf
    refine r_iinc2 (pc := 91) X 1 [some (.ref v0), some (.int v1), some (.int o20.1), some (.int x22), j21] dX12_rests_91 (by decide) rfl (by decide) ex22 rfl ?_
    refine r_goto (pc := 94) X 26 dX12_rests_94 (by decide) ?_
    obtain rfl := Option.some.inj hf
    exact hk _
def fn_X12_rests (h : aH) (p0 : Nat) (p1 : Int32) : Option (Int32 × aH) :=
  (pI h p0 11 11 0).bind fun h1 =>
  (fn_X12_in h1 p1 0 20).bind fun x2 =>
  if x2 = 0 then
    some ((-1), h1)
  else
    (pI h1 p0 11 10 0).bind fun h3 =>
    (lp (lb_X12_rests_26 p0 p1) lpN (0, 0, h3)).bind fun o24 =>
    some o24
set_option maxRecDepth 20000 in
set_option maxHeartbeats 4000000 in
theorem ev_X12_rests {l : Launch} {g : aG} {d : Nat} (hd : 2 ≤ d) (h : aH) (p0 : Nat) (p1 : Int32) (o : Int32 × aH) (hf : fn_X12_rests h p0 p1 = some o) : EvM l g d yX12_rests cX12_rests 5 (some .int) [.ref p0, .int p1] h (some (.int o.1), o.2) := by
  refine EvM.of mk_X12_rests (Nat.le_of_ble_eq_true rfl) ?_
  intro Γ hl hg hq X
  have hd1 : 1 ≤ d := by omega
  have hk : RqI Γ o := hq
  unfold fn_X12_rests at hf
  show Jd Γ (0, 0) 0 [some (.ref p0), some (.int p1), none, none, none] [] h
  refine r_aload_n (pc := 0) X dX12_rests_0 rfl ?_
  refine r_iconst (pc := 1) X 0 dX12_rests_1 (by decide) ?_
  obtain ⟨h1, eh1, hf⟩ := ob hf
  refine r_putI (pc := 2) X dX12_rests_2 fp_X12_100 rfl eh1 ?_
  refine r_iload_n (pc := 5) X dX12_rests_5 rfl ?_
  refine r_iconst (pc := 6) X 0 dX12_rests_6 (by decide) ?_
  refine r_bipush (pc := 7) X 20 dX12_rests_7 (by decide) ?_
  obtain ⟨x2, ex2, hf⟩ := ob hf
  refine r_callSI (pc := 9) X [.int p1, .int 0, .int 20] dX12_rests_9 ml_X12_110 so_X12_in ⟨Nat.le_refl _, Nat.le_refl _⟩ (ev_X12_in (d := d - 1) (by omega) _ _ _ _ _ ex2) hd1 rfl (Nat.le_of_ble_eq_true rfl) rfl ?_
  refine r_if_ne (pc := 12) X 17 dX12_rests_12 (by decide) (fun c25 => ?_) (fun c25 => ?_)
  · rw [if_neg c25] at hf
    refine r_iconst (pc := 17) X 0 dX12_rests_17 (by decide) ?_
    refine r_istore_n (pc := 18) X [some (.ref p0), some (.int p1), some (.int 0), none, none] dX12_rests_18 (by decide) rfl ?_
    refine r_aload_n (pc := 19) X dX12_rests_19 rfl ?_
    refine r_iconst (pc := 20) X 0 dX12_rests_20 (by decide) ?_
    obtain ⟨h3, eh3, hf⟩ := ob hf
    refine r_putI (pc := 21) X dX12_rests_21 fp_X12_104 rfl eh3 ?_
    refine r_iconst (pc := 24) X 0 dX12_rests_24 (by decide) ?_
    refine r_istore_n (pc := 25) X [some (.ref p0), some (.int p1), some (.int 0), some (.int 0), none] dX12_rests_25 (by decide) rfl ?_
    obtain ⟨o24, eo24, hf⟩ := ob hf
    refine (lw_X12_rests_26 X hd _ _ lpN _ o24 eo24 ?_) _
    obtain rfl := Option.some.inj hf
    exact hk
  · rw [if_pos c25] at hf
    refine r_iconst (pc := 15) X (-1) dX12_rests_15 (by decide) ?_
    obtain rfl := Option.some.inj hf
    exact r_iret (pc := 16) X dX12_rests_16 hk

theorem dX12_law_0 : decode cX12_law 0 = .ok (.aload_n 0, 1) := by decide +kernel
theorem dX12_law_1 : decode cX12_law 1 = .ok (.iconst 0, 1) := by decide +kernel
theorem dX12_law_2 : decode cX12_law 2 = .ok (.putfield 100, 3) := by decide +kernel
theorem dX12_law_5 : decode cX12_law 5 = .ok (.aload_n 0, 1) := by decide +kernel
theorem dX12_law_6 : decode cX12_law 6 = .ok (.getfield 121, 3) := by decide +kernel
theorem dX12_law_9 : decode cX12_law 9 = .ok (.istore_n 1, 1) := by decide +kernel
theorem dX12_law_10 : decode cX12_law 10 = .ok (.aload_n 0, 1) := by decide +kernel
theorem dX12_law_11 : decode cX12_law 11 = .ok (.invokevirtual 211, 3) := by decide +kernel
theorem dX12_law_14 : decode cX12_law 14 = .ok (.ifCond .ne 12, 3) := by decide +kernel
theorem dX12_law_17 : decode cX12_law 17 = .ok (.sipush (-10000), 3) := by decide +kernel
theorem dX12_law_20 : decode cX12_law 20 = .ok (.aload_n 0, 1) := by decide +kernel
theorem dX12_law_21 : decode cX12_law 21 = .ok (.getfield 136, 3) := by decide +kernel
theorem dX12_law_24 : decode cX12_law 24 = .ok (.isub, 1) := by decide +kernel
theorem dX12_law_25 : decode cX12_law 25 = .ok (.ireturn, 1) := by decide +kernel
theorem dX12_law_26 : decode cX12_law 26 = .ok (.aload_n 0, 1) := by decide +kernel
theorem dX12_law_27 : decode cX12_law 27 = .ok (.bipush 10, 2) := by decide +kernel
theorem dX12_law_29 : decode cX12_law 29 = .ok (.invokevirtual 303, 3) := by decide +kernel
theorem dX12_law_32 : decode cX12_law 32 = .ok (.aload_n 0, 1) := by decide +kernel
theorem dX12_law_33 : decode cX12_law 33 = .ok (.getfield 246, 3) := by decide +kernel
theorem dX12_law_36 : decode cX12_law 36 = .ok (.istore_n 2, 1) := by decide +kernel
theorem dX12_law_37 : decode cX12_law 37 = .ok (.aload_n 0, 1) := by decide +kernel
theorem dX12_law_38 : decode cX12_law 38 = .ok (.getfield 33, 3) := by decide +kernel
theorem dX12_law_41 : decode cX12_law 41 = .ok (.astore_n 3, 1) := by decide +kernel
theorem dX12_law_42 : decode cX12_law 42 = .ok (.aload_n 0, 1) := by decide +kernel
theorem dX12_law_43 : decode cX12_law 43 = .ok (.getfield 214, 3) := by decide +kernel
theorem dX12_law_46 : decode cX12_law 46 = .ok (.istore 4, 2) := by decide +kernel
theorem dX12_law_48 : decode cX12_law 48 = .ok (.aload_n 0, 1) := by decide +kernel
theorem dX12_law_49 : decode cX12_law 49 = .ok (.aload_n 0, 1) := by decide +kernel
theorem dX12_law_50 : decode cX12_law 50 = .ok (.getfield 36, 3) := by decide +kernel
theorem dX12_law_53 : decode cX12_law 53 = .ok (.putfield 33, 3) := by decide +kernel
theorem dX12_law_56 : decode cX12_law 56 = .ok (.aload_n 0, 1) := by decide +kernel
theorem dX12_law_57 : decode cX12_law 57 = .ok (.iload_n 1, 1) := by decide +kernel
theorem dX12_law_58 : decode cX12_law 58 = .ok (.putfield 214, 3) := by decide +kernel
theorem dX12_law_61 : decode cX12_law 61 = .ok (.iconst 0, 1) := by decide +kernel
theorem dX12_law_62 : decode cX12_law 62 = .ok (.istore 5, 2) := by decide +kernel
theorem dX12_law_64 : decode cX12_law 64 = .ok (.iload 5, 2) := by decide +kernel
theorem dX12_law_66 : decode cX12_law 66 = .ok (.iload_n 1, 1) := by decide +kernel
theorem dX12_law_67 : decode cX12_law 67 = .ok (.if_icmp .ge 23, 3) := by decide +kernel
theorem dX12_law_70 : decode cX12_law 70 = .ok (.aload_n 0, 1) := by decide +kernel
theorem dX12_law_71 : decode cX12_law 71 = .ok (.getfield 33, 3) := by decide +kernel
theorem dX12_law_74 : decode cX12_law 74 = .ok (.iload 5, 2) := by decide +kernel
theorem dX12_law_76 : decode cX12_law 76 = .ok (.aload_n 0, 1) := by decide +kernel
theorem dX12_law_77 : decode cX12_law 77 = .ok (.getfield 22, 3) := by decide +kernel
theorem dX12_law_80 : decode cX12_law 80 = .ok (.iload 5, 2) := by decide +kernel
theorem dX12_law_82 : decode cX12_law 82 = .ok (.baload, 1) := by decide +kernel
theorem dX12_law_83 : decode cX12_law 83 = .ok (.bastore, 1) := by decide +kernel
theorem dX12_law_84 : decode cX12_law 84 = .ok (.iinc 5 1, 3) := by decide +kernel
theorem dX12_law_87 : decode cX12_law 87 = .ok (.goto (-23), 3) := by decide +kernel
theorem dX12_law_90 : decode cX12_law 90 = .ok (.aload_n 0, 1) := by decide +kernel
theorem dX12_law_91 : decode cX12_law 91 = .ok (.bipush 10, 2) := by decide +kernel
theorem dX12_law_93 : decode cX12_law 93 = .ok (.invokevirtual 303, 3) := by decide +kernel
theorem dX12_law_96 : decode cX12_law 96 = .ok (.aload_n 0, 1) := by decide +kernel
theorem dX12_law_97 : decode cX12_law 97 = .ok (.aload_n 3, 1) := by decide +kernel
theorem dX12_law_98 : decode cX12_law 98 = .ok (.putfield 33, 3) := by decide +kernel
theorem dX12_law_101 : decode cX12_law 101 = .ok (.aload_n 0, 1) := by decide +kernel
theorem dX12_law_102 : decode cX12_law 102 = .ok (.iload 4, 2) := by decide +kernel
theorem dX12_law_104 : decode cX12_law 104 = .ok (.putfield 214, 3) := by decide +kernel
theorem dX12_law_107 : decode cX12_law 107 = .ok (.aload_n 0, 1) := by decide +kernel
theorem dX12_law_108 : decode cX12_law 108 = .ok (.iconst 0, 1) := by decide +kernel
theorem dX12_law_109 : decode cX12_law 109 = .ok (.putfield 104, 3) := by decide +kernel
theorem dX12_law_112 : decode cX12_law 112 = .ok (.aload_n 0, 1) := by decide +kernel
theorem dX12_law_113 : decode cX12_law 113 = .ok (.aload_n 0, 1) := by decide +kernel
theorem dX12_law_114 : decode cX12_law 114 = .ok (.getfield 246, 3) := by decide +kernel
theorem dX12_law_117 : decode cX12_law 117 = .ok (.i2l, 1) := by decide +kernel
theorem dX12_law_118 : decode cX12_law 118 = .ok (.invokevirtual 274, 3) := by decide +kernel
theorem dX12_law_121 : decode cX12_law 121 = .ok (.aload_n 0, 1) := by decide +kernel
theorem dX12_law_122 : decode cX12_law 122 = .ok (.iload_n 2, 1) := by decide +kernel
theorem dX12_law_123 : decode cX12_law 123 = .ok (.i2l, 1) := by decide +kernel
theorem dX12_law_124 : decode cX12_law 124 = .ok (.invokevirtual 274, 3) := by decide +kernel
theorem dX12_law_127 : decode cX12_law 127 = .ok (.iconst 0, 1) := by decide +kernel
theorem dX12_law_128 : decode cX12_law 128 = .ok (.istore 5, 2) := by decide +kernel
theorem dX12_law_130 : decode cX12_law 130 = .ok (.iload 5, 2) := by decide +kernel
theorem dX12_law_132 : decode cX12_law 132 = .ok (.aload_n 0, 1) := by decide +kernel
theorem dX12_law_133 : decode cX12_law 133 = .ok (.getfield 107, 3) := by decide +kernel
theorem dX12_law_136 : decode cX12_law 136 = .ok (.if_icmp .ge 21, 3) := by decide +kernel
theorem dX12_law_139 : decode cX12_law 139 = .ok (.aload_n 0, 1) := by decide +kernel
theorem dX12_law_140 : decode cX12_law 140 = .ok (.aload_n 0, 1) := by decide +kernel
theorem dX12_law_141 : decode cX12_law 141 = .ok (.getfield 48, 3) := by decide +kernel
theorem dX12_law_144 : decode cX12_law 144 = .ok (.iload 5, 2) := by decide +kernel
theorem dX12_law_146 : decode cX12_law 146 = .ok (.iaload, 1) := by decide +kernel
theorem dX12_law_147 : decode cX12_law 147 = .ok (.i2l, 1) := by decide +kernel
theorem dX12_law_148 : decode cX12_law 148 = .ok (.invokevirtual 274, 3) := by decide +kernel
theorem dX12_law_151 : decode cX12_law 151 = .ok (.iinc 5 1, 3) := by decide +kernel
theorem dX12_law_154 : decode cX12_law 154 = .ok (.goto (-24), 3) := by decide +kernel
theorem dX12_law_157 : decode cX12_law 157 = .ok (.aload_n 0, 1) := by decide +kernel
theorem dX12_law_158 : decode cX12_law 158 = .ok (.getfield 246, 3) := by decide +kernel
theorem dX12_law_161 : decode cX12_law 161 = .ok (.iload_n 2, 1) := by decide +kernel
theorem dX12_law_162 : decode cX12_law 162 = .ok (.isub, 1) := by decide +kernel
theorem dX12_law_163 : decode cX12_law 163 = .ok (.ireturn, 1) := by decide +kernel
def lb_X12_law_64 (v0 : Nat) (v1 : Int32) (v2 : Int32) (v3 : Nat) (v4 : Int32) (s : Int32 × aH) : Option ((Int32 × aH) ⊕ ((aH))) :=
  if s.1 < v1 then
    (gR s.2 v0 11 18).bind fun a13 =>
    (gR s.2 v0 11 7).bind fun a14 =>
    (aI s.2 a14 12 s.1).bind fun x15 =>
    (wB s.2 a13 s.1 x15).bind fun h16 =>
    (some (s.1 + 1)).bind fun x17 =>
    some (.inl (x17, h16))
  else
    some (.inr s.2)
def hd_X12_law_64 (Γ : aC) (v0 : Nat) (v1 : Int32) (v2 : Int32) (v3 : Nat) (v4 : Int32) (s : Int32 × aH) : Prop := Jd Γ (0, 0) 64 [some (.ref v0), some (.int v1), some (.int v2), some (.ref v3), some (.int v4), some (.int s.1)] [] s.2
def ex_X12_law_64 (Γ : aC) (v0 : Nat) (v1 : Int32) (v2 : Int32) (v3 : Nat) (v4 : Int32) (r : (aH)) : Prop := (fun r => ∀ (j5 : Option Value), Jd Γ (0, 0) 90 [some (.ref v0), some (.int v1), some (.int v2), some (.ref v3), some (.int v4), j5] [] r) r
set_option maxRecDepth 20000 in
set_option maxHeartbeats 4000000 in
theorem lw_X12_law_64 {Γ : aC} {d : Nat} (X : Cx Γ RX12 cX12_law 6 (some .int) (d, 0, 0)) (hd : 248 ≤ d) (v0 : Nat) (v1 : Int32) (v2 : Int32) (v3 : Nat) (v4 : Int32) : ∀ n s o, lp (lb_X12_law_64 v0 v1 v2 v3 v4) n s = some o → ex_X12_law_64 Γ v0 v1 v2 v3 v4 o → hd_X12_law_64 Γ v0 v1 v2 v3 v4 s := by
  have hd1 : 1 ≤ d := by omega
  refine J_lp _ _ _ ?_
  intro s o hf hk
  unfold lb_X12_law_64 at hf
  refine r_iload (pc := 64) X dX12_law_64 rfl ?_
  refine r_iload_n (pc := 66) X dX12_law_66 rfl ?_
  refine r_icmp_ge (pc := 67) X 90 dX12_law_67 (by decide) (fun c18 => ?_) (fun c18 => ?_)
  · rw [if_neg c18] at hf
    obtain rfl := Option.some.inj hf
    exact hk _
  · rw [if_pos c18] at hf
    refine r_aload_n (pc := 70) X dX12_law_70 rfl ?_
    obtain ⟨a13, ea13, hf⟩ := ob hf
    refine r_getR (pc := 71) X dX12_law_71 fl_X12_33 rfl ea13 ?_
    refine r_iload (pc := 74) X dX12_law_74 rfl ?_
    refine r_aload_n (pc := 76) X dX12_law_76 rfl ?_
    obtain ⟨a14, ea14, hf⟩ := ob hf
    refine r_getR (pc := 77) X dX12_law_77 fl_X12_22 rfl ea14 ?_
    refine r_iload (pc := 80) X dX12_law_80 rfl ?_
    obtain ⟨x15, ex15, hf⟩ := ob hf
    refine r_bald (pc := 82) X dX12_law_82 ex15 ?_
    obtain ⟨h16, eh16, hf⟩ := ob hf
    refine r_bast (pc := 83) X dX12_law_83 eh16 ?_
    obtain ⟨x17, ex17, hf⟩ := ob hf
    refine r_iinc2 (pc := 84) X 1 [some (.ref v0), some (.int v1), some (.int v2), some (.ref v3), some (.int v4), some (.int x17)] dX12_law_84 (by decide) rfl (by decide) ex17 rfl ?_
    refine r_goto (pc := 87) X 64 dX12_law_87 (by decide) ?_
    obtain rfl := Option.some.inj hf
    exact hk
def lb_X12_law_130 (v0 : Nat) (v2 : Int32) (s : Int32 × aH) : Option ((Int32 × aH) ⊕ ((Int32 × aH))) :=
  (gI s.2 v0 11 1).bind fun x31 =>
  if s.1 < x31 then
    (gR s.2 v0 11 26).bind fun a33 =>
    (aI s.2 a33 14 s.1).bind fun x34 =>
    (ck s.2 v0 11).bind fun u35 =>
    (fn_X12_tell s.2 v0 (Int32.toInt64 x34)).bind fun h36 =>
    (some (s.1 + 1)).bind fun x37 =>
    some (.inl (x37, h36))
  else
    (gI s.2 v0 11 27).bind fun x32 =>
    some (.inr ((x32 - v2), s.2))
def hd_X12_law_130 (Γ : aC) (v0 : Nat) (v2 : Int32) (s : Int32 × aH) : Prop := ∀ (j1 : Option Value) (j3 : Option Value) (j4 : Option Value), Jd Γ (0, 0) 130 [some (.ref v0), j1, some (.int v2), j3, j4, some (.int s.1)] [] s.2
def ex_X12_law_130 (Γ : aC) (v0 : Nat) (v2 : Int32) (r : (Int32 × aH)) : Prop := (fun r => RqI Γ r) r
set_option maxRecDepth 20000 in
set_option maxHeartbeats 4000000 in
theorem lw_X12_law_130 {Γ : aC} {d : Nat} (X : Cx Γ RX12 cX12_law 6 (some .int) (d, 0, 0)) (hd : 248 ≤ d) (v0 : Nat) (v2 : Int32) : ∀ n s o, lp (lb_X12_law_130 v0 v2) n s = some o → ex_X12_law_130 Γ v0 v2 o → hd_X12_law_130 Γ v0 v2 s := by
  have hd1 : 1 ≤ d := by omega
  refine J_lp _ _ _ ?_
  intro s o hf hk j1 j3 j4
  unfold lb_X12_law_130 at hf
  refine r_iload (pc := 130) X dX12_law_130 rfl ?_
  refine r_aload_n (pc := 132) X dX12_law_132 rfl ?_
  obtain ⟨x31, ex31, hf⟩ := ob hf
  refine r_getI (pc := 133) X dX12_law_133 fl_X12_107 rfl ex31 ?_
  refine r_icmp_ge (pc := 136) X 157 dX12_law_136 (by decide) (fun c38 => ?_) (fun c38 => ?_)
  · rw [if_neg c38] at hf
    refine r_aload_n (pc := 157) X dX12_law_157 rfl ?_
    obtain ⟨x32, ex32, hf⟩ := ob hf
    refine r_getI (pc := 158) X dX12_law_158 fl_X12_246 rfl ex32 ?_
    refine r_iload_n (pc := 161) X dX12_law_161 rfl ?_
    refine r_isub (pc := 162) X dX12_law_162 ?_
    obtain rfl := Option.some.inj hf
    exact r_iret (pc := 163) X dX12_law_163 hk
  · rw [if_pos c38] at hf
    refine r_aload_n (pc := 139) X dX12_law_139 rfl ?_
    refine r_aload_n (pc := 140) X dX12_law_140 rfl ?_
    obtain ⟨a33, ea33, hf⟩ := ob hf
    refine r_getR (pc := 141) X dX12_law_141 fl_X12_48 rfl ea33 ?_
    refine r_iload (pc := 144) X dX12_law_144 rfl ?_
    obtain ⟨x34, ex34, hf⟩ := ob hf
    refine r_iald (pc := 146) X dX12_law_146 ex34 ?_
    refine r_i2l (pc := 147) X dX12_law_147 ?_
    obtain ⟨u35, eu35, hf⟩ := ob hf
    obtain ⟨h36, eh36, hf⟩ := ob hf
    refine r_callVV (pc := 148) X [.long (Int32.toInt64 x34)] dX12_law_148 ml_X12_274 vo_X12_tell ⟨Nat.le_refl _, Nat.le_refl _⟩ eu35 (ev_X12_tell (d := d - 1) (by omega) _ _ _ _ eh36) hd1 rfl (Nat.le_of_ble_eq_true rfl) rfl ?_
    obtain ⟨x37, ex37, hf⟩ := ob hf
    refine r_fg 4 [some (.ref v0), j1, some (.int v2), j3, none, some (.int s.1)] rfl ?_
    refine r_iinc2 (pc := 151) X 1 [some (.ref v0), j1, some (.int v2), j3, none, some (.int x37)] dX12_law_151 (by decide) rfl (by decide) ex37 rfl ?_
    refine r_goto (pc := 154) X 130 dX12_law_154 (by decide) ?_
    obtain rfl := Option.some.inj hf
    exact hk _ _ _
def fn_X12_law (h : aH) (p0 : Nat) : Option (Int32 × aH) :=
  (pI h p0 11 11 0).bind fun h1 =>
  (gI h1 p0 11 8).bind fun x2 =>
  (ck h1 p0 11).bind fun u3 =>
  (fn_X12_readRule h1 p0).bind fun o4 =>
  if o4.1 = 0 then
    (gI o4.2 p0 11 16).bind fun x40 =>
    some (((-10000) - x40), o4.2)
  else
    (ck o4.2 p0 11).bind fun u5 =>
    (fn_X12_goThen o4.2 p0 10).bind fun h6 =>
    (gI h6 p0 11 27).bind fun x7 =>
    (gR h6 p0 11 18).bind fun a8 =>
    (gI h6 p0 11 20).bind fun x9 =>
    (gR h6 p0 11 19).bind fun a10 =>
    (pR h6 p0 11 18 a10).bind fun h11 =>
    (pI h11 p0 11 20 x2).bind fun h12 =>
    (lp (lb_X12_law_64 p0 x2 x7 a8 x9) lpN (0, h12)).bind fun o19 =>
    (ck o19 p0 11).bind fun u21 =>
    (fn_X12_goThen o19 p0 10).bind fun h22 =>
    (pR h22 p0 11 18 a8).bind fun h23 =>
    (pI h23 p0 11 20 x9).bind fun h24 =>
    (pI h24 p0 11 10 0).bind fun h25 =>
    (gI h25 p0 11 27).bind fun x26 =>
    (ck h25 p0 11).bind fun u27 =>
    (fn_X12_tell h25 p0 (Int32.toInt64 x26)).bind fun h28 =>
    (ck h28 p0 11).bind fun u29 =>
    (fn_X12_tell h28 p0 (Int32.toInt64 x7)).bind fun h30 =>
    (lp (lb_X12_law_130 p0 x7) lpN (0, h30)).bind fun o39 =>
    some o39
set_option maxRecDepth 20000 in
set_option maxHeartbeats 4000000 in
theorem ev_X12_law {l : Launch} {g : aG} {d : Nat} (hd : 248 ≤ d) (h : aH) (p0 : Nat) (o : Int32 × aH) (hf : fn_X12_law h p0 = some o) : EvM l g d yX12_law cX12_law 6 (some .int) [.ref p0] h (some (.int o.1), o.2) := by
  refine EvM.of mk_X12_law (Nat.le_of_ble_eq_true rfl) ?_
  intro Γ hl hg hq X
  have hd1 : 1 ≤ d := by omega
  have hk : RqI Γ o := hq
  unfold fn_X12_law at hf
  show Jd Γ (0, 0) 0 [some (.ref p0), none, none, none, none, none] [] h
  refine r_aload_n (pc := 0) X dX12_law_0 rfl ?_
  refine r_iconst (pc := 1) X 0 dX12_law_1 (by decide) ?_
  obtain ⟨h1, eh1, hf⟩ := ob hf
  refine r_putI (pc := 2) X dX12_law_2 fp_X12_100 rfl eh1 ?_
  refine r_aload_n (pc := 5) X dX12_law_5 rfl ?_
  obtain ⟨x2, ex2, hf⟩ := ob hf
  refine r_getI (pc := 6) X dX12_law_6 fl_X12_121 rfl ex2 ?_
  refine r_istore_n (pc := 9) X [some (.ref p0), some (.int x2), none, none, none, none] dX12_law_9 (by decide) rfl ?_
  refine r_aload_n (pc := 10) X dX12_law_10 rfl ?_
  obtain ⟨u3, eu3, hf⟩ := ob hf
  obtain ⟨o4, eo4, hf⟩ := ob hf
  refine r_callVI (pc := 11) X [] dX12_law_11 ml_X12_211 vo_X12_readRule ⟨Nat.le_refl _, Nat.le_refl _⟩ eu3 (ev_X12_readRule (d := d - 1) (by omega) _ _ _ eo4) hd1 rfl (Nat.le_of_ble_eq_true rfl) rfl ?_
  refine r_if_ne (pc := 14) X 26 dX12_law_14 (by decide) (fun c41 => ?_) (fun c41 => ?_)
  · rw [if_neg c41] at hf
    refine r_aload_n (pc := 26) X dX12_law_26 rfl ?_
    refine r_bipush (pc := 27) X 10 dX12_law_27 (by decide) ?_
    obtain ⟨u5, eu5, hf⟩ := ob hf
    obtain ⟨h6, eh6, hf⟩ := ob hf
    refine r_callVV (pc := 29) X [.int 10] dX12_law_29 ml_X12_303 vo_X12_goThen ⟨Nat.le_refl _, Nat.le_refl _⟩ eu5 (ev_X12_goThen (d := d - 1) (by omega) _ _ _ _ eh6) hd1 rfl (Nat.le_of_ble_eq_true rfl) rfl ?_
    refine r_aload_n (pc := 32) X dX12_law_32 rfl ?_
    obtain ⟨x7, ex7, hf⟩ := ob hf
    refine r_getI (pc := 33) X dX12_law_33 fl_X12_246 rfl ex7 ?_
    refine r_istore_n (pc := 36) X [some (.ref p0), some (.int x2), some (.int x7), none, none, none] dX12_law_36 (by decide) rfl ?_
    refine r_aload_n (pc := 37) X dX12_law_37 rfl ?_
    obtain ⟨a8, ea8, hf⟩ := ob hf
    refine r_getR (pc := 38) X dX12_law_38 fl_X12_33 rfl ea8 ?_
    refine r_astore_n (pc := 41) X [some (.ref p0), some (.int x2), some (.int x7), some (.ref a8), none, none] dX12_law_41 (by decide) rfl ?_
    refine r_aload_n (pc := 42) X dX12_law_42 rfl ?_
    obtain ⟨x9, ex9, hf⟩ := ob hf
    refine r_getI (pc := 43) X dX12_law_43 fl_X12_214 rfl ex9 ?_
    refine r_istore (pc := 46) X [some (.ref p0), some (.int x2), some (.int x7), some (.ref a8), some (.int x9), none] dX12_law_46 (by decide) rfl ?_
    refine r_aload_n (pc := 48) X dX12_law_48 rfl ?_
    refine r_aload_n (pc := 49) X dX12_law_49 rfl ?_
    obtain ⟨a10, ea10, hf⟩ := ob hf
    refine r_getR (pc := 50) X dX12_law_50 fl_X12_36 rfl ea10 ?_
    obtain ⟨h11, eh11, hf⟩ := ob hf
    refine r_putR (pc := 53) X dX12_law_53 fp_X12_33 (fun _ => ⟨rfl, rfl⟩) rfl eh11 ?_
    refine r_aload_n (pc := 56) X dX12_law_56 rfl ?_
    refine r_iload_n (pc := 57) X dX12_law_57 rfl ?_
    obtain ⟨h12, eh12, hf⟩ := ob hf
    refine r_putI (pc := 58) X dX12_law_58 fp_X12_214 rfl eh12 ?_
    refine r_iconst (pc := 61) X 0 dX12_law_61 (by decide) ?_
    refine r_istore (pc := 62) X [some (.ref p0), some (.int x2), some (.int x7), some (.ref a8), some (.int x9), some (.int 0)] dX12_law_62 (by decide) rfl ?_
    obtain ⟨o19, eo19, hf⟩ := ob hf
    refine (lw_X12_law_64 X hd _ _ _ _ _ lpN _ o19 eo19 ?_)
    intro j20
    refine r_aload_n (pc := 90) X dX12_law_90 rfl ?_
    refine r_bipush (pc := 91) X 10 dX12_law_91 (by decide) ?_
    obtain ⟨u21, eu21, hf⟩ := ob hf
    obtain ⟨h22, eh22, hf⟩ := ob hf
    refine r_callVV (pc := 93) X [.int 10] dX12_law_93 ml_X12_303 vo_X12_goThen ⟨Nat.le_refl _, Nat.le_refl _⟩ eu21 (ev_X12_goThen (d := d - 1) (by omega) _ _ _ _ eh22) hd1 rfl (Nat.le_of_ble_eq_true rfl) rfl ?_
    refine r_aload_n (pc := 96) X dX12_law_96 rfl ?_
    refine r_aload_n (pc := 97) X dX12_law_97 rfl ?_
    obtain ⟨h23, eh23, hf⟩ := ob hf
    refine r_putR (pc := 98) X dX12_law_98 fp_X12_33 (fun _ => ⟨rfl, rfl⟩) rfl eh23 ?_
    refine r_aload_n (pc := 101) X dX12_law_101 rfl ?_
    refine r_iload (pc := 102) X dX12_law_102 rfl ?_
    obtain ⟨h24, eh24, hf⟩ := ob hf
    refine r_putI (pc := 104) X dX12_law_104 fp_X12_214 rfl eh24 ?_
    refine r_aload_n (pc := 107) X dX12_law_107 rfl ?_
    refine r_iconst (pc := 108) X 0 dX12_law_108 (by decide) ?_
    obtain ⟨h25, eh25, hf⟩ := ob hf
    refine r_putI (pc := 109) X dX12_law_109 fp_X12_104 rfl eh25 ?_
    refine r_aload_n (pc := 112) X dX12_law_112 rfl ?_
    refine r_aload_n (pc := 113) X dX12_law_113 rfl ?_
    obtain ⟨x26, ex26, hf⟩ := ob hf
    refine r_getI (pc := 114) X dX12_law_114 fl_X12_246 rfl ex26 ?_
    refine r_i2l (pc := 117) X dX12_law_117 ?_
    obtain ⟨u27, eu27, hf⟩ := ob hf
    obtain ⟨h28, eh28, hf⟩ := ob hf
    refine r_callVV (pc := 118) X [.long (Int32.toInt64 x26)] dX12_law_118 ml_X12_274 vo_X12_tell ⟨Nat.le_refl _, Nat.le_refl _⟩ eu27 (ev_X12_tell (d := d - 1) (by omega) _ _ _ _ eh28) hd1 rfl (Nat.le_of_ble_eq_true rfl) rfl ?_
    refine r_aload_n (pc := 121) X dX12_law_121 rfl ?_
    refine r_iload_n (pc := 122) X dX12_law_122 rfl ?_
    refine r_i2l (pc := 123) X dX12_law_123 ?_
    obtain ⟨u29, eu29, hf⟩ := ob hf
    obtain ⟨h30, eh30, hf⟩ := ob hf
    refine r_callVV (pc := 124) X [.long (Int32.toInt64 x7)] dX12_law_124 ml_X12_274 vo_X12_tell ⟨Nat.le_refl _, Nat.le_refl _⟩ eu29 (ev_X12_tell (d := d - 1) (by omega) _ _ _ _ eh30) hd1 rfl (Nat.le_of_ble_eq_true rfl) rfl ?_
    refine r_iconst (pc := 127) X 0 dX12_law_127 (by decide) ?_
    refine r_istore (pc := 128) X [some (.ref p0), some (.int x2), some (.int x7), some (.ref a8), some (.int x9), some (.int 0)] dX12_law_128 (by decide) rfl ?_
    obtain ⟨o39, eo39, hf⟩ := ob hf
    refine (lw_X12_law_130 X hd _ _ lpN _ o39 eo39 ?_) _ _ _
    obtain rfl := Option.some.inj hf
    exact hk
  · rw [if_pos c41] at hf
    refine r_sipush (pc := 17) X (-10000) dX12_law_17 (by decide) ?_
    refine r_aload_n (pc := 20) X dX12_law_20 rfl ?_
    obtain ⟨x40, ex40, hf⟩ := ob hf
    refine r_getI (pc := 21) X dX12_law_21 fl_X12_136 rfl ex40 ?_
    refine r_isub (pc := 24) X dX12_law_24 ?_
    obtain rfl := Option.some.inj hf
    exact r_iret (pc := 25) X dX12_law_25 hk

theorem dX12_draw_0 : decode cX12_draw 0 = .ok (.aload_n 0, 1) := by decide +kernel
theorem dX12_draw_1 : decode cX12_draw 1 = .ok (.aload_n 0, 1) := by decide +kernel
theorem dX12_draw_2 : decode cX12_draw 2 = .ok (.getfield 407, 3) := by decide +kernel
theorem dX12_draw_5 : decode cX12_draw 5 = .ok (.ldc_w 410, 3) := by decide +kernel
theorem dX12_draw_8 : decode cX12_draw 8 = .ok (.imul, 1) := by decide +kernel
theorem dX12_draw_9 : decode cX12_draw 9 = .ok (.sipush 12345, 3) := by decide +kernel
theorem dX12_draw_12 : decode cX12_draw 12 = .ok (.iadd, 1) := by decide +kernel
theorem dX12_draw_13 : decode cX12_draw 13 = .ok (.putfield 407, 3) := by decide +kernel
theorem dX12_draw_16 : decode cX12_draw 16 = .ok (.aload_n 0, 1) := by decide +kernel
theorem dX12_draw_17 : decode cX12_draw 17 = .ok (.getfield 407, 3) := by decide +kernel
theorem dX12_draw_20 : decode cX12_draw 20 = .ok (.bipush 16, 2) := by decide +kernel
theorem dX12_draw_22 : decode cX12_draw 22 = .ok (.iushr, 1) := by decide +kernel
theorem dX12_draw_23 : decode cX12_draw 23 = .ok (.iload_n 1, 1) := by decide +kernel
theorem dX12_draw_24 : decode cX12_draw 24 = .ok (.irem, 1) := by decide +kernel
theorem dX12_draw_25 : decode cX12_draw 25 = .ok (.ireturn, 1) := by decide +kernel
def fn_X12_draw (h : aH) (p0 : Nat) (p1 : Int32) : Option (Int32 × aH) :=
  (gI h p0 11 45).bind fun x1 =>
  (pI h p0 11 45 ((x1 * 1103515245) + 12345)).bind fun h2 =>
  (gI h2 p0 11 45).bind fun x3 =>
  (irm (ius x3 16) p1).bind fun x4 =>
  some (x4, h2)
set_option maxRecDepth 20000 in
set_option maxHeartbeats 4000000 in
theorem ev_X12_draw {l : Launch} {g : aG} {d : Nat} (hd : 0 ≤ d) (h : aH) (p0 : Nat) (p1 : Int32) (o : Int32 × aH) (hf : fn_X12_draw h p0 p1 = some o) : EvM l g d yX12_draw cX12_draw 2 (some .int) [.ref p0, .int p1] h (some (.int o.1), o.2) := by
  refine EvM.of mk_X12_draw (Nat.le_of_ble_eq_true rfl) ?_
  intro Γ hl hg hq X
  have hd1 : 0 ≤ d := by omega
  have hk : RqI Γ o := hq
  unfold fn_X12_draw at hf
  show Jd Γ (0, 0) 0 [some (.ref p0), some (.int p1)] [] h
  refine r_aload_n (pc := 0) X dX12_draw_0 rfl ?_
  refine r_aload_n (pc := 1) X dX12_draw_1 rfl ?_
  obtain ⟨x1, ex1, hf⟩ := ob hf
  refine r_getI (pc := 2) X dX12_draw_2 fl_X12_407 rfl ex1 ?_
  refine r_ldcw (pc := 5) X 1103515245 dX12_draw_5 kc_X12_410 ?_
  refine r_imul (pc := 8) X dX12_draw_8 ?_
  refine r_sipush (pc := 9) X 12345 dX12_draw_9 (by decide) ?_
  refine r_iadd (pc := 12) X dX12_draw_12 ?_
  obtain ⟨h2, eh2, hf⟩ := ob hf
  refine r_putI (pc := 13) X dX12_draw_13 fp_X12_407 rfl eh2 ?_
  refine r_aload_n (pc := 16) X dX12_draw_16 rfl ?_
  obtain ⟨x3, ex3, hf⟩ := ob hf
  refine r_getI (pc := 17) X dX12_draw_17 fl_X12_407 rfl ex3 ?_
  refine r_bipush (pc := 20) X 16 dX12_draw_20 (by decide) ?_
  refine r_iushr (pc := 22) X dX12_draw_22 ?_
  refine r_iload_n (pc := 23) X dX12_draw_23 rfl ?_
  obtain ⟨x4, ex4, hf⟩ := ob hf
  refine r_irem (pc := 24) X dX12_draw_24 ex4 ?_
  obtain rfl := Option.some.inj hf
  exact r_iret (pc := 25) X dX12_draw_25 hk

theorem dX12_years_0 : decode cX12_years 0 = .ok (.aload_n 0, 1) := by decide +kernel
theorem dX12_years_1 : decode cX12_years 1 = .ok (.iconst 0, 1) := by decide +kernel
theorem dX12_years_2 : decode cX12_years 2 = .ok (.putfield 100, 3) := by decide +kernel
theorem dX12_years_5 : decode cX12_years 5 = .ok (.iload_n 2, 1) := by decide +kernel
theorem dX12_years_6 : decode cX12_years 6 = .ok (.iconst 1, 1) := by decide +kernel
theorem dX12_years_7 : decode cX12_years 7 = .ok (.bipush 60, 2) := by decide +kernel
theorem dX12_years_9 : decode cX12_years 9 = .ok (.invokestatic 110, 3) := by decide +kernel
theorem dX12_years_12 : decode cX12_years 12 = .ok (.ifCond .ne 5, 3) := by decide +kernel
theorem dX12_years_15 : decode cX12_years 15 = .ok (.iconst (-1), 1) := by decide +kernel
theorem dX12_years_16 : decode cX12_years 16 = .ok (.ireturn, 1) := by decide +kernel
theorem dX12_years_17 : decode cX12_years 17 = .ok (.aload_n 0, 1) := by decide +kernel
theorem dX12_years_18 : decode cX12_years 18 = .ok (.iload_n 1, 1) := by decide +kernel
theorem dX12_years_19 : decode cX12_years 19 = .ok (.putfield 407, 3) := by decide +kernel
theorem dX12_years_22 : decode cX12_years 22 = .ok (.aload_n 0, 1) := by decide +kernel
theorem dX12_years_23 : decode cX12_years 23 = .ok (.getfield 9, 3) := by decide +kernel
theorem dX12_years_26 : decode cX12_years 26 = .ok (.aload_n 0, 1) := by decide +kernel
theorem dX12_years_27 : decode cX12_years 27 = .ok (.getfield 48, 3) := by decide +kernel
theorem dX12_years_30 : decode cX12_years 30 = .ok (.iconst 0, 1) := by decide +kernel
theorem dX12_years_31 : decode cX12_years 31 = .ok (.invokestatic 242, 3) := by decide +kernel
theorem dX12_years_34 : decode cX12_years 34 = .ok (.aload_n 0, 1) := by decide +kernel
theorem dX12_years_35 : decode cX12_years 35 = .ok (.invokevirtual 264, 3) := by decide +kernel
theorem dX12_years_38 : decode cX12_years 38 = .ok (.iconst 0, 1) := by decide +kernel
theorem dX12_years_39 : decode cX12_years 39 = .ok (.istore_n 3, 1) := by decide +kernel
theorem dX12_years_40 : decode cX12_years 40 = .ok (.iload_n 3, 1) := by decide +kernel
theorem dX12_years_41 : decode cX12_years 41 = .ok (.iload_n 2, 1) := by decide +kernel
theorem dX12_years_42 : decode cX12_years 42 = .ok (.if_icmp .ge 135, 3) := by decide +kernel
theorem dX12_years_45 : decode cX12_years 45 = .ok (.aload_n 0, 1) := by decide +kernel
theorem dX12_years_46 : decode cX12_years 46 = .ok (.iconst 4, 1) := by decide +kernel
theorem dX12_years_47 : decode cX12_years 47 = .ok (.invokevirtual 411, 3) := by decide +kernel
theorem dX12_years_50 : decode cX12_years 50 = .ok (.istore 4, 2) := by decide +kernel
theorem dX12_years_52 : decode cX12_years 52 = .ok (.iload 4, 2) := by decide +kernel
theorem dX12_years_54 : decode cX12_years 54 = .ok (.iconst 2, 1) := by decide +kernel
theorem dX12_years_55 : decode cX12_years 55 = .ok (.if_icmp .ge 11, 3) := by decide +kernel
theorem dX12_years_58 : decode cX12_years 58 = .ok (.aload_n 0, 1) := by decide +kernel
theorem dX12_years_59 : decode cX12_years 59 = .ok (.aload_n 0, 1) := by decide +kernel
theorem dX12_years_60 : decode cX12_years 60 = .ok (.getfield 48, 3) := by decide +kernel
theorem dX12_years_63 : decode cX12_years 63 = .ok (.invokevirtual 260, 3) := by decide +kernel
theorem dX12_years_66 : decode cX12_years 66 = .ok (.iload 4, 2) := by decide +kernel
theorem dX12_years_68 : decode cX12_years 68 = .ok (.iconst 2, 1) := by decide +kernel
theorem dX12_years_69 : decode cX12_years 69 = .ok (.if_icmp .ne 56, 3) := by decide +kernel
theorem dX12_years_72 : decode cX12_years 72 = .ok (.aload_n 0, 1) := by decide +kernel
theorem dX12_years_73 : decode cX12_years 73 = .ok (.getfield 107, 3) := by decide +kernel
theorem dX12_years_76 : decode cX12_years 76 = .ok (.ifCond .le 49, 3) := by decide +kernel
theorem dX12_years_79 : decode cX12_years 79 = .ok (.aload_n 0, 1) := by decide +kernel
theorem dX12_years_80 : decode cX12_years 80 = .ok (.aload_n 0, 1) := by decide +kernel
theorem dX12_years_81 : decode cX12_years 81 = .ok (.getfield 107, 3) := by decide +kernel
theorem dX12_years_84 : decode cX12_years 84 = .ok (.invokevirtual 411, 3) := by decide +kernel
theorem dX12_years_87 : decode cX12_years 87 = .ok (.istore 5, 2) := by decide +kernel
theorem dX12_years_89 : decode cX12_years 89 = .ok (.iconst 1, 1) := by decide +kernel
theorem dX12_years_90 : decode cX12_years 90 = .ok (.aload_n 0, 1) := by decide +kernel
theorem dX12_years_91 : decode cX12_years 91 = .ok (.iconst 3, 1) := by decide +kernel
theorem dX12_years_92 : decode cX12_years 92 = .ok (.invokevirtual 411, 3) := by decide +kernel
theorem dX12_years_95 : decode cX12_years 95 = .ok (.iadd, 1) := by decide +kernel
theorem dX12_years_96 : decode cX12_years 96 = .ok (.istore 6, 2) := by decide +kernel
theorem dX12_years_98 : decode cX12_years 98 = .ok (.aload_n 0, 1) := by decide +kernel
theorem dX12_years_99 : decode cX12_years 99 = .ok (.aload_n 0, 1) := by decide +kernel
theorem dX12_years_100 : decode cX12_years 100 = .ok (.getfield 48, 3) := by decide +kernel
theorem dX12_years_103 : decode cX12_years 103 = .ok (.iload 5, 2) := by decide +kernel
theorem dX12_years_105 : decode cX12_years 105 = .ok (.iload 6, 2) := by decide +kernel
theorem dX12_years_107 : decode cX12_years 107 = .ok (.invokevirtual 281, 3) := by decide +kernel
theorem dX12_years_110 : decode cX12_years 110 = .ok (.ifCond .ne 15, 3) := by decide +kernel
theorem dX12_years_113 : decode cX12_years 113 = .ok (.aload_n 0, 1) := by decide +kernel
theorem dX12_years_114 : decode cX12_years 114 = .ok (.getfield 48, 3) := by decide +kernel
theorem dX12_years_117 : decode cX12_years 117 = .ok (.iload 5, 2) := by decide +kernel
theorem dX12_years_119 : decode cX12_years 119 = .ok (.dup2, 1) := by decide +kernel
theorem dX12_years_120 : decode cX12_years 120 = .ok (.iaload, 1) := by decide +kernel
theorem dX12_years_121 : decode cX12_years 121 = .ok (.iload 6, 2) := by decide +kernel
theorem dX12_years_123 : decode cX12_years 123 = .ok (.iadd, 1) := by decide +kernel
theorem dX12_years_124 : decode cX12_years 124 = .ok (.iastore, 1) := by decide +kernel
theorem dX12_years_125 : decode cX12_years 125 = .ok (.iload 4, 2) := by decide +kernel
theorem dX12_years_127 : decode cX12_years 127 = .ok (.iconst 3, 1) := by decide +kernel
theorem dX12_years_128 : decode cX12_years 128 = .ok (.if_icmp .ne 43, 3) := by decide +kernel
theorem dX12_years_131 : decode cX12_years 131 = .ok (.aload_n 0, 1) := by decide +kernel
theorem dX12_years_132 : decode cX12_years 132 = .ok (.getfield 118, 3) := by decide +kernel
theorem dX12_years_135 : decode cX12_years 135 = .ok (.ifCond .le 36, 3) := by decide +kernel
theorem dX12_years_138 : decode cX12_years 138 = .ok (.aload_n 0, 1) := by decide +kernel
theorem dX12_years_139 : decode cX12_years 139 = .ok (.aload_n 0, 1) := by decide +kernel
theorem dX12_years_140 : decode cX12_years 140 = .ok (.getfield 118, 3) := by decide +kernel
theorem dX12_years_143 : decode cX12_years 143 = .ok (.invokevirtual 411, 3) := by decide +kernel
theorem dX12_years_146 : decode cX12_years 146 = .ok (.istore 5, 2) := by decide +kernel
theorem dX12_years_148 : decode cX12_years 148 = .ok (.aload_n 0, 1) := by decide +kernel
theorem dX12_years_149 : decode cX12_years 149 = .ok (.aload_n 0, 1) := by decide +kernel
theorem dX12_years_150 : decode cX12_years 150 = .ok (.getfield 48, 3) := by decide +kernel
theorem dX12_years_153 : decode cX12_years 153 = .ok (.iload 5, 2) := by decide +kernel
theorem dX12_years_155 : decode cX12_years 155 = .ok (.invokevirtual 288, 3) := by decide +kernel
theorem dX12_years_158 : decode cX12_years 158 = .ok (.ifCond .ne 13, 3) := by decide +kernel
theorem dX12_years_161 : decode cX12_years 161 = .ok (.aload_n 0, 1) := by decide +kernel
theorem dX12_years_162 : decode cX12_years 162 = .ok (.aload_n 0, 1) := by decide +kernel
theorem dX12_years_163 : decode cX12_years 163 = .ok (.getfield 48, 3) := by decide +kernel
theorem dX12_years_166 : decode cX12_years 166 = .ok (.iload 5, 2) := by decide +kernel
theorem dX12_years_168 : decode cX12_years 168 = .ok (.invokevirtual 291, 3) := by decide +kernel
theorem dX12_years_171 : decode cX12_years 171 = .ok (.iinc 3 1, 3) := by decide +kernel
theorem dX12_years_174 : decode cX12_years 174 = .ok (.goto (-134), 3) := by decide +kernel
theorem dX12_years_177 : decode cX12_years 177 = .ok (.aload_n 0, 1) := by decide +kernel
theorem dX12_years_178 : decode cX12_years 178 = .ok (.iconst 0, 1) := by decide +kernel
theorem dX12_years_179 : decode cX12_years 179 = .ok (.putfield 104, 3) := by decide +kernel
theorem dX12_years_182 : decode cX12_years 182 = .ok (.aload_n 0, 1) := by decide +kernel
theorem dX12_years_183 : decode cX12_years 183 = .ok (.aload_n 0, 1) := by decide +kernel
theorem dX12_years_184 : decode cX12_years 184 = .ok (.getfield 246, 3) := by decide +kernel
theorem dX12_years_187 : decode cX12_years 187 = .ok (.i2l, 1) := by decide +kernel
theorem dX12_years_188 : decode cX12_years 188 = .ok (.invokevirtual 274, 3) := by decide +kernel
theorem dX12_years_191 : decode cX12_years 191 = .ok (.aload_n 0, 1) := by decide +kernel
theorem dX12_years_192 : decode cX12_years 192 = .ok (.aload_n 0, 1) := by decide +kernel
theorem dX12_years_193 : decode cX12_years 193 = .ok (.getfield 249, 3) := by decide +kernel
theorem dX12_years_196 : decode cX12_years 196 = .ok (.i2l, 1) := by decide +kernel
theorem dX12_years_197 : decode cX12_years 197 = .ok (.invokevirtual 274, 3) := by decide +kernel
theorem dX12_years_200 : decode cX12_years 200 = .ok (.aload_n 0, 1) := by decide +kernel
theorem dX12_years_201 : decode cX12_years 201 = .ok (.aload_n 0, 1) := by decide +kernel
theorem dX12_years_202 : decode cX12_years 202 = .ok (.getfield 48, 3) := by decide +kernel
theorem dX12_years_205 : decode cX12_years 205 = .ok (.iconst 0, 1) := by decide +kernel
theorem dX12_years_206 : decode cX12_years 206 = .ok (.invokevirtual 239, 3) := by decide +kernel
theorem dX12_years_209 : decode cX12_years 209 = .ok (.ireturn, 1) := by decide +kernel
def lb_X12_years_40 (v0 : Nat) (v2 : Int32) (s : Int32 × aH) : Option ((Int32 × aH) ⊕ ((aH))) :=
  if s.1 < v2 then
    (ck s.2 v0 11).bind fun u9 =>
    (fn_X12_draw s.2 v0 4).bind fun o10 =>
    ((
      if o10.1 < 2 then
        (gR o10.2 v0 11 26).bind fun a48 =>
        (ck o10.2 v0 11).bind fun u49 =>
        (fn_X12_goHour o10.2 v0 a48).bind fun h50 =>
        some h50
      else
        some o10.2
    ) : Option (aH)).bind fun t11 =>
    ((
      if o10.1 = 2 then
        (gI t11 v0 11 1).bind fun x32 =>
        if x32 ≤ 0 then
          some t11
        else
          (gI t11 v0 11 1).bind fun x33 =>
          (ck t11 v0 11).bind fun u34 =>
          (fn_X12_draw t11 v0 x33).bind fun o35 =>
          (ck o35.2 v0 11).bind fun u36 =>
          (fn_X12_draw o35.2 v0 3).bind fun o37 =>
          (some (1 + o37.1)).bind fun x38 =>
          (gR o37.2 v0 11 26).bind fun a39 =>
          (ck o37.2 v0 11).bind fun u40 =>
          (fn_X12_refusesWater o37.2 v0 a39 o35.1 x38).bind fun x41 =>
          if x41 = 0 then
            (gR o37.2 v0 11 26).bind fun a42 =>
            (aI o37.2 a42 14 o35.1).bind fun x43 =>
            (wI o37.2 a42 o35.1 (x43 + x38)).bind fun h44 =>
            some h44
          else
            some o37.2
      else
        some t11
    ) : Option (aH)).bind fun t12 =>
    if o10.1 = 3 then
      (gI t12 v0 11 2).bind fun x16 =>
      if x16 ≤ 0 then
        (some (s.1 + 1)).bind fun x17 =>
        some (.inl (x17, t12))
      else
        (gI t12 v0 11 2).bind fun x18 =>
        (ck t12 v0 11).bind fun u19 =>
        (fn_X12_draw t12 v0 x18).bind fun o20 =>
        (gR o20.2 v0 11 26).bind fun a21 =>
        (ck o20.2 v0 11).bind fun u22 =>
        (fn_X12_refusesBoat o20.2 v0 a21 o20.1).bind fun x23 =>
        if x23 = 0 then
          (gR o20.2 v0 11 26).bind fun a25 =>
          (ck o20.2 v0 11).bind fun u26 =>
          (fn_X12_goBoat o20.2 v0 a25 o20.1).bind fun h27 =>
          (some (s.1 + 1)).bind fun x28 =>
          some (.inl (x28, h27))
        else
          (some (s.1 + 1)).bind fun x24 =>
          some (.inl (x24, o20.2))
    else
      (some (s.1 + 1)).bind fun x15 =>
      some (.inl (x15, t12))
  else
    some (.inr s.2)
def hd_X12_years_40 (Γ : aC) (v0 : Nat) (v2 : Int32) (s : Int32 × aH) : Prop := ∀ (j1 : Option Value) (j4 : Option Value) (j5 : Option Value) (j6 : Option Value), Jd Γ (0, 0) 40 [some (.ref v0), j1, some (.int v2), some (.int s.1), j4, j5, j6] [] s.2
def ex_X12_years_40 (Γ : aC) (v0 : Nat) (v2 : Int32) (r : (aH)) : Prop := (fun r => ∀ (j1 : Option Value) (j3 : Option Value) (j4 : Option Value) (j5 : Option Value) (j6 : Option Value), Jd Γ (0, 0) 177 [some (.ref v0), j1, some (.int v2), j3, j4, j5, j6] [] r) r
set_option maxRecDepth 20000 in
set_option maxHeartbeats 4000000 in
theorem lw_X12_years_40 {Γ : aC} {d : Nat} (X : Cx Γ RX12 cX12_years 7 (some .int) (d, 0, 0)) (hd : 246 ≤ d) (v0 : Nat) (v2 : Int32) : ∀ n s o, lp (lb_X12_years_40 v0 v2) n s = some o → ex_X12_years_40 Γ v0 v2 o → hd_X12_years_40 Γ v0 v2 s := by
  have hd1 : 1 ≤ d := by omega
  refine J_lp _ _ _ ?_
  intro s o hf hk j1 j4 j5 j6
  unfold lb_X12_years_40 at hf
  refine r_iload_n (pc := 40) X dX12_years_40 rfl ?_
  refine r_iload_n (pc := 41) X dX12_years_41 rfl ?_
  refine r_icmp_ge (pc := 42) X 177 dX12_years_42 (by decide) (fun c52 => ?_) (fun c52 => ?_)
  · rw [if_neg c52] at hf
    obtain rfl := Option.some.inj hf
    exact hk _ _ _ _ _
  · rw [if_pos c52] at hf
    refine r_aload_n (pc := 45) X dX12_years_45 rfl ?_
    refine r_iconst (pc := 46) X 4 dX12_years_46 (by decide) ?_
    obtain ⟨u9, eu9, hf⟩ := ob hf
    obtain ⟨o10, eo10, hf⟩ := ob hf
    refine r_callVI (pc := 47) X [.int 4] dX12_years_47 ml_X12_411 vo_X12_draw ⟨Nat.le_refl _, Nat.le_refl _⟩ eu9 (ev_X12_draw (d := d - 1) (by omega) _ _ _ _ eo10) hd1 rfl (Nat.le_of_ble_eq_true rfl) rfl ?_
    refine r_istore (pc := 50) X [some (.ref v0), j1, some (.int v2), some (.int s.1), some (.int o10.1), j5, j6] dX12_years_50 (by decide) rfl ?_
    refine r_iload (pc := 52) X dX12_years_52 rfl ?_
    refine r_iconst (pc := 54) X 2 dX12_years_54 (by decide) ?_
    obtain ⟨t11, et11, hf⟩ := ob hf
    have Jt11 : Jd Γ (0, 0) 66 [some (.ref v0), j1, some (.int v2), some (.int s.1), some (.int o10.1), j5, j6] [] t11 := by
      refine r_iload (pc := 66) X dX12_years_66 rfl ?_
      refine r_iconst (pc := 68) X 2 dX12_years_68 (by decide) ?_
      obtain ⟨t12, et12, hf⟩ := ob hf
      have Jt12 : ∀ (j13 : Option Value) (j14 : Option Value), Jd Γ (0, 0) 125 [some (.ref v0), j1, some (.int v2), some (.int s.1), some (.int o10.1), j13, j14] [] t12 := by
        intro j13 j14
        refine r_iload (pc := 125) X dX12_years_125 rfl ?_
        refine r_iconst (pc := 127) X 3 dX12_years_127 (by decide) ?_
        refine r_icmp_ne (pc := 128) X 171 dX12_years_128 (by decide) (fun c31 => ?_) (fun c31 => ?_)
        · rw [if_neg c31] at hf
          obtain ⟨x15, ex15, hf⟩ := ob hf
          refine r_iinc2 (pc := 171) X 1 [some (.ref v0), j1, some (.int v2), some (.int x15), some (.int o10.1), j13, j14] dX12_years_171 (by decide) rfl (by decide) ex15 rfl ?_
          refine r_goto (pc := 174) X 40 dX12_years_174 (by decide) ?_
          obtain rfl := Option.some.inj hf
          exact hk _ _ _ _
        · rw [if_pos c31] at hf
          refine r_aload_n (pc := 131) X dX12_years_131 rfl ?_
          obtain ⟨x16, ex16, hf⟩ := ob hf
          refine r_getI (pc := 132) X dX12_years_132 fl_X12_118 rfl ex16 ?_
          refine r_if_le (pc := 135) X 171 dX12_years_135 (by decide) (fun c30 => ?_) (fun c30 => ?_)
          · rw [if_pos c30] at hf
            obtain ⟨x17, ex17, hf⟩ := ob hf
            refine r_iinc2 (pc := 171) X 1 [some (.ref v0), j1, some (.int v2), some (.int x17), some (.int o10.1), j13, j14] dX12_years_171 (by decide) rfl (by decide) ex17 rfl ?_
            refine r_goto (pc := 174) X 40 dX12_years_174 (by decide) ?_
            obtain rfl := Option.some.inj hf
            exact hk _ _ _ _
          · rw [if_neg c30] at hf
            refine r_aload_n (pc := 138) X dX12_years_138 rfl ?_
            refine r_aload_n (pc := 139) X dX12_years_139 rfl ?_
            obtain ⟨x18, ex18, hf⟩ := ob hf
            refine r_getI (pc := 140) X dX12_years_140 fl_X12_118 rfl ex18 ?_
            obtain ⟨u19, eu19, hf⟩ := ob hf
            obtain ⟨o20, eo20, hf⟩ := ob hf
            refine r_callVI (pc := 143) X [.int x18] dX12_years_143 ml_X12_411 vo_X12_draw ⟨Nat.le_refl _, Nat.le_refl _⟩ eu19 (ev_X12_draw (d := d - 1) (by omega) _ _ _ _ eo20) hd1 rfl (Nat.le_of_ble_eq_true rfl) rfl ?_
            refine r_istore (pc := 146) X [some (.ref v0), j1, some (.int v2), some (.int s.1), some (.int o10.1), some (.int o20.1), j14] dX12_years_146 (by decide) rfl ?_
            refine r_aload_n (pc := 148) X dX12_years_148 rfl ?_
            refine r_aload_n (pc := 149) X dX12_years_149 rfl ?_
            obtain ⟨a21, ea21, hf⟩ := ob hf
            refine r_getR (pc := 150) X dX12_years_150 fl_X12_48 rfl ea21 ?_
            refine r_iload (pc := 153) X dX12_years_153 rfl ?_
            obtain ⟨u22, eu22, hf⟩ := ob hf
            obtain ⟨x23, ex23, hf⟩ := ob hf
            refine r_callVI (pc := 155) X [.ref a21, .int o20.1] dX12_years_155 ml_X12_288 vo_X12_refusesBoat ⟨Nat.le_refl _, Nat.le_refl _⟩ eu22 (ev_X12_refusesBoat (d := d - 1) (by omega) _ _ _ _ _ ex23) hd1 rfl (Nat.le_of_ble_eq_true rfl) rfl ?_
            refine r_if_ne (pc := 158) X 171 dX12_years_158 (by decide) (fun c29 => ?_) (fun c29 => ?_)
            · rw [if_neg c29] at hf
              obtain ⟨x24, ex24, hf⟩ := ob hf
              refine r_iinc2 (pc := 171) X 1 [some (.ref v0), j1, some (.int v2), some (.int x24), some (.int o10.1), some (.int o20.1), j14] dX12_years_171 (by decide) rfl (by decide) ex24 rfl ?_
              refine r_goto (pc := 174) X 40 dX12_years_174 (by decide) ?_
              obtain rfl := Option.some.inj hf
              exact hk _ _ _ _
            · rw [if_pos c29] at hf
              refine r_aload_n (pc := 161) X dX12_years_161 rfl ?_
              refine r_aload_n (pc := 162) X dX12_years_162 rfl ?_
              obtain ⟨a25, ea25, hf⟩ := ob hf
              refine r_getR (pc := 163) X dX12_years_163 fl_X12_48 rfl ea25 ?_
              refine r_iload (pc := 166) X dX12_years_166 rfl ?_
              obtain ⟨u26, eu26, hf⟩ := ob hf
              obtain ⟨h27, eh27, hf⟩ := ob hf
              refine r_callVV (pc := 168) X [.ref a25, .int o20.1] dX12_years_168 ml_X12_291 vo_X12_goBoat ⟨Nat.le_refl _, Nat.le_refl _⟩ eu26 (ev_X12_goBoat (d := d - 1) (by omega) _ _ _ _ _ eh27) hd1 rfl (Nat.le_of_ble_eq_true rfl) rfl ?_
              obtain ⟨x28, ex28, hf⟩ := ob hf
              refine r_iinc2 (pc := 171) X 1 [some (.ref v0), j1, some (.int v2), some (.int x28), some (.int o10.1), some (.int o20.1), j14] dX12_years_171 (by decide) rfl (by decide) ex28 rfl ?_
              refine r_goto (pc := 174) X 40 dX12_years_174 (by decide) ?_
              obtain rfl := Option.some.inj hf
              exact hk _ _ _ _
      refine r_icmp_ne (pc := 69) X 125 dX12_years_69 (by decide) (fun c47 => ?_) (fun c47 => ?_)
      · rw [if_neg c47] at et12
        obtain rfl := Option.some.inj et12
        exact Jt12 _ _
      · rw [if_pos c47] at et12
        refine r_aload_n (pc := 72) X dX12_years_72 rfl ?_
        obtain ⟨x32, ex32, et12⟩ := ob et12
        refine r_getI (pc := 73) X dX12_years_73 fl_X12_107 rfl ex32 ?_
        refine r_if_le (pc := 76) X 125 dX12_years_76 (by decide) (fun c46 => ?_) (fun c46 => ?_)
        · rw [if_pos c46] at et12
          obtain rfl := Option.some.inj et12
          exact Jt12 _ _
        · rw [if_neg c46] at et12
          refine r_aload_n (pc := 79) X dX12_years_79 rfl ?_
          refine r_aload_n (pc := 80) X dX12_years_80 rfl ?_
          obtain ⟨x33, ex33, et12⟩ := ob et12
          refine r_getI (pc := 81) X dX12_years_81 fl_X12_107 rfl ex33 ?_
          obtain ⟨u34, eu34, et12⟩ := ob et12
          obtain ⟨o35, eo35, et12⟩ := ob et12
          refine r_callVI (pc := 84) X [.int x33] dX12_years_84 ml_X12_411 vo_X12_draw ⟨Nat.le_refl _, Nat.le_refl _⟩ eu34 (ev_X12_draw (d := d - 1) (by omega) _ _ _ _ eo35) hd1 rfl (Nat.le_of_ble_eq_true rfl) rfl ?_
          refine r_istore (pc := 87) X [some (.ref v0), j1, some (.int v2), some (.int s.1), some (.int o10.1), some (.int o35.1), j6] dX12_years_87 (by decide) rfl ?_
          refine r_iconst (pc := 89) X 1 dX12_years_89 (by decide) ?_
          refine r_aload_n (pc := 90) X dX12_years_90 rfl ?_
          refine r_iconst (pc := 91) X 3 dX12_years_91 (by decide) ?_
          obtain ⟨u36, eu36, et12⟩ := ob et12
          obtain ⟨o37, eo37, et12⟩ := ob et12
          refine r_callVI (pc := 92) X [.int 3] dX12_years_92 ml_X12_411 vo_X12_draw ⟨Nat.le_refl _, Nat.le_refl _⟩ eu36 (ev_X12_draw (d := d - 1) (by omega) _ _ _ _ eo37) hd1 rfl (Nat.le_of_ble_eq_true rfl) rfl ?_
          refine r_iadd (pc := 95) X dX12_years_95 ?_
          obtain ⟨x38, ex38, et12⟩ := ob et12
          refine r_nmI ex38 ?_
          refine r_istore (pc := 96) X [some (.ref v0), j1, some (.int v2), some (.int s.1), some (.int o10.1), some (.int o35.1), some (.int x38)] dX12_years_96 (by decide) rfl ?_
          refine r_aload_n (pc := 98) X dX12_years_98 rfl ?_
          refine r_aload_n (pc := 99) X dX12_years_99 rfl ?_
          obtain ⟨a39, ea39, et12⟩ := ob et12
          refine r_getR (pc := 100) X dX12_years_100 fl_X12_48 rfl ea39 ?_
          refine r_iload (pc := 103) X dX12_years_103 rfl ?_
          refine r_iload (pc := 105) X dX12_years_105 rfl ?_
          obtain ⟨u40, eu40, et12⟩ := ob et12
          obtain ⟨x41, ex41, et12⟩ := ob et12
          refine r_callVI (pc := 107) X [.ref a39, .int o35.1, .int x38] dX12_years_107 ml_X12_281 vo_X12_refusesWater ⟨Nat.le_refl _, Nat.le_refl _⟩ eu40 (ev_X12_refusesWater (d := d - 1) (by omega) _ _ _ _ _ _ ex41) hd1 rfl (Nat.le_of_ble_eq_true rfl) rfl ?_
          refine r_if_ne (pc := 110) X 125 dX12_years_110 (by decide) (fun c45 => ?_) (fun c45 => ?_)
          · rw [if_neg c45] at et12
            obtain rfl := Option.some.inj et12
            exact Jt12 _ _
          · rw [if_pos c45] at et12
            refine r_aload_n (pc := 113) X dX12_years_113 rfl ?_
            obtain ⟨a42, ea42, et12⟩ := ob et12
            refine r_getR (pc := 114) X dX12_years_114 fl_X12_48 rfl ea42 ?_
            refine r_iload (pc := 117) X dX12_years_117 rfl ?_
            refine r_dup2 (pc := 119) X dX12_years_119 rfl rfl ?_
            obtain ⟨x43, ex43, et12⟩ := ob et12
            refine r_iald (pc := 120) X dX12_years_120 ex43 ?_
            refine r_iload (pc := 121) X dX12_years_121 rfl ?_
            refine r_iadd (pc := 123) X dX12_years_123 ?_
            obtain ⟨h44, eh44, et12⟩ := ob et12
            refine r_iast (pc := 124) X dX12_years_124 eh44 ?_
            obtain rfl := Option.some.inj et12
            exact Jt12 _ _
    refine r_icmp_ge (pc := 55) X 66 dX12_years_55 (by decide) (fun c51 => ?_) (fun c51 => ?_)
    · rw [if_neg c51] at et11
      obtain rfl := Option.some.inj et11
      exact Jt11
    · rw [if_pos c51] at et11
      refine r_aload_n (pc := 58) X dX12_years_58 rfl ?_
      refine r_aload_n (pc := 59) X dX12_years_59 rfl ?_
      obtain ⟨a48, ea48, et11⟩ := ob et11
      refine r_getR (pc := 60) X dX12_years_60 fl_X12_48 rfl ea48 ?_
      obtain ⟨u49, eu49, et11⟩ := ob et11
      obtain ⟨h50, eh50, et11⟩ := ob et11
      refine r_callVV (pc := 63) X [.ref a48] dX12_years_63 ml_X12_260 vo_X12_goHour ⟨Nat.le_refl _, Nat.le_refl _⟩ eu49 (ev_X12_goHour (d := d - 1) (by omega) _ _ _ _ eh50) hd1 rfl (Nat.le_of_ble_eq_true rfl) rfl ?_
      obtain rfl := Option.some.inj et11
      exact Jt11
def fn_X12_years (h : aH) (p0 : Nat) (p1 : Int32) (p2 : Int32) : Option (Int32 × aH) :=
  (pI h p0 11 11 0).bind fun h1 =>
  (fn_X12_in h1 p2 1 60).bind fun x2 =>
  if x2 = 0 then
    some ((-1), h1)
  else
    (pI h1 p0 11 45 p1).bind fun h3 =>
    (gR h3 p0 11 0).bind fun a4 =>
    (gR h3 p0 11 26).bind fun a5 =>
    (fn_X12_lay h3 a4 a5 0).bind fun h6 =>
    (ck h6 p0 11).bind fun u7 =>
    (fn_X12_clear h6 p0).bind fun h8 =>
    (lp (lb_X12_years_40 p0 p2) lpN (0, h8)).bind fun o53 =>
    (pI o53 p0 11 10 0).bind fun h59 =>
    (gI h59 p0 11 27).bind fun x60 =>
    (ck h59 p0 11).bind fun u61 =>
    (fn_X12_tell h59 p0 (Int32.toInt64 x60)).bind fun h62 =>
    (gI h62 p0 11 28).bind fun x63 =>
    (ck h62 p0 11).bind fun u64 =>
    (fn_X12_tell h62 p0 (Int32.toInt64 x63)).bind fun h65 =>
    (gR h65 p0 11 26).bind fun a66 =>
    (ck h65 p0 11).bind fun u67 =>
    (fn_X12_sumOf h65 p0 a66 0).bind fun x68 =>
    some (x68, h65)
set_option maxRecDepth 20000 in
set_option maxHeartbeats 4000000 in
theorem ev_X12_years {l : Launch} {g : aG} {d : Nat} (hd : 246 ≤ d) (h : aH) (p0 : Nat) (p1 : Int32) (p2 : Int32) (o : Int32 × aH) (hf : fn_X12_years h p0 p1 p2 = some o) : EvM l g d yX12_years cX12_years 7 (some .int) [.ref p0, .int p1, .int p2] h (some (.int o.1), o.2) := by
  refine EvM.of mk_X12_years (Nat.le_of_ble_eq_true rfl) ?_
  intro Γ hl hg hq X
  have hd1 : 1 ≤ d := by omega
  have hk : RqI Γ o := hq
  unfold fn_X12_years at hf
  show Jd Γ (0, 0) 0 [some (.ref p0), some (.int p1), some (.int p2), none, none, none, none] [] h
  refine r_aload_n (pc := 0) X dX12_years_0 rfl ?_
  refine r_iconst (pc := 1) X 0 dX12_years_1 (by decide) ?_
  obtain ⟨h1, eh1, hf⟩ := ob hf
  refine r_putI (pc := 2) X dX12_years_2 fp_X12_100 rfl eh1 ?_
  refine r_iload_n (pc := 5) X dX12_years_5 rfl ?_
  refine r_iconst (pc := 6) X 1 dX12_years_6 (by decide) ?_
  refine r_bipush (pc := 7) X 60 dX12_years_7 (by decide) ?_
  obtain ⟨x2, ex2, hf⟩ := ob hf
  refine r_callSI (pc := 9) X [.int p2, .int 1, .int 60] dX12_years_9 ml_X12_110 so_X12_in ⟨Nat.le_refl _, Nat.le_refl _⟩ (ev_X12_in (d := d - 1) (by omega) _ _ _ _ _ ex2) hd1 rfl (Nat.le_of_ble_eq_true rfl) rfl ?_
  refine r_if_ne (pc := 12) X 17 dX12_years_12 (by decide) (fun c69 => ?_) (fun c69 => ?_)
  · rw [if_neg c69] at hf
    refine r_aload_n (pc := 17) X dX12_years_17 rfl ?_
    refine r_iload_n (pc := 18) X dX12_years_18 rfl ?_
    obtain ⟨h3, eh3, hf⟩ := ob hf
    refine r_putI (pc := 19) X dX12_years_19 fp_X12_407 rfl eh3 ?_
    refine r_aload_n (pc := 22) X dX12_years_22 rfl ?_
    obtain ⟨a4, ea4, hf⟩ := ob hf
    refine r_getR (pc := 23) X dX12_years_23 fl_X12_9 rfl ea4 ?_
    refine r_aload_n (pc := 26) X dX12_years_26 rfl ?_
    obtain ⟨a5, ea5, hf⟩ := ob hf
    refine r_getR (pc := 27) X dX12_years_27 fl_X12_48 rfl ea5 ?_
    refine r_iconst (pc := 30) X 0 dX12_years_30 (by decide) ?_
    obtain ⟨h6, eh6, hf⟩ := ob hf
    refine r_callSV (pc := 31) X [.ref a4, .ref a5, .int 0] dX12_years_31 ml_X12_242 so_X12_lay ⟨Nat.le_refl _, Nat.le_refl _⟩ (ev_X12_lay (d := d - 1) (by omega) _ _ _ _ _ eh6) hd1 rfl (Nat.le_of_ble_eq_true rfl) rfl ?_
    refine r_aload_n (pc := 34) X dX12_years_34 rfl ?_
    obtain ⟨u7, eu7, hf⟩ := ob hf
    obtain ⟨h8, eh8, hf⟩ := ob hf
    refine r_callVV (pc := 35) X [] dX12_years_35 ml_X12_264 vo_X12_clear ⟨Nat.le_refl _, Nat.le_refl _⟩ eu7 (ev_X12_clear (d := d - 1) (by omega) _ _ _ eh8) hd1 rfl (Nat.le_of_ble_eq_true rfl) rfl ?_
    refine r_iconst (pc := 38) X 0 dX12_years_38 (by decide) ?_
    refine r_istore_n (pc := 39) X [some (.ref p0), some (.int p1), some (.int p2), some (.int 0), none, none, none] dX12_years_39 (by decide) rfl ?_
    obtain ⟨o53, eo53, hf⟩ := ob hf
    refine (lw_X12_years_40 X hd _ _ lpN _ o53 eo53 ?_) _ _ _ _
    intro j54 j55 j56 j57 j58
    refine r_aload_n (pc := 177) X dX12_years_177 rfl ?_
    refine r_iconst (pc := 178) X 0 dX12_years_178 (by decide) ?_
    obtain ⟨h59, eh59, hf⟩ := ob hf
    refine r_putI (pc := 179) X dX12_years_179 fp_X12_104 rfl eh59 ?_
    refine r_aload_n (pc := 182) X dX12_years_182 rfl ?_
    refine r_aload_n (pc := 183) X dX12_years_183 rfl ?_
    obtain ⟨x60, ex60, hf⟩ := ob hf
    refine r_getI (pc := 184) X dX12_years_184 fl_X12_246 rfl ex60 ?_
    refine r_i2l (pc := 187) X dX12_years_187 ?_
    obtain ⟨u61, eu61, hf⟩ := ob hf
    obtain ⟨h62, eh62, hf⟩ := ob hf
    refine r_callVV (pc := 188) X [.long (Int32.toInt64 x60)] dX12_years_188 ml_X12_274 vo_X12_tell ⟨Nat.le_refl _, Nat.le_refl _⟩ eu61 (ev_X12_tell (d := d - 1) (by omega) _ _ _ _ eh62) hd1 rfl (Nat.le_of_ble_eq_true rfl) rfl ?_
    refine r_aload_n (pc := 191) X dX12_years_191 rfl ?_
    refine r_aload_n (pc := 192) X dX12_years_192 rfl ?_
    obtain ⟨x63, ex63, hf⟩ := ob hf
    refine r_getI (pc := 193) X dX12_years_193 fl_X12_249 rfl ex63 ?_
    refine r_i2l (pc := 196) X dX12_years_196 ?_
    obtain ⟨u64, eu64, hf⟩ := ob hf
    obtain ⟨h65, eh65, hf⟩ := ob hf
    refine r_callVV (pc := 197) X [.long (Int32.toInt64 x63)] dX12_years_197 ml_X12_274 vo_X12_tell ⟨Nat.le_refl _, Nat.le_refl _⟩ eu64 (ev_X12_tell (d := d - 1) (by omega) _ _ _ _ eh65) hd1 rfl (Nat.le_of_ble_eq_true rfl) rfl ?_
    refine r_aload_n (pc := 200) X dX12_years_200 rfl ?_
    refine r_aload_n (pc := 201) X dX12_years_201 rfl ?_
    obtain ⟨a66, ea66, hf⟩ := ob hf
    refine r_getR (pc := 202) X dX12_years_202 fl_X12_48 rfl ea66 ?_
    refine r_iconst (pc := 205) X 0 dX12_years_205 (by decide) ?_
    obtain ⟨u67, eu67, hf⟩ := ob hf
    obtain ⟨x68, ex68, hf⟩ := ob hf
    refine r_callVI (pc := 206) X [.ref a66, .int 0] dX12_years_206 ml_X12_239 vo_X12_sumOf ⟨Nat.le_refl _, Nat.le_refl _⟩ eu67 (ev_X12_sumOf (d := d - 1) (by omega) _ _ _ _ _ ex68) hd1 rfl (Nat.le_of_ble_eq_true rfl) rfl ?_
    obtain rfl := Option.some.inj hf
    exact r_iret (pc := 209) X dX12_years_209 hk
  · rw [if_pos c69] at hf
    refine r_iconst (pc := 15) X (-1) dX12_years_15 (by decide) ?_
    obtain rfl := Option.some.inj hf
    exact r_iret (pc := 16) X dX12_years_16 hk

theorem dX12_keep_0 : decode cX12_keep 0 = .ok (.aload_n 0, 1) := by decide +kernel
theorem dX12_keep_1 : decode cX12_keep 1 = .ok (.iconst 0, 1) := by decide +kernel
theorem dX12_keep_2 : decode cX12_keep 2 = .ok (.putfield 100, 3) := by decide +kernel
theorem dX12_keep_5 : decode cX12_keep 5 = .ok (.iload_n 1, 1) := by decide +kernel
theorem dX12_keep_6 : decode cX12_keep 6 = .ok (.iconst 0, 1) := by decide +kernel
theorem dX12_keep_7 : decode cX12_keep 7 = .ok (.iconst 1, 1) := by decide +kernel
theorem dX12_keep_8 : decode cX12_keep 8 = .ok (.invokestatic 110, 3) := by decide +kernel
theorem dX12_keep_11 : decode cX12_keep 11 = .ok (.ifCond .ne 5, 3) := by decide +kernel
theorem dX12_keep_14 : decode cX12_keep 14 = .ok (.iconst 0, 1) := by decide +kernel
theorem dX12_keep_15 : decode cX12_keep 15 = .ok (.ireturn, 1) := by decide +kernel
theorem dX12_keep_16 : decode cX12_keep 16 = .ok (.aload_n 0, 1) := by decide +kernel
theorem dX12_keep_17 : decode cX12_keep 17 = .ok (.getfield 94, 3) := by decide +kernel
theorem dX12_keep_20 : decode cX12_keep 20 = .ok (.iload_n 1, 1) := by decide +kernel
theorem dX12_keep_21 : decode cX12_keep 21 = .ok (.iconst 1, 1) := by decide +kernel
theorem dX12_keep_22 : decode cX12_keep 22 = .ok (.bastore, 1) := by decide +kernel
theorem dX12_keep_23 : decode cX12_keep 23 = .ok (.aload_n 0, 1) := by decide +kernel
theorem dX12_keep_24 : decode cX12_keep 24 = .ok (.getfield 97, 3) := by decide +kernel
theorem dX12_keep_27 : decode cX12_keep 27 = .ok (.iload_n 1, 1) := by decide +kernel
theorem dX12_keep_28 : decode cX12_keep 28 = .ok (.aload_n 0, 1) := by decide +kernel
theorem dX12_keep_29 : decode cX12_keep 29 = .ok (.getfield 166, 3) := by decide +kernel
theorem dX12_keep_32 : decode cX12_keep 32 = .ok (.iastore, 1) := by decide +kernel
theorem dX12_keep_33 : decode cX12_keep 33 = .ok (.aload_n 0, 1) := by decide +kernel
theorem dX12_keep_34 : decode cX12_keep 34 = .ok (.getfield 9, 3) := by decide +kernel
theorem dX12_keep_37 : decode cX12_keep 37 = .ok (.aload_n 0, 1) := by decide +kernel
theorem dX12_keep_38 : decode cX12_keep 38 = .ok (.getfield 91, 3) := by decide +kernel
theorem dX12_keep_41 : decode cX12_keep 41 = .ok (.bipush 16, 2) := by decide +kernel
theorem dX12_keep_43 : decode cX12_keep 43 = .ok (.iload_n 1, 1) := by decide +kernel
theorem dX12_keep_44 : decode cX12_keep 44 = .ok (.imul, 1) := by decide +kernel
theorem dX12_keep_45 : decode cX12_keep 45 = .ok (.invokestatic 242, 3) := by decide +kernel
theorem dX12_keep_48 : decode cX12_keep 48 = .ok (.iconst 1, 1) := by decide +kernel
theorem dX12_keep_49 : decode cX12_keep 49 = .ok (.ireturn, 1) := by decide +kernel
def fn_X12_keep (h : aH) (p0 : Nat) (p1 : Int32) : Option (Int32 × aH) :=
  (pI h p0 11 11 0).bind fun h1 =>
  (fn_X12_in h1 p1 0 1).bind fun x2 =>
  if x2 = 0 then
    some (0, h1)
  else
    (gR h1 p0 11 48).bind fun a3 =>
    (wZ h1 a3 p1 1).bind fun h4 =>
    (gR h4 p0 11 49).bind fun a5 =>
    (gI h4 p0 11 46).bind fun x6 =>
    (wI h4 a5 p1 x6).bind fun h7 =>
    (gR h7 p0 11 0).bind fun a8 =>
    (gR h7 p0 11 47).bind fun a9 =>
    (fn_X12_lay h7 a8 a9 (16 * p1)).bind fun h10 =>
    some (1, h10)
set_option maxRecDepth 20000 in
set_option maxHeartbeats 4000000 in
theorem ev_X12_keep {l : Launch} {g : aG} {d : Nat} (hd : 1 ≤ d) (h : aH) (p0 : Nat) (p1 : Int32) (o : Int32 × aH) (hf : fn_X12_keep h p0 p1 = some o) : EvM l g d yX12_keep cX12_keep 2 (some .boolean) [.ref p0, .int p1] h (some (.int o.1), o.2) := by
  refine EvM.of mk_X12_keep (Nat.le_of_ble_eq_true rfl) ?_
  intro Γ hl hg hq X
  have hd1 : 1 ≤ d := by omega
  have hk : RqI Γ o := hq
  unfold fn_X12_keep at hf
  show Jd Γ (0, 0) 0 [some (.ref p0), some (.int p1)] [] h
  refine r_aload_n (pc := 0) X dX12_keep_0 rfl ?_
  refine r_iconst (pc := 1) X 0 dX12_keep_1 (by decide) ?_
  obtain ⟨h1, eh1, hf⟩ := ob hf
  refine r_putI (pc := 2) X dX12_keep_2 fp_X12_100 rfl eh1 ?_
  refine r_iload_n (pc := 5) X dX12_keep_5 rfl ?_
  refine r_iconst (pc := 6) X 0 dX12_keep_6 (by decide) ?_
  refine r_iconst (pc := 7) X 1 dX12_keep_7 (by decide) ?_
  obtain ⟨x2, ex2, hf⟩ := ob hf
  refine r_callSI (pc := 8) X [.int p1, .int 0, .int 1] dX12_keep_8 ml_X12_110 so_X12_in ⟨Nat.le_refl _, Nat.le_refl _⟩ (ev_X12_in (d := d - 1) (by omega) _ _ _ _ _ ex2) hd1 rfl (Nat.le_of_ble_eq_true rfl) rfl ?_
  refine r_if_ne (pc := 11) X 16 dX12_keep_11 (by decide) (fun c11 => ?_) (fun c11 => ?_)
  · rw [if_neg c11] at hf
    refine r_aload_n (pc := 16) X dX12_keep_16 rfl ?_
    obtain ⟨a3, ea3, hf⟩ := ob hf
    refine r_getR (pc := 17) X dX12_keep_17 fl_X12_94 rfl ea3 ?_
    refine r_iload_n (pc := 20) X dX12_keep_20 rfl ?_
    refine r_iconst (pc := 21) X 1 dX12_keep_21 (by decide) ?_
    obtain ⟨h4, eh4, hf⟩ := ob hf
    refine r_zast (pc := 22) X dX12_keep_22 eh4 ?_
    refine r_aload_n (pc := 23) X dX12_keep_23 rfl ?_
    obtain ⟨a5, ea5, hf⟩ := ob hf
    refine r_getR (pc := 24) X dX12_keep_24 fl_X12_97 rfl ea5 ?_
    refine r_iload_n (pc := 27) X dX12_keep_27 rfl ?_
    refine r_aload_n (pc := 28) X dX12_keep_28 rfl ?_
    obtain ⟨x6, ex6, hf⟩ := ob hf
    refine r_getI (pc := 29) X dX12_keep_29 fl_X12_166 rfl ex6 ?_
    obtain ⟨h7, eh7, hf⟩ := ob hf
    refine r_iast (pc := 32) X dX12_keep_32 eh7 ?_
    refine r_aload_n (pc := 33) X dX12_keep_33 rfl ?_
    obtain ⟨a8, ea8, hf⟩ := ob hf
    refine r_getR (pc := 34) X dX12_keep_34 fl_X12_9 rfl ea8 ?_
    refine r_aload_n (pc := 37) X dX12_keep_37 rfl ?_
    obtain ⟨a9, ea9, hf⟩ := ob hf
    refine r_getR (pc := 38) X dX12_keep_38 fl_X12_91 rfl ea9 ?_
    refine r_bipush (pc := 41) X 16 dX12_keep_41 (by decide) ?_
    refine r_iload_n (pc := 43) X dX12_keep_43 rfl ?_
    refine r_imul (pc := 44) X dX12_keep_44 ?_
    obtain ⟨h10, eh10, hf⟩ := ob hf
    refine r_callSV (pc := 45) X [.ref a8, .ref a9, .int (16 * p1)] dX12_keep_45 ml_X12_242 so_X12_lay ⟨Nat.le_refl _, Nat.le_refl _⟩ (ev_X12_lay (d := d - 1) (by omega) _ _ _ _ _ eh10) hd1 rfl (Nat.le_of_ble_eq_true rfl) rfl ?_
    refine r_iconst (pc := 48) X 1 dX12_keep_48 (by decide) ?_
    obtain rfl := Option.some.inj hf
    exact r_zret (pc := 49) X dX12_keep_49 (Or.inr rfl) hk
  · rw [if_pos c11] at hf
    refine r_iconst (pc := 14) X 0 dX12_keep_14 (by decide) ?_
    obtain rfl := Option.some.inj hf
    exact r_zret (pc := 15) X dX12_keep_15 (Or.inl rfl) hk

theorem dX12_again_0 : decode cX12_again 0 = .ok (.aload_n 0, 1) := by decide +kernel
theorem dX12_again_1 : decode cX12_again 1 = .ok (.iconst 0, 1) := by decide +kernel
theorem dX12_again_2 : decode cX12_again 2 = .ok (.putfield 100, 3) := by decide +kernel
theorem dX12_again_5 : decode cX12_again 5 = .ok (.iload_n 1, 1) := by decide +kernel
theorem dX12_again_6 : decode cX12_again 6 = .ok (.iconst 0, 1) := by decide +kernel
theorem dX12_again_7 : decode cX12_again 7 = .ok (.iconst 1, 1) := by decide +kernel
theorem dX12_again_8 : decode cX12_again 8 = .ok (.invokestatic 110, 3) := by decide +kernel
theorem dX12_again_11 : decode cX12_again 11 = .ok (.ifCond .eq 25, 3) := by decide +kernel
theorem dX12_again_14 : decode cX12_again 14 = .ok (.aload_n 0, 1) := by decide +kernel
theorem dX12_again_15 : decode cX12_again 15 = .ok (.getfield 94, 3) := by decide +kernel
theorem dX12_again_18 : decode cX12_again 18 = .ok (.iload_n 1, 1) := by decide +kernel
theorem dX12_again_19 : decode cX12_again 19 = .ok (.baload, 1) := by decide +kernel
theorem dX12_again_20 : decode cX12_again 20 = .ok (.ifCond .eq 16, 3) := by decide +kernel
theorem dX12_again_23 : decode cX12_again 23 = .ok (.aload_n 0, 1) := by decide +kernel
theorem dX12_again_24 : decode cX12_again 24 = .ok (.getfield 97, 3) := by decide +kernel
theorem dX12_again_27 : decode cX12_again 27 = .ok (.iload_n 1, 1) := by decide +kernel
theorem dX12_again_28 : decode cX12_again 28 = .ok (.iaload, 1) := by decide +kernel
theorem dX12_again_29 : decode cX12_again 29 = .ok (.aload_n 0, 1) := by decide +kernel
theorem dX12_again_30 : decode cX12_again 30 = .ok (.getfield 166, 3) := by decide +kernel
theorem dX12_again_33 : decode cX12_again 33 = .ok (.if_icmp .eq 5, 3) := by decide +kernel
theorem dX12_again_36 : decode cX12_again 36 = .ok (.iconst 0, 1) := by decide +kernel
theorem dX12_again_37 : decode cX12_again 37 = .ok (.ireturn, 1) := by decide +kernel
theorem dX12_again_38 : decode cX12_again 38 = .ok (.iconst 0, 1) := by decide +kernel
theorem dX12_again_39 : decode cX12_again 39 = .ok (.istore_n 2, 1) := by decide +kernel
theorem dX12_again_40 : decode cX12_again 40 = .ok (.iload_n 2, 1) := by decide +kernel
theorem dX12_again_41 : decode cX12_again 41 = .ok (.bipush 16, 2) := by decide +kernel
theorem dX12_again_43 : decode cX12_again 43 = .ok (.if_icmp .ge 26, 3) := by decide +kernel
theorem dX12_again_46 : decode cX12_again 46 = .ok (.aload_n 0, 1) := by decide +kernel
theorem dX12_again_47 : decode cX12_again 47 = .ok (.getfield 9, 3) := by decide +kernel
theorem dX12_again_50 : decode cX12_again 50 = .ok (.iload_n 2, 1) := by decide +kernel
theorem dX12_again_51 : decode cX12_again 51 = .ok (.aload_n 0, 1) := by decide +kernel
theorem dX12_again_52 : decode cX12_again 52 = .ok (.getfield 91, 3) := by decide +kernel
theorem dX12_again_55 : decode cX12_again 55 = .ok (.bipush 16, 2) := by decide +kernel
theorem dX12_again_57 : decode cX12_again 57 = .ok (.iload_n 1, 1) := by decide +kernel
theorem dX12_again_58 : decode cX12_again 58 = .ok (.imul, 1) := by decide +kernel
theorem dX12_again_59 : decode cX12_again 59 = .ok (.iload_n 2, 1) := by decide +kernel
theorem dX12_again_60 : decode cX12_again 60 = .ok (.iadd, 1) := by decide +kernel
theorem dX12_again_61 : decode cX12_again 61 = .ok (.iaload, 1) := by decide +kernel
theorem dX12_again_62 : decode cX12_again 62 = .ok (.iastore, 1) := by decide +kernel
theorem dX12_again_63 : decode cX12_again 63 = .ok (.iinc 2 1, 3) := by decide +kernel
theorem dX12_again_66 : decode cX12_again 66 = .ok (.goto (-26), 3) := by decide +kernel
theorem dX12_again_69 : decode cX12_again 69 = .ok (.aload_n 0, 1) := by decide +kernel
theorem dX12_again_70 : decode cX12_again 70 = .ok (.iconst 0, 1) := by decide +kernel
theorem dX12_again_71 : decode cX12_again 71 = .ok (.putfield 163, 3) := by decide +kernel
theorem dX12_again_74 : decode cX12_again 74 = .ok (.iconst 1, 1) := by decide +kernel
theorem dX12_again_75 : decode cX12_again 75 = .ok (.ireturn, 1) := by decide +kernel
def lb_X12_again_40 (v0 : Nat) (v1 : Int32) (s : Int32 × aH) : Option ((Int32 × aH) ⊕ ((aH))) :=
  if s.1 < 16 then
    (gR s.2 v0 11 0).bind fun a8 =>
    (gR s.2 v0 11 47).bind fun a9 =>
    (aI s.2 a9 14 ((16 * v1) + s.1)).bind fun x10 =>
    (wI s.2 a8 s.1 x10).bind fun h11 =>
    (some (s.1 + 1)).bind fun x12 =>
    some (.inl (x12, h11))
  else
    some (.inr s.2)
def hd_X12_again_40 (Γ : aC) (v0 : Nat) (v1 : Int32) (s : Int32 × aH) : Prop := Jd Γ (0, 0) 40 [some (.ref v0), some (.int v1), some (.int s.1)] [] s.2
def ex_X12_again_40 (Γ : aC) (v0 : Nat) (v1 : Int32) (r : (aH)) : Prop := (fun r => ∀ (j2 : Option Value), Jd Γ (0, 0) 69 [some (.ref v0), some (.int v1), j2] [] r) r
set_option maxRecDepth 20000 in
set_option maxHeartbeats 4000000 in
theorem lw_X12_again_40 {Γ : aC} {d : Nat} (X : Cx Γ RX12 cX12_again 3 (some .boolean) (d, 0, 0)) (hd : 1 ≤ d) (v0 : Nat) (v1 : Int32) : ∀ n s o, lp (lb_X12_again_40 v0 v1) n s = some o → ex_X12_again_40 Γ v0 v1 o → hd_X12_again_40 Γ v0 v1 s := by
  have hd1 : 1 ≤ d := by omega
  refine J_lp _ _ _ ?_
  intro s o hf hk
  unfold lb_X12_again_40 at hf
  refine r_iload_n (pc := 40) X dX12_again_40 rfl ?_
  refine r_bipush (pc := 41) X 16 dX12_again_41 (by decide) ?_
  refine r_icmp_ge (pc := 43) X 69 dX12_again_43 (by decide) (fun c13 => ?_) (fun c13 => ?_)
  · rw [if_neg c13] at hf
    obtain rfl := Option.some.inj hf
    exact hk _
  · rw [if_pos c13] at hf
    refine r_aload_n (pc := 46) X dX12_again_46 rfl ?_
    obtain ⟨a8, ea8, hf⟩ := ob hf
    refine r_getR (pc := 47) X dX12_again_47 fl_X12_9 rfl ea8 ?_
    refine r_iload_n (pc := 50) X dX12_again_50 rfl ?_
    refine r_aload_n (pc := 51) X dX12_again_51 rfl ?_
    obtain ⟨a9, ea9, hf⟩ := ob hf
    refine r_getR (pc := 52) X dX12_again_52 fl_X12_91 rfl ea9 ?_
    refine r_bipush (pc := 55) X 16 dX12_again_55 (by decide) ?_
    refine r_iload_n (pc := 57) X dX12_again_57 rfl ?_
    refine r_imul (pc := 58) X dX12_again_58 ?_
    refine r_iload_n (pc := 59) X dX12_again_59 rfl ?_
    refine r_iadd (pc := 60) X dX12_again_60 ?_
    obtain ⟨x10, ex10, hf⟩ := ob hf
    refine r_iald (pc := 61) X dX12_again_61 ex10 ?_
    obtain ⟨h11, eh11, hf⟩ := ob hf
    refine r_iast (pc := 62) X dX12_again_62 eh11 ?_
    obtain ⟨x12, ex12, hf⟩ := ob hf
    refine r_iinc2 (pc := 63) X 1 [some (.ref v0), some (.int v1), some (.int x12)] dX12_again_63 (by decide) rfl (by decide) ex12 rfl ?_
    refine r_goto (pc := 66) X 40 dX12_again_66 (by decide) ?_
    obtain rfl := Option.some.inj hf
    exact hk
def fn_X12_again (h : aH) (p0 : Nat) (p1 : Int32) : Option (Int32 × aH) :=
  (pI h p0 11 11 0).bind fun h1 =>
  (fn_X12_in h1 p1 0 1).bind fun x2 =>
  if x2 = 0 then
    some (0, h1)
  else
    (gR h1 p0 11 48).bind fun a3 =>
    (aI h1 a3 16 p1).bind fun x4 =>
    if x4 = 0 then
      some (0, h1)
    else
      (gR h1 p0 11 49).bind fun a5 =>
      (aI h1 a5 14 p1).bind fun x6 =>
      (gI h1 p0 11 46).bind fun x7 =>
      if x6 = x7 then
        (lp (lb_X12_again_40 p0 p1) lpN (0, h1)).bind fun o14 =>
        (pI o14 p0 11 24 0).bind fun h16 =>
        some (1, h16)
      else
        some (0, h1)
set_option maxRecDepth 20000 in
set_option maxHeartbeats 4000000 in
theorem ev_X12_again {l : Launch} {g : aG} {d : Nat} (hd : 1 ≤ d) (h : aH) (p0 : Nat) (p1 : Int32) (o : Int32 × aH) (hf : fn_X12_again h p0 p1 = some o) : EvM l g d yX12_again cX12_again 3 (some .boolean) [.ref p0, .int p1] h (some (.int o.1), o.2) := by
  refine EvM.of mk_X12_again (Nat.le_of_ble_eq_true rfl) ?_
  intro Γ hl hg hq X
  have hd1 : 1 ≤ d := by omega
  have hk : RqI Γ o := hq
  unfold fn_X12_again at hf
  show Jd Γ (0, 0) 0 [some (.ref p0), some (.int p1), none] [] h
  refine r_aload_n (pc := 0) X dX12_again_0 rfl ?_
  refine r_iconst (pc := 1) X 0 dX12_again_1 (by decide) ?_
  obtain ⟨h1, eh1, hf⟩ := ob hf
  refine r_putI (pc := 2) X dX12_again_2 fp_X12_100 rfl eh1 ?_
  refine r_iload_n (pc := 5) X dX12_again_5 rfl ?_
  refine r_iconst (pc := 6) X 0 dX12_again_6 (by decide) ?_
  refine r_iconst (pc := 7) X 1 dX12_again_7 (by decide) ?_
  obtain ⟨x2, ex2, hf⟩ := ob hf
  refine r_callSI (pc := 8) X [.int p1, .int 0, .int 1] dX12_again_8 ml_X12_110 so_X12_in ⟨Nat.le_refl _, Nat.le_refl _⟩ (ev_X12_in (d := d - 1) (by omega) _ _ _ _ _ ex2) hd1 rfl (Nat.le_of_ble_eq_true rfl) rfl ?_
  refine r_if_eq (pc := 11) X 36 dX12_again_11 (by decide) (fun c19 => ?_) (fun c19 => ?_)
  · rw [if_pos c19] at hf
    refine r_iconst (pc := 36) X 0 dX12_again_36 (by decide) ?_
    obtain rfl := Option.some.inj hf
    exact r_zret (pc := 37) X dX12_again_37 (Or.inl rfl) hk
  · rw [if_neg c19] at hf
    refine r_aload_n (pc := 14) X dX12_again_14 rfl ?_
    obtain ⟨a3, ea3, hf⟩ := ob hf
    refine r_getR (pc := 15) X dX12_again_15 fl_X12_94 rfl ea3 ?_
    refine r_iload_n (pc := 18) X dX12_again_18 rfl ?_
    obtain ⟨x4, ex4, hf⟩ := ob hf
    refine r_zald (pc := 19) X dX12_again_19 ex4 ?_
    refine r_if_eq (pc := 20) X 36 dX12_again_20 (by decide) (fun c18 => ?_) (fun c18 => ?_)
    · rw [if_pos c18] at hf
      refine r_iconst (pc := 36) X 0 dX12_again_36 (by decide) ?_
      obtain rfl := Option.some.inj hf
      exact r_zret (pc := 37) X dX12_again_37 (Or.inl rfl) hk
    · rw [if_neg c18] at hf
      refine r_aload_n (pc := 23) X dX12_again_23 rfl ?_
      obtain ⟨a5, ea5, hf⟩ := ob hf
      refine r_getR (pc := 24) X dX12_again_24 fl_X12_97 rfl ea5 ?_
      refine r_iload_n (pc := 27) X dX12_again_27 rfl ?_
      obtain ⟨x6, ex6, hf⟩ := ob hf
      refine r_iald (pc := 28) X dX12_again_28 ex6 ?_
      refine r_aload_n (pc := 29) X dX12_again_29 rfl ?_
      obtain ⟨x7, ex7, hf⟩ := ob hf
      refine r_getI (pc := 30) X dX12_again_30 fl_X12_166 rfl ex7 ?_
      refine r_icmp_eq (pc := 33) X 38 dX12_again_33 (by decide) (fun c17 => ?_) (fun c17 => ?_)
      · rw [if_pos c17] at hf
        refine r_iconst (pc := 38) X 0 dX12_again_38 (by decide) ?_
        refine r_istore_n (pc := 39) X [some (.ref p0), some (.int p1), some (.int 0)] dX12_again_39 (by decide) rfl ?_
        obtain ⟨o14, eo14, hf⟩ := ob hf
        refine (lw_X12_again_40 X hd _ _ lpN _ o14 eo14 ?_)
        intro j15
        refine r_aload_n (pc := 69) X dX12_again_69 rfl ?_
        refine r_iconst (pc := 70) X 0 dX12_again_70 (by decide) ?_
        obtain ⟨h16, eh16, hf⟩ := ob hf
        refine r_putI (pc := 71) X dX12_again_71 fp_X12_163 rfl eh16 ?_
        refine r_iconst (pc := 74) X 1 dX12_again_74 (by decide) ?_
        obtain rfl := Option.some.inj hf
        exact r_zret (pc := 75) X dX12_again_75 (Or.inr rfl) hk
      · rw [if_neg c17] at hf
        refine r_iconst (pc := 36) X 0 dX12_again_36 (by decide) ?_
        obtain rfl := Option.some.inj hf
        exact r_zret (pc := 37) X dX12_again_37 (Or.inl rfl) hk

theorem dX12_allMarked_0 : decode cX12_allMarked 0 = .ok (.iconst 0, 1) := by decide +kernel
theorem dX12_allMarked_1 : decode cX12_allMarked 1 = .ok (.istore_n 1, 1) := by decide +kernel
theorem dX12_allMarked_2 : decode cX12_allMarked 2 = .ok (.iconst 0, 1) := by decide +kernel
theorem dX12_allMarked_3 : decode cX12_allMarked 3 = .ok (.istore_n 2, 1) := by decide +kernel
theorem dX12_allMarked_4 : decode cX12_allMarked 4 = .ok (.iload_n 2, 1) := by decide +kernel
theorem dX12_allMarked_5 : decode cX12_allMarked 5 = .ok (.aload_n 0, 1) := by decide +kernel
theorem dX12_allMarked_6 : decode cX12_allMarked 6 = .ok (.getfield 107, 3) := by decide +kernel
theorem dX12_allMarked_9 : decode cX12_allMarked 9 = .ok (.if_icmp .ge 31, 3) := by decide +kernel
theorem dX12_allMarked_12 : decode cX12_allMarked 12 = .ok (.iload_n 1, 1) := by decide +kernel
theorem dX12_allMarked_13 : decode cX12_allMarked 13 = .ok (.aload_n 0, 1) := by decide +kernel
theorem dX12_allMarked_14 : decode cX12_allMarked 14 = .ok (.aload_n 0, 1) := by decide +kernel
theorem dX12_allMarked_15 : decode cX12_allMarked 15 = .ok (.getfield 9, 3) := by decide +kernel
theorem dX12_allMarked_18 : decode cX12_allMarked 18 = .ok (.iload_n 2, 1) := by decide +kernel
theorem dX12_allMarked_19 : decode cX12_allMarked 19 = .ok (.invokevirtual 306, 3) := by decide +kernel
theorem dX12_allMarked_22 : decode cX12_allMarked 22 = .ok (.ifCond .eq 9, 3) := by decide +kernel
theorem dX12_allMarked_25 : decode cX12_allMarked 25 = .ok (.iconst 1, 1) := by decide +kernel
theorem dX12_allMarked_26 : decode cX12_allMarked 26 = .ok (.iload_n 2, 1) := by decide +kernel
theorem dX12_allMarked_27 : decode cX12_allMarked 27 = .ok (.ishl, 1) := by decide +kernel
theorem dX12_allMarked_28 : decode cX12_allMarked 28 = .ok (.goto 4, 3) := by decide +kernel
theorem dX12_allMarked_31 : decode cX12_allMarked 31 = .ok (.iconst 0, 1) := by decide +kernel
theorem dX12_allMarked_32 : decode cX12_allMarked 32 = .ok (.ior, 1) := by decide +kernel
theorem dX12_allMarked_33 : decode cX12_allMarked 33 = .ok (.istore_n 1, 1) := by decide +kernel
theorem dX12_allMarked_34 : decode cX12_allMarked 34 = .ok (.iinc 2 1, 3) := by decide +kernel
theorem dX12_allMarked_37 : decode cX12_allMarked 37 = .ok (.goto (-33), 3) := by decide +kernel
theorem dX12_allMarked_40 : decode cX12_allMarked 40 = .ok (.iload_n 1, 1) := by decide +kernel
theorem dX12_allMarked_41 : decode cX12_allMarked 41 = .ok (.ireturn, 1) := by decide +kernel
def lb_X12_allMarked_4 (hh : aH) (v0 : Nat) (s : Int32 × Int32) : Option ((Int32 × Int32) ⊕ ((Int32))) :=
  (gI hh v0 11 1).bind fun x1 =>
  if s.2 < x1 then
    (gR hh v0 11 0).bind fun a2 =>
    (ck hh v0 11).bind fun u3 =>
    (fn_X12_isMarked hh v0 a2 s.2).bind fun x4 =>
    if x4 = 0 then
      (some (s.1 ||| 0)).bind fun x5 =>
      (some (s.2 + 1)).bind fun x6 =>
      some (.inl (x5, x6))
    else
      (some (s.1 ||| (1 <<< (s.2 &&& 31)))).bind fun x7 =>
      (some (s.2 + 1)).bind fun x8 =>
      some (.inl (x7, x8))
  else
    some (.inr s.1)
def hd_X12_allMarked_4 (Γ : aC) (hh : aH) (v0 : Nat) (s : Int32 × Int32) : Prop := Jd Γ (0, 0) 4 [some (.ref v0), some (.int s.1), some (.int s.2)] [] hh
def ex_X12_allMarked_4 (Γ : aC) (hh : aH) (v0 : Nat) (r : (Int32)) : Prop := (fun r => RpI hh Γ r) r
set_option maxRecDepth 20000 in
set_option maxHeartbeats 4000000 in
theorem lw_X12_allMarked_4 {Γ : aC} {d : Nat} (X : Cx Γ RX12 cX12_allMarked 3 (some .int) (d, 0, 0)) (hd : 1 ≤ d) (hh : aH) (v0 : Nat) : ∀ n s o, lp (lb_X12_allMarked_4 hh v0) n s = some o → ex_X12_allMarked_4 Γ hh v0 o → hd_X12_allMarked_4 Γ hh v0 s := by
  have hd1 : 1 ≤ d := by omega
  refine J_lp _ _ _ ?_
  intro s o hf hk
  unfold lb_X12_allMarked_4 at hf
  refine r_iload_n (pc := 4) X dX12_allMarked_4 rfl ?_
  refine r_aload_n (pc := 5) X dX12_allMarked_5 rfl ?_
  obtain ⟨x1, ex1, hf⟩ := ob hf
  refine r_getI (pc := 6) X dX12_allMarked_6 fl_X12_107 rfl ex1 ?_
  refine r_icmp_ge (pc := 9) X 40 dX12_allMarked_9 (by decide) (fun c10 => ?_) (fun c10 => ?_)
  · rw [if_neg c10] at hf
    refine r_iload_n (pc := 40) X dX12_allMarked_40 rfl ?_
    obtain rfl := Option.some.inj hf
    exact r_iret (pc := 41) X dX12_allMarked_41 hk
  · rw [if_pos c10] at hf
    refine r_iload_n (pc := 12) X dX12_allMarked_12 rfl ?_
    refine r_aload_n (pc := 13) X dX12_allMarked_13 rfl ?_
    refine r_aload_n (pc := 14) X dX12_allMarked_14 rfl ?_
    obtain ⟨a2, ea2, hf⟩ := ob hf
    refine r_getR (pc := 15) X dX12_allMarked_15 fl_X12_9 rfl ea2 ?_
    refine r_iload_n (pc := 18) X dX12_allMarked_18 rfl ?_
    obtain ⟨u3, eu3, hf⟩ := ob hf
    obtain ⟨x4, ex4, hf⟩ := ob hf
    refine r_callVI (pc := 19) X [.ref a2, .int s.2] dX12_allMarked_19 ml_X12_306 vo_X12_isMarked ⟨Nat.le_refl _, Nat.le_refl _⟩ eu3 (ev_X12_isMarked (d := d - 1) (by omega) _ _ _ _ _ ex4) hd1 rfl (Nat.le_of_ble_eq_true rfl) rfl ?_
    refine r_if_eq (pc := 22) X 31 dX12_allMarked_22 (by decide) (fun c9 => ?_) (fun c9 => ?_)
    · rw [if_pos c9] at hf
      refine r_iconst (pc := 31) X 0 dX12_allMarked_31 (by decide) ?_
      refine r_ior (pc := 32) X dX12_allMarked_32 ?_
      obtain ⟨x5, ex5, hf⟩ := ob hf
      refine r_nmI ex5 ?_
      refine r_istore_n (pc := 33) X [some (.ref v0), some (.int x5), some (.int s.2)] dX12_allMarked_33 (by decide) rfl ?_
      obtain ⟨x6, ex6, hf⟩ := ob hf
      refine r_iinc2 (pc := 34) X 1 [some (.ref v0), some (.int x5), some (.int x6)] dX12_allMarked_34 (by decide) rfl (by decide) ex6 rfl ?_
      refine r_goto (pc := 37) X 4 dX12_allMarked_37 (by decide) ?_
      obtain rfl := Option.some.inj hf
      exact hk
    · rw [if_neg c9] at hf
      refine r_iconst (pc := 25) X 1 dX12_allMarked_25 (by decide) ?_
      refine r_iload_n (pc := 26) X dX12_allMarked_26 rfl ?_
      refine r_ishl (pc := 27) X dX12_allMarked_27 ?_
      refine r_goto (pc := 28) X 32 dX12_allMarked_28 (by decide) ?_
      refine r_ior (pc := 32) X dX12_allMarked_32 ?_
      obtain ⟨x7, ex7, hf⟩ := ob hf
      refine r_nmI ex7 ?_
      refine r_istore_n (pc := 33) X [some (.ref v0), some (.int x7), some (.int s.2)] dX12_allMarked_33 (by decide) rfl ?_
      obtain ⟨x8, ex8, hf⟩ := ob hf
      refine r_iinc2 (pc := 34) X 1 [some (.ref v0), some (.int x7), some (.int x8)] dX12_allMarked_34 (by decide) rfl (by decide) ex8 rfl ?_
      refine r_goto (pc := 37) X 4 dX12_allMarked_37 (by decide) ?_
      obtain rfl := Option.some.inj hf
      exact hk
def fn_X12_allMarked (h : aH) (p0 : Nat) : Option (Int32) :=
  (lp (lb_X12_allMarked_4 h p0) lpN (0, 0)).bind fun o11 =>
  some o11
set_option maxRecDepth 20000 in
set_option maxHeartbeats 4000000 in
theorem ev_X12_allMarked {l : Launch} {g : aG} {d : Nat} (hd : 1 ≤ d) (h : aH) (p0 : Nat) (o : Int32) (hf : fn_X12_allMarked h p0 = some o) : EvM l g d yX12_allMarked cX12_allMarked 3 (some .int) [.ref p0] h (some (.int o), h) := by
  refine EvM.of mk_X12_allMarked (Nat.le_of_ble_eq_true rfl) ?_
  intro Γ hl hg hq X
  have hd1 : 1 ≤ d := by omega
  have hk : RpI h Γ o := hq
  unfold fn_X12_allMarked at hf
  show Jd Γ (0, 0) 0 [some (.ref p0), none, none] [] h
  refine r_iconst (pc := 0) X 0 dX12_allMarked_0 (by decide) ?_
  refine r_istore_n (pc := 1) X [some (.ref p0), some (.int 0), none] dX12_allMarked_1 (by decide) rfl ?_
  refine r_iconst (pc := 2) X 0 dX12_allMarked_2 (by decide) ?_
  refine r_istore_n (pc := 3) X [some (.ref p0), some (.int 0), some (.int 0)] dX12_allMarked_3 (by decide) rfl ?_
  obtain ⟨o11, eo11, hf⟩ := ob hf
  refine (lw_X12_allMarked_4 X hd _ _ lpN _ o11 eo11 ?_)
  obtain rfl := Option.some.inj hf
  exact hk

theorem dX12_count_0 : decode cX12_count 0 = .ok (.aload_n 0, 1) := by decide +kernel
theorem dX12_count_1 : decode cX12_count 1 = .ok (.iconst 0, 1) := by decide +kernel
theorem dX12_count_2 : decode cX12_count 2 = .ok (.putfield 100, 3) := by decide +kernel
theorem dX12_count_5 : decode cX12_count 5 = .ok (.iload_n 1, 1) := by decide +kernel
theorem dX12_count_6 : decode cX12_count 6 = .ok (.tableswitch 154 0 12 #[66, 71, 76, 84, 92, 102, 113, 121, 129, 134, 139, 144, 149], 66) := by decide +kernel
theorem dX12_count_72 : decode cX12_count 72 = .ok (.aload_n 0, 1) := by decide +kernel
theorem dX12_count_73 : decode cX12_count 73 = .ok (.getfield 107, 3) := by decide +kernel
theorem dX12_count_76 : decode cX12_count 76 = .ok (.ireturn, 1) := by decide +kernel
theorem dX12_count_77 : decode cX12_count 77 = .ok (.aload_n 0, 1) := by decide +kernel
theorem dX12_count_78 : decode cX12_count 78 = .ok (.getfield 118, 3) := by decide +kernel
theorem dX12_count_81 : decode cX12_count 81 = .ok (.ireturn, 1) := by decide +kernel
theorem dX12_count_82 : decode cX12_count 82 = .ok (.aload_n 0, 1) := by decide +kernel
theorem dX12_count_83 : decode cX12_count 83 = .ok (.getfield 9, 3) := by decide +kernel
theorem dX12_count_86 : decode cX12_count 86 = .ok (.bipush 14, 2) := by decide +kernel
theorem dX12_count_88 : decode cX12_count 88 = .ok (.iaload, 1) := by decide +kernel
theorem dX12_count_89 : decode cX12_count 89 = .ok (.ireturn, 1) := by decide +kernel
theorem dX12_count_90 : decode cX12_count 90 = .ok (.aload_n 0, 1) := by decide +kernel
theorem dX12_count_91 : decode cX12_count 91 = .ok (.getfield 9, 3) := by decide +kernel
theorem dX12_count_94 : decode cX12_count 94 = .ok (.bipush 15, 2) := by decide +kernel
theorem dX12_count_96 : decode cX12_count 96 = .ok (.iaload, 1) := by decide +kernel
theorem dX12_count_97 : decode cX12_count 97 = .ok (.ireturn, 1) := by decide +kernel
theorem dX12_count_98 : decode cX12_count 98 = .ok (.aload_n 0, 1) := by decide +kernel
theorem dX12_count_99 : decode cX12_count 99 = .ok (.aload_n 0, 1) := by decide +kernel
theorem dX12_count_100 : decode cX12_count 100 = .ok (.getfield 9, 3) := by decide +kernel
theorem dX12_count_103 : decode cX12_count 103 = .ok (.iconst 0, 1) := by decide +kernel
theorem dX12_count_104 : decode cX12_count 104 = .ok (.invokevirtual 239, 3) := by decide +kernel
theorem dX12_count_107 : decode cX12_count 107 = .ok (.ireturn, 1) := by decide +kernel
theorem dX12_count_108 : decode cX12_count 108 = .ok (.aload_n 0, 1) := by decide +kernel
theorem dX12_count_109 : decode cX12_count 109 = .ok (.aload_n 0, 1) := by decide +kernel
theorem dX12_count_110 : decode cX12_count 110 = .ok (.getfield 9, 3) := by decide +kernel
theorem dX12_count_113 : decode cX12_count 113 = .ok (.bipush 6, 2) := by decide +kernel
theorem dX12_count_115 : decode cX12_count 115 = .ok (.invokevirtual 239, 3) := by decide +kernel
theorem dX12_count_118 : decode cX12_count 118 = .ok (.ireturn, 1) := by decide +kernel
theorem dX12_count_119 : decode cX12_count 119 = .ok (.aload_n 0, 1) := by decide +kernel
theorem dX12_count_120 : decode cX12_count 120 = .ok (.getfield 9, 3) := by decide +kernel
theorem dX12_count_123 : decode cX12_count 123 = .ok (.bipush 12, 2) := by decide +kernel
theorem dX12_count_125 : decode cX12_count 125 = .ok (.iaload, 1) := by decide +kernel
theorem dX12_count_126 : decode cX12_count 126 = .ok (.ireturn, 1) := by decide +kernel
theorem dX12_count_127 : decode cX12_count 127 = .ok (.aload_n 0, 1) := by decide +kernel
theorem dX12_count_128 : decode cX12_count 128 = .ok (.getfield 9, 3) := by decide +kernel
theorem dX12_count_131 : decode cX12_count 131 = .ok (.bipush 13, 2) := by decide +kernel
theorem dX12_count_133 : decode cX12_count 133 = .ok (.iaload, 1) := by decide +kernel
theorem dX12_count_134 : decode cX12_count 134 = .ok (.ireturn, 1) := by decide +kernel
theorem dX12_count_135 : decode cX12_count 135 = .ok (.aload_n 0, 1) := by decide +kernel
theorem dX12_count_136 : decode cX12_count 136 = .ok (.invokevirtual 414, 3) := by decide +kernel
theorem dX12_count_139 : decode cX12_count 139 = .ok (.ireturn, 1) := by decide +kernel
theorem dX12_count_140 : decode cX12_count 140 = .ok (.aload_n 0, 1) := by decide +kernel
theorem dX12_count_141 : decode cX12_count 141 = .ok (.getfield 341, 3) := by decide +kernel
theorem dX12_count_144 : decode cX12_count 144 = .ok (.ireturn, 1) := by decide +kernel
theorem dX12_count_145 : decode cX12_count 145 = .ok (.aload_n 0, 1) := by decide +kernel
theorem dX12_count_146 : decode cX12_count 146 = .ok (.getfield 163, 3) := by decide +kernel
theorem dX12_count_149 : decode cX12_count 149 = .ok (.ireturn, 1) := by decide +kernel
theorem dX12_count_150 : decode cX12_count 150 = .ok (.aload_n 0, 1) := by decide +kernel
theorem dX12_count_151 : decode cX12_count 151 = .ok (.getfield 104, 3) := by decide +kernel
theorem dX12_count_154 : decode cX12_count 154 = .ok (.ireturn, 1) := by decide +kernel
theorem dX12_count_155 : decode cX12_count 155 = .ok (.aload_n 0, 1) := by decide +kernel
theorem dX12_count_156 : decode cX12_count 156 = .ok (.getfield 121, 3) := by decide +kernel
theorem dX12_count_159 : decode cX12_count 159 = .ok (.ireturn, 1) := by decide +kernel
theorem dX12_count_160 : decode cX12_count 160 = .ok (.iconst (-1), 1) := by decide +kernel
theorem dX12_count_161 : decode cX12_count 161 = .ok (.ireturn, 1) := by decide +kernel
def fn_X12_count (h : aH) (p0 : Nat) (p1 : Int32) : Option (Int32 × aH) :=
  (pI h p0 11 11 0).bind fun h1 =>
  if p1 = 0 then
    (gI h1 p0 11 1).bind fun x3 =>
    some (x3, h1)
  else
  if p1 = 1 then
    (gI h1 p0 11 2).bind fun x5 =>
    some (x5, h1)
  else
  if p1 = 2 then
    (gR h1 p0 11 0).bind fun a7 =>
    (aI h1 a7 14 14).bind fun x8 =>
    some (x8, h1)
  else
  if p1 = 3 then
    (gR h1 p0 11 0).bind fun a10 =>
    (aI h1 a10 14 15).bind fun x11 =>
    some (x11, h1)
  else
  if p1 = 4 then
    (gR h1 p0 11 0).bind fun a13 =>
    (ck h1 p0 11).bind fun u14 =>
    (fn_X12_sumOf h1 p0 a13 0).bind fun x15 =>
    some (x15, h1)
  else
  if p1 = 5 then
    (gR h1 p0 11 0).bind fun a17 =>
    (ck h1 p0 11).bind fun u18 =>
    (fn_X12_sumOf h1 p0 a17 6).bind fun x19 =>
    some (x19, h1)
  else
  if p1 = 6 then
    (gR h1 p0 11 0).bind fun a21 =>
    (aI h1 a21 14 12).bind fun x22 =>
    some (x22, h1)
  else
  if p1 = 7 then
    (gR h1 p0 11 0).bind fun a24 =>
    (aI h1 a24 14 13).bind fun x25 =>
    some (x25, h1)
  else
  if p1 = 8 then
    (ck h1 p0 11).bind fun u27 =>
    (fn_X12_allMarked h1 p0).bind fun x28 =>
    some (x28, h1)
  else
  if p1 = 9 then
    (gI h1 p0 11 37).bind fun x30 =>
    some (x30, h1)
  else
  if p1 = 10 then
    (gI h1 p0 11 24).bind fun x32 =>
    some (x32, h1)
  else
  if p1 = 11 then
    (gI h1 p0 11 10).bind fun x34 =>
    some (x34, h1)
  else
  if p1 = 12 then
    (gI h1 p0 11 8).bind fun x36 =>
    some (x36, h1)
  else
  some ((-1), h1)
set_option maxRecDepth 20000 in
set_option maxHeartbeats 4000000 in
theorem ev_X12_count {l : Launch} {g : aG} {d : Nat} (hd : 2 ≤ d) (h : aH) (p0 : Nat) (p1 : Int32) (o : Int32 × aH) (hf : fn_X12_count h p0 p1 = some o) : EvM l g d yX12_count cX12_count 2 (some .int) [.ref p0, .int p1] h (some (.int o.1), o.2) := by
  refine EvM.of mk_X12_count (Nat.le_of_ble_eq_true rfl) ?_
  intro Γ hl hg hq X
  have hd1 : 1 ≤ d := by omega
  have hk : RqI Γ o := hq
  unfold fn_X12_count at hf
  show Jd Γ (0, 0) 0 [some (.ref p0), some (.int p1)] [] h
  refine r_aload_n (pc := 0) X dX12_count_0 rfl ?_
  refine r_iconst (pc := 1) X 0 dX12_count_1 (by decide) ?_
  obtain ⟨h1, eh1, hf⟩ := ob hf
  refine r_putI (pc := 2) X dX12_count_2 fp_X12_100 rfl eh1 ?_
  refine r_iload_n (pc := 5) X dX12_count_5 rfl ?_
  by_cases c2 : p1 = 0
  · rw [if_pos c2] at hf
    refine r_tableIn (pc := 6) X 72 dX12_count_6 (by rw [c2] <;> decide) (by rw [c2] <;> decide) (by rw [c2] <;> rfl) (by decide) ?_
    refine r_aload_n (pc := 72) X dX12_count_72 rfl ?_
    obtain ⟨x3, ex3, hf⟩ := ob hf
    refine r_getI (pc := 73) X dX12_count_73 fl_X12_107 rfl ex3 ?_
    obtain rfl := Option.some.inj hf
    exact r_iret (pc := 76) X dX12_count_76 hk
  rw [if_neg c2] at hf
  by_cases c4 : p1 = 1
  · rw [if_pos c4] at hf
    refine r_tableIn (pc := 6) X 77 dX12_count_6 (by rw [c4] <;> decide) (by rw [c4] <;> decide) (by rw [c4] <;> rfl) (by decide) ?_
    refine r_aload_n (pc := 77) X dX12_count_77 rfl ?_
    obtain ⟨x5, ex5, hf⟩ := ob hf
    refine r_getI (pc := 78) X dX12_count_78 fl_X12_118 rfl ex5 ?_
    obtain rfl := Option.some.inj hf
    exact r_iret (pc := 81) X dX12_count_81 hk
  rw [if_neg c4] at hf
  by_cases c6 : p1 = 2
  · rw [if_pos c6] at hf
    refine r_tableIn (pc := 6) X 82 dX12_count_6 (by rw [c6] <;> decide) (by rw [c6] <;> decide) (by rw [c6] <;> rfl) (by decide) ?_
    refine r_aload_n (pc := 82) X dX12_count_82 rfl ?_
    obtain ⟨a7, ea7, hf⟩ := ob hf
    refine r_getR (pc := 83) X dX12_count_83 fl_X12_9 rfl ea7 ?_
    refine r_bipush (pc := 86) X 14 dX12_count_86 (by decide) ?_
    obtain ⟨x8, ex8, hf⟩ := ob hf
    refine r_iald (pc := 88) X dX12_count_88 ex8 ?_
    obtain rfl := Option.some.inj hf
    exact r_iret (pc := 89) X dX12_count_89 hk
  rw [if_neg c6] at hf
  by_cases c9 : p1 = 3
  · rw [if_pos c9] at hf
    refine r_tableIn (pc := 6) X 90 dX12_count_6 (by rw [c9] <;> decide) (by rw [c9] <;> decide) (by rw [c9] <;> rfl) (by decide) ?_
    refine r_aload_n (pc := 90) X dX12_count_90 rfl ?_
    obtain ⟨a10, ea10, hf⟩ := ob hf
    refine r_getR (pc := 91) X dX12_count_91 fl_X12_9 rfl ea10 ?_
    refine r_bipush (pc := 94) X 15 dX12_count_94 (by decide) ?_
    obtain ⟨x11, ex11, hf⟩ := ob hf
    refine r_iald (pc := 96) X dX12_count_96 ex11 ?_
    obtain rfl := Option.some.inj hf
    exact r_iret (pc := 97) X dX12_count_97 hk
  rw [if_neg c9] at hf
  by_cases c12 : p1 = 4
  · rw [if_pos c12] at hf
    refine r_tableIn (pc := 6) X 98 dX12_count_6 (by rw [c12] <;> decide) (by rw [c12] <;> decide) (by rw [c12] <;> rfl) (by decide) ?_
    refine r_aload_n (pc := 98) X dX12_count_98 rfl ?_
    refine r_aload_n (pc := 99) X dX12_count_99 rfl ?_
    obtain ⟨a13, ea13, hf⟩ := ob hf
    refine r_getR (pc := 100) X dX12_count_100 fl_X12_9 rfl ea13 ?_
    refine r_iconst (pc := 103) X 0 dX12_count_103 (by decide) ?_
    obtain ⟨u14, eu14, hf⟩ := ob hf
    obtain ⟨x15, ex15, hf⟩ := ob hf
    refine r_callVI (pc := 104) X [.ref a13, .int 0] dX12_count_104 ml_X12_239 vo_X12_sumOf ⟨Nat.le_refl _, Nat.le_refl _⟩ eu14 (ev_X12_sumOf (d := d - 1) (by omega) _ _ _ _ _ ex15) hd1 rfl (Nat.le_of_ble_eq_true rfl) rfl ?_
    obtain rfl := Option.some.inj hf
    exact r_iret (pc := 107) X dX12_count_107 hk
  rw [if_neg c12] at hf
  by_cases c16 : p1 = 5
  · rw [if_pos c16] at hf
    refine r_tableIn (pc := 6) X 108 dX12_count_6 (by rw [c16] <;> decide) (by rw [c16] <;> decide) (by rw [c16] <;> rfl) (by decide) ?_
    refine r_aload_n (pc := 108) X dX12_count_108 rfl ?_
    refine r_aload_n (pc := 109) X dX12_count_109 rfl ?_
    obtain ⟨a17, ea17, hf⟩ := ob hf
    refine r_getR (pc := 110) X dX12_count_110 fl_X12_9 rfl ea17 ?_
    refine r_bipush (pc := 113) X 6 dX12_count_113 (by decide) ?_
    obtain ⟨u18, eu18, hf⟩ := ob hf
    obtain ⟨x19, ex19, hf⟩ := ob hf
    refine r_callVI (pc := 115) X [.ref a17, .int 6] dX12_count_115 ml_X12_239 vo_X12_sumOf ⟨Nat.le_refl _, Nat.le_refl _⟩ eu18 (ev_X12_sumOf (d := d - 1) (by omega) _ _ _ _ _ ex19) hd1 rfl (Nat.le_of_ble_eq_true rfl) rfl ?_
    obtain rfl := Option.some.inj hf
    exact r_iret (pc := 118) X dX12_count_118 hk
  rw [if_neg c16] at hf
  by_cases c20 : p1 = 6
  · rw [if_pos c20] at hf
    refine r_tableIn (pc := 6) X 119 dX12_count_6 (by rw [c20] <;> decide) (by rw [c20] <;> decide) (by rw [c20] <;> rfl) (by decide) ?_
    refine r_aload_n (pc := 119) X dX12_count_119 rfl ?_
    obtain ⟨a21, ea21, hf⟩ := ob hf
    refine r_getR (pc := 120) X dX12_count_120 fl_X12_9 rfl ea21 ?_
    refine r_bipush (pc := 123) X 12 dX12_count_123 (by decide) ?_
    obtain ⟨x22, ex22, hf⟩ := ob hf
    refine r_iald (pc := 125) X dX12_count_125 ex22 ?_
    obtain rfl := Option.some.inj hf
    exact r_iret (pc := 126) X dX12_count_126 hk
  rw [if_neg c20] at hf
  by_cases c23 : p1 = 7
  · rw [if_pos c23] at hf
    refine r_tableIn (pc := 6) X 127 dX12_count_6 (by rw [c23] <;> decide) (by rw [c23] <;> decide) (by rw [c23] <;> rfl) (by decide) ?_
    refine r_aload_n (pc := 127) X dX12_count_127 rfl ?_
    obtain ⟨a24, ea24, hf⟩ := ob hf
    refine r_getR (pc := 128) X dX12_count_128 fl_X12_9 rfl ea24 ?_
    refine r_bipush (pc := 131) X 13 dX12_count_131 (by decide) ?_
    obtain ⟨x25, ex25, hf⟩ := ob hf
    refine r_iald (pc := 133) X dX12_count_133 ex25 ?_
    obtain rfl := Option.some.inj hf
    exact r_iret (pc := 134) X dX12_count_134 hk
  rw [if_neg c23] at hf
  by_cases c26 : p1 = 8
  · rw [if_pos c26] at hf
    refine r_tableIn (pc := 6) X 135 dX12_count_6 (by rw [c26] <;> decide) (by rw [c26] <;> decide) (by rw [c26] <;> rfl) (by decide) ?_
    refine r_aload_n (pc := 135) X dX12_count_135 rfl ?_
    obtain ⟨u27, eu27, hf⟩ := ob hf
    obtain ⟨x28, ex28, hf⟩ := ob hf
    refine r_callVI (pc := 136) X [] dX12_count_136 ml_X12_414 vo_X12_allMarked ⟨Nat.le_refl _, Nat.le_refl _⟩ eu27 (ev_X12_allMarked (d := d - 1) (by omega) _ _ _ ex28) hd1 rfl (Nat.le_of_ble_eq_true rfl) rfl ?_
    obtain rfl := Option.some.inj hf
    exact r_iret (pc := 139) X dX12_count_139 hk
  rw [if_neg c26] at hf
  by_cases c29 : p1 = 9
  · rw [if_pos c29] at hf
    refine r_tableIn (pc := 6) X 140 dX12_count_6 (by rw [c29] <;> decide) (by rw [c29] <;> decide) (by rw [c29] <;> rfl) (by decide) ?_
    refine r_aload_n (pc := 140) X dX12_count_140 rfl ?_
    obtain ⟨x30, ex30, hf⟩ := ob hf
    refine r_getI (pc := 141) X dX12_count_141 fl_X12_341 rfl ex30 ?_
    obtain rfl := Option.some.inj hf
    exact r_iret (pc := 144) X dX12_count_144 hk
  rw [if_neg c29] at hf
  by_cases c31 : p1 = 10
  · rw [if_pos c31] at hf
    refine r_tableIn (pc := 6) X 145 dX12_count_6 (by rw [c31] <;> decide) (by rw [c31] <;> decide) (by rw [c31] <;> rfl) (by decide) ?_
    refine r_aload_n (pc := 145) X dX12_count_145 rfl ?_
    obtain ⟨x32, ex32, hf⟩ := ob hf
    refine r_getI (pc := 146) X dX12_count_146 fl_X12_163 rfl ex32 ?_
    obtain rfl := Option.some.inj hf
    exact r_iret (pc := 149) X dX12_count_149 hk
  rw [if_neg c31] at hf
  by_cases c33 : p1 = 11
  · rw [if_pos c33] at hf
    refine r_tableIn (pc := 6) X 150 dX12_count_6 (by rw [c33] <;> decide) (by rw [c33] <;> decide) (by rw [c33] <;> rfl) (by decide) ?_
    refine r_aload_n (pc := 150) X dX12_count_150 rfl ?_
    obtain ⟨x34, ex34, hf⟩ := ob hf
    refine r_getI (pc := 151) X dX12_count_151 fl_X12_104 rfl ex34 ?_
    obtain rfl := Option.some.inj hf
    exact r_iret (pc := 154) X dX12_count_154 hk
  rw [if_neg c33] at hf
  by_cases c35 : p1 = 12
  · rw [if_pos c35] at hf
    refine r_tableIn (pc := 6) X 155 dX12_count_6 (by rw [c35] <;> decide) (by rw [c35] <;> decide) (by rw [c35] <;> rfl) (by decide) ?_
    refine r_aload_n (pc := 155) X dX12_count_155 rfl ?_
    obtain ⟨x36, ex36, hf⟩ := ob hf
    refine r_getI (pc := 156) X dX12_count_156 fl_X12_121 rfl ex36 ?_
    obtain rfl := Option.some.inj hf
    exact r_iret (pc := 159) X dX12_count_159 hk
  rw [if_neg c35] at hf
  have nc2 := lv_neT c2 (show (0 : Int32).toInt = 0 from by decide)
  have nc4 := lv_neT c4 (show (1 : Int32).toInt = 1 from by decide)
  have nc6 := lv_neT c6 (show (2 : Int32).toInt = 2 from by decide)
  have nc9 := lv_neT c9 (show (3 : Int32).toInt = 3 from by decide)
  have nc12 := lv_neT c12 (show (4 : Int32).toInt = 4 from by decide)
  have nc16 := lv_neT c16 (show (5 : Int32).toInt = 5 from by decide)
  have nc20 := lv_neT c20 (show (6 : Int32).toInt = 6 from by decide)
  have nc23 := lv_neT c23 (show (7 : Int32).toInt = 7 from by decide)
  have nc26 := lv_neT c26 (show (8 : Int32).toInt = 8 from by decide)
  have nc29 := lv_neT c29 (show (9 : Int32).toInt = 9 from by decide)
  have nc31 := lv_neT c31 (show (10 : Int32).toInt = 10 from by decide)
  have nc33 := lv_neT c33 (show (11 : Int32).toInt = 11 from by decide)
  have nc35 := lv_neT c35 (show (12 : Int32).toInt = 12 from by decide)
  refine r_tableOut (pc := 6) X 160 dX12_count_6 (by omega) (by decide) ?_
  refine r_iconst (pc := 160) X (-1) dX12_count_160 (by decide) ?_
  obtain rfl := Option.some.inj hf
  exact r_iret (pc := 161) X dX12_count_161 hk

theorem dX12_row_0 : decode cX12_row 0 = .ok (.aload_n 0, 1) := by decide +kernel
theorem dX12_row_1 : decode cX12_row 1 = .ok (.iconst 0, 1) := by decide +kernel
theorem dX12_row_2 : decode cX12_row 2 = .ok (.putfield 100, 3) := by decide +kernel
theorem dX12_row_5 : decode cX12_row 5 = .ok (.iload_n 1, 1) := by decide +kernel
theorem dX12_row_6 : decode cX12_row 6 = .ok (.iconst 0, 1) := by decide +kernel
theorem dX12_row_7 : decode cX12_row 7 = .ok (.aload_n 0, 1) := by decide +kernel
theorem dX12_row_8 : decode cX12_row 8 = .ok (.getfield 104, 3) := by decide +kernel
theorem dX12_row_11 : decode cX12_row 11 = .ok (.iconst 1, 1) := by decide +kernel
theorem dX12_row_12 : decode cX12_row 12 = .ok (.isub, 1) := by decide +kernel
theorem dX12_row_13 : decode cX12_row 13 = .ok (.invokestatic 110, 3) := by decide +kernel
theorem dX12_row_16 : decode cX12_row 16 = .ok (.ifCond .eq 12, 3) := by decide +kernel
theorem dX12_row_19 : decode cX12_row 19 = .ok (.aload_n 0, 1) := by decide +kernel
theorem dX12_row_20 : decode cX12_row 20 = .ok (.getfield 26, 3) := by decide +kernel
theorem dX12_row_23 : decode cX12_row 23 = .ok (.iload_n 1, 1) := by decide +kernel
theorem dX12_row_24 : decode cX12_row 24 = .ok (.laload, 1) := by decide +kernel
theorem dX12_row_25 : decode cX12_row 25 = .ok (.goto 8, 3) := by decide +kernel
theorem dX12_row_28 : decode cX12_row 28 = .ok (.aload_n 0, 1) := by decide +kernel
theorem dX12_row_29 : decode cX12_row 29 = .ok (.invokevirtual 226, 3) := by decide +kernel
theorem dX12_row_32 : decode cX12_row 32 = .ok (.i2l, 1) := by decide +kernel
theorem dX12_row_33 : decode cX12_row 33 = .ok (.lreturn, 1) := by decide +kernel
def fn_X12_row (h : aH) (p0 : Nat) (p1 : Int32) : Option (Int64 × aH) :=
  (pI h p0 11 11 0).bind fun h1 =>
  (gI h1 p0 11 10).bind fun x2 =>
  (fn_X12_in h1 p1 0 (x2 - 1)).bind fun x3 =>
  if x3 = 0 then
    (ck h1 p0 11).bind fun u4 =>
    (fn_X12_lost h1 p0).bind fun o5 =>
    some ((Int32.toInt64 o5.1), o5.2)
  else
    (gR h1 p0 11 9).bind fun a6 =>
    (aJ h1 a6 p1).bind fun y7 =>
    some (y7, h1)
set_option maxRecDepth 20000 in
set_option maxHeartbeats 4000000 in
theorem ev_X12_row {l : Launch} {g : aG} {d : Nat} (hd : 1 ≤ d) (h : aH) (p0 : Nat) (p1 : Int32) (o : Int64 × aH) (hf : fn_X12_row h p0 p1 = some o) : EvM l g d yX12_row cX12_row 2 (some .long) [.ref p0, .int p1] h (some (.long o.1), o.2) := by
  refine EvM.of mk_X12_row (Nat.le_of_ble_eq_true rfl) ?_
  intro Γ hl hg hq X
  have hd1 : 1 ≤ d := by omega
  have hk : RqJ Γ o := hq
  unfold fn_X12_row at hf
  show Jd Γ (0, 0) 0 [some (.ref p0), some (.int p1)] [] h
  refine r_aload_n (pc := 0) X dX12_row_0 rfl ?_
  refine r_iconst (pc := 1) X 0 dX12_row_1 (by decide) ?_
  obtain ⟨h1, eh1, hf⟩ := ob hf
  refine r_putI (pc := 2) X dX12_row_2 fp_X12_100 rfl eh1 ?_
  refine r_iload_n (pc := 5) X dX12_row_5 rfl ?_
  refine r_iconst (pc := 6) X 0 dX12_row_6 (by decide) ?_
  refine r_aload_n (pc := 7) X dX12_row_7 rfl ?_
  obtain ⟨x2, ex2, hf⟩ := ob hf
  refine r_getI (pc := 8) X dX12_row_8 fl_X12_104 rfl ex2 ?_
  refine r_iconst (pc := 11) X 1 dX12_row_11 (by decide) ?_
  refine r_isub (pc := 12) X dX12_row_12 ?_
  obtain ⟨x3, ex3, hf⟩ := ob hf
  refine r_callSI (pc := 13) X [.int p1, .int 0, .int (x2 - 1)] dX12_row_13 ml_X12_110 so_X12_in ⟨Nat.le_refl _, Nat.le_refl _⟩ (ev_X12_in (d := d - 1) (by omega) _ _ _ _ _ ex3) hd1 rfl (Nat.le_of_ble_eq_true rfl) rfl ?_
  refine r_if_eq (pc := 16) X 28 dX12_row_16 (by decide) (fun c8 => ?_) (fun c8 => ?_)
  · rw [if_pos c8] at hf
    refine r_aload_n (pc := 28) X dX12_row_28 rfl ?_
    obtain ⟨u4, eu4, hf⟩ := ob hf
    obtain ⟨o5, eo5, hf⟩ := ob hf
    refine r_callVI (pc := 29) X [] dX12_row_29 ml_X12_226 vo_X12_lost ⟨Nat.le_refl _, Nat.le_refl _⟩ eu4 (ev_X12_lost (d := d - 1) (by omega) _ _ _ eo5) hd1 rfl (Nat.le_of_ble_eq_true rfl) rfl ?_
    refine r_i2l (pc := 32) X dX12_row_32 ?_
    obtain rfl := Option.some.inj hf
    exact r_lret (pc := 33) X dX12_row_33 hk
  · rw [if_neg c8] at hf
    refine r_aload_n (pc := 19) X dX12_row_19 rfl ?_
    obtain ⟨a6, ea6, hf⟩ := ob hf
    refine r_getR (pc := 20) X dX12_row_20 fl_X12_26 rfl ea6 ?_
    refine r_iload_n (pc := 23) X dX12_row_23 rfl ?_
    obtain ⟨y7, ey7, hf⟩ := ob hf
    refine r_lald (pc := 24) X dX12_row_24 ey7 ?_
    refine r_goto (pc := 25) X 33 dX12_row_25 (by decide) ?_
    obtain rfl := Option.some.inj hf
    exact r_lret (pc := 33) X dX12_row_33 hk
