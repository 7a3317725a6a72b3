theorem dX11_saw_0 : decode cX11_saw 0 = .ok (.aload_n 0, 1) := by decide +kernel
theorem dX11_saw_1 : decode cX11_saw 1 = .ok (.getfield 19, 3) := by decide +kernel
theorem dX11_saw_4 : decode cX11_saw 4 = .ok (.iload_n 1, 1) := by decide +kernel
theorem dX11_saw_5 : decode cX11_saw 5 = .ok (.invokevirtual 172, 3) := by decide +kernel
theorem dX11_saw_8 : decode cX11_saw 8 = .ok (.ifCond .eq 23, 3) := by decide +kernel
theorem dX11_saw_11 : decode cX11_saw 11 = .ok (.iload_n 2, 1) := by decide +kernel
theorem dX11_saw_12 : decode cX11_saw 12 = .ok (.ifCond .lt 19, 3) := by decide +kernel
theorem dX11_saw_15 : decode cX11_saw 15 = .ok (.iload_n 2, 1) := by decide +kernel
theorem dX11_saw_16 : decode cX11_saw 16 = .ok (.bipush 20, 2) := by decide +kernel
theorem dX11_saw_18 : decode cX11_saw 18 = .ok (.if_icmp .gt 13, 3) := by decide +kernel
theorem dX11_saw_21 : decode cX11_saw 21 = .ok (.iload_n 3, 1) := by decide +kernel
theorem dX11_saw_22 : decode cX11_saw 22 = .ok (.ifCond .lt 9, 3) := by decide +kernel
theorem dX11_saw_25 : decode cX11_saw 25 = .ok (.iload_n 3, 1) := by decide +kernel
theorem dX11_saw_26 : decode cX11_saw 26 = .ok (.bipush 9, 2) := by decide +kernel
theorem dX11_saw_28 : decode cX11_saw 28 = .ok (.if_icmp .le 5, 3) := by decide +kernel
theorem dX11_saw_31 : decode cX11_saw 31 = .ok (.iconst (-1), 1) := by decide +kernel
theorem dX11_saw_32 : decode cX11_saw 32 = .ok (.ireturn, 1) := by decide +kernel
theorem dX11_saw_33 : decode cX11_saw 33 = .ok (.aload_n 0, 1) := by decide +kernel
theorem dX11_saw_34 : decode cX11_saw 34 = .ok (.getfield 88, 3) := by decide +kernel
theorem dX11_saw_37 : decode cX11_saw 37 = .ok (.iload_n 1, 1) := by decide +kernel
theorem dX11_saw_38 : decode cX11_saw 38 = .ok (.iload_n 2, 1) := by decide +kernel
theorem dX11_saw_39 : decode cX11_saw 39 = .ok (.iload_n 3, 1) := by decide +kernel
theorem dX11_saw_40 : decode cX11_saw 40 = .ok (.invokevirtual 370, 3) := by decide +kernel
theorem dX11_saw_43 : decode cX11_saw 43 = .ok (.ireturn, 1) := by decide +kernel
def fn_X11_saw (h : aH) (p0 : Nat) (p1 : Int32) (p2 : Int32) (p3 : Int32) : Option (Int32 × aH) :=
  (gR h p0 10 1).bind fun a1 =>
  (ck h a1 0).bind fun u2 =>
  (fn_X0_hasBasin h a1 p1).bind fun x3 =>
  if x3 = 0 then
    some ((-1), h)
  else
    if p2 < 0 then
      some ((-1), h)
    else
      if p2 ≤ 20 then
        if p3 < 0 then
          some ((-1), h)
        else
          if p3 ≤ 9 then
            (gR h p0 10 12).bind fun a4 =>
            (ck h a4 5).bind fun u5 =>
            (fn_X6_add h a4 p1 p2 p3).bind fun o6 =>
            some (o6.1, o6.2)
          else
            some ((-1), h)
      else
        some ((-1), h)
set_option maxRecDepth 20000 in
set_option maxHeartbeats 4000000 in
theorem ev_X11_saw {l : Launch} {g : aG} {d : Nat} (hd : 1 ≤ d) (h : aH) (p0 : Nat) (p1 : Int32) (p2 : Int32) (p3 : Int32) (o : Int32 × aH) (hf : fn_X11_saw h p0 p1 p2 p3 = some o) : EvM l g d yX11_saw cX11_saw 4 (some .int) [.ref p0, .int p1, .int p2, .int p3] h (some (.int o.1), o.2) := by
  refine EvM.of mk_X11_saw (Nat.le_of_ble_eq_true rfl) ?_
  intro Γ hl hg hq X
  have hd1 : 1 ≤ d := by omega
  have hk : RqI Γ o := hq
  unfold fn_X11_saw at hf
  show Jd Γ (0, 0) 0 [some (.ref p0), some (.int p1), some (.int p2), some (.int p3)] [] h
  refine r_aload_n (pc := 0) X dX11_saw_0 rfl ?_
  obtain ⟨a1, ea1, hf⟩ := ob hf
  refine r_getR (pc := 1) X dX11_saw_1 fl_X11_19 rfl ea1 ?_
  refine r_iload_n (pc := 4) X dX11_saw_4 rfl ?_
  obtain ⟨u2, eu2, hf⟩ := ob hf
  obtain ⟨x3, ex3, hf⟩ := ob hf
  refine r_callVI (pc := 5) X [.int p1] dX11_saw_5 ml_X11_172 vo_X0_hasBasin ⟨Nat.le_refl _, Nat.le_refl _⟩ eu2 (ev_X0_hasBasin (d := d - 1) (by omega) _ _ _ _ ex3) hd1 rfl (Nat.le_of_ble_eq_true rfl) rfl ?_
  refine r_if_eq (pc := 8) X 31 dX11_saw_8 (by decide) (fun c11 => ?_) (fun c11 => ?_)
  · rw [if_pos c11] at hf
    refine r_iconst (pc := 31) X (-1) dX11_saw_31 (by decide) ?_
    obtain rfl := Option.some.inj hf
    exact r_iret (pc := 32) X dX11_saw_32 hk
  · rw [if_neg c11] at hf
    refine r_iload_n (pc := 11) X dX11_saw_11 rfl ?_
    refine r_if_lt (pc := 12) X 31 dX11_saw_12 (by decide) (fun c10 => ?_) (fun c10 => ?_)
    · rw [if_pos c10] at hf
      refine r_iconst (pc := 31) X (-1) dX11_saw_31 (by decide) ?_
      obtain rfl := Option.some.inj hf
      exact r_iret (pc := 32) X dX11_saw_32 hk
    · rw [if_neg c10] at hf
      refine r_iload_n (pc := 15) X dX11_saw_15 rfl ?_
      refine r_bipush (pc := 16) X 20 dX11_saw_16 (by decide) ?_
      refine r_icmp_gt (pc := 18) X 31 dX11_saw_18 (by decide) (fun c9 => ?_) (fun c9 => ?_)
      · rw [if_neg c9] at hf
        refine r_iconst (pc := 31) X (-1) dX11_saw_31 (by decide) ?_
        obtain rfl := Option.some.inj hf
        exact r_iret (pc := 32) X dX11_saw_32 hk
      · rw [if_pos c9] at hf
        refine r_iload_n (pc := 21) X dX11_saw_21 rfl ?_
        refine r_if_lt (pc := 22) X 31 dX11_saw_22 (by decide) (fun c8 => ?_) (fun c8 => ?_)
        · rw [if_pos c8] at hf
          refine r_iconst (pc := 31) X (-1) dX11_saw_31 (by decide) ?_
          obtain rfl := Option.some.inj hf
          exact r_iret (pc := 32) X dX11_saw_32 hk
        · rw [if_neg c8] at hf
          refine r_iload_n (pc := 25) X dX11_saw_25 rfl ?_
          refine r_bipush (pc := 26) X 9 dX11_saw_26 (by decide) ?_
          refine r_icmp_le (pc := 28) X 33 dX11_saw_28 (by decide) (fun c7 => ?_) (fun c7 => ?_)
          · rw [if_pos c7] at hf
            refine r_aload_n (pc := 33) X dX11_saw_33 rfl ?_
            obtain ⟨a4, ea4, hf⟩ := ob hf
            refine r_getR (pc := 34) X dX11_saw_34 fl_X11_88 rfl ea4 ?_
            refine r_iload_n (pc := 37) X dX11_saw_37 rfl ?_
            refine r_iload_n (pc := 38) X dX11_saw_38 rfl ?_
            refine r_iload_n (pc := 39) X dX11_saw_39 rfl ?_
            obtain ⟨u5, eu5, hf⟩ := ob hf
            obtain ⟨o6, eo6, hf⟩ := ob hf
            refine r_callVI (pc := 40) X [.int p1, .int p2, .int p3] dX11_saw_40 ml_X11_370 vo_X6_add ⟨Nat.le_refl _, Nat.le_refl _⟩ eu5 (ev_X6_add (d := d - 1) (by omega) _ _ _ _ _ _ eo6) hd1 rfl (Nat.le_of_ble_eq_true rfl) rfl ?_
            obtain rfl := Option.some.inj hf
            exact r_iret (pc := 43) X dX11_saw_43 hk
          · rw [if_neg c7] at hf
            refine r_iconst (pc := 31) X (-1) dX11_saw_31 (by decide) ?_
            obtain rfl := Option.some.inj hf
            exact r_iret (pc := 32) X dX11_saw_32 hk

theorem dX11_forget_0 : decode cX11_forget 0 = .ok (.aload_n 0, 1) := by decide +kernel
theorem dX11_forget_1 : decode cX11_forget 1 = .ok (.getfield 88, 3) := by decide +kernel
theorem dX11_forget_4 : decode cX11_forget 4 = .ok (.invokevirtual 372, 3) := by decide +kernel
theorem dX11_forget_7 : decode cX11_forget 7 = .ok (.ireturn, 1) := by decide +kernel
def fn_X11_forget (h : aH) (p0 : Nat) : Option (Int32 × aH) :=
  (gR h p0 10 12).bind fun a1 =>
  (ck h a1 5).bind fun u2 =>
  (fn_X6_clear h a1).bind fun o3 =>
  some (o3.1, o3.2)
set_option maxRecDepth 20000 in
set_option maxHeartbeats 4000000 in
theorem ev_X11_forget {l : Launch} {g : aG} {d : Nat} (hd : 1 ≤ d) (h : aH) (p0 : Nat) (o : Int32 × aH) (hf : fn_X11_forget h p0 = some o) : EvM l g d yX11_forget cX11_forget 1 (some .int) [.ref p0] h (some (.int o.1), o.2) := by
  refine EvM.of mk_X11_forget (Nat.le_of_ble_eq_true rfl) ?_
  intro Γ hl hg hq X
  have hd1 : 1 ≤ d := by omega
  have hk : RqI Γ o := hq
  unfold fn_X11_forget at hf
  show Jd Γ (0, 0) 0 [some (.ref p0)] [] h
  refine r_aload_n (pc := 0) X dX11_forget_0 rfl ?_
  obtain ⟨a1, ea1, hf⟩ := ob hf
  refine r_getR (pc := 1) X dX11_forget_1 fl_X11_88 rfl ea1 ?_
  obtain ⟨u2, eu2, hf⟩ := ob hf
  obtain ⟨o3, eo3, hf⟩ := ob hf
  refine r_callVI (pc := 4) X [] dX11_forget_4 ml_X11_372 vo_X6_clear ⟨Nat.le_refl _, Nat.le_refl _⟩ eu2 (ev_X6_clear (d := d - 1) (by omega) _ _ _ eo3) hd1 rfl (Nat.le_of_ble_eq_true rfl) rfl ?_
  obtain rfl := Option.some.inj hf
  exact r_iret (pc := 7) X dX11_forget_7 hk

theorem dX11_isAsSeen_0 : decode cX11_isAsSeen 0 = .ok (.aload_n 0, 1) := by decide +kernel
theorem dX11_isAsSeen_1 : decode cX11_isAsSeen 1 = .ok (.invokevirtual 309, 3) := by decide +kernel
theorem dX11_isAsSeen_4 : decode cX11_isAsSeen 4 = .ok (.aload_n 0, 1) := by decide +kernel
theorem dX11_isAsSeen_5 : decode cX11_isAsSeen 5 = .ok (.getfield 68, 3) := by decide +kernel
theorem dX11_isAsSeen_8 : decode cX11_isAsSeen 8 = .ok (.dup, 1) := by decide +kernel
theorem dX11_isAsSeen_9 : decode cX11_isAsSeen 9 = .ok (.getfield 216, 3) := by decide +kernel
theorem dX11_isAsSeen_12 : decode cX11_isAsSeen 12 = .ok (.iload_n 1, 1) := by decide +kernel
theorem dX11_isAsSeen_13 : decode cX11_isAsSeen 13 = .ok (.ior, 1) := by decide +kernel
theorem dX11_isAsSeen_14 : decode cX11_isAsSeen 14 = .ok (.putfield 216, 3) := by decide +kernel
theorem dX11_isAsSeen_17 : decode cX11_isAsSeen 17 = .ok (.aload_n 0, 1) := by decide +kernel
theorem dX11_isAsSeen_18 : decode cX11_isAsSeen 18 = .ok (.getfield 88, 3) := by decide +kernel
theorem dX11_isAsSeen_21 : decode cX11_isAsSeen 21 = .ok (.invokevirtual 380, 3) := by decide +kernel
theorem dX11_isAsSeen_24 : decode cX11_isAsSeen 24 = .ok (.istore_n 2, 1) := by decide +kernel
theorem dX11_isAsSeen_25 : decode cX11_isAsSeen 25 = .ok (.iconst 0, 1) := by decide +kernel
theorem dX11_isAsSeen_26 : decode cX11_isAsSeen 26 = .ok (.istore_n 3, 1) := by decide +kernel
theorem dX11_isAsSeen_27 : decode cX11_isAsSeen 27 = .ok (.iload_n 3, 1) := by decide +kernel
theorem dX11_isAsSeen_28 : decode cX11_isAsSeen 28 = .ok (.iload_n 2, 1) := by decide +kernel
theorem dX11_isAsSeen_29 : decode cX11_isAsSeen 29 = .ok (.if_icmp .gt 41, 3) := by decide +kernel
theorem dX11_isAsSeen_32 : decode cX11_isAsSeen 32 = .ok (.aload_n 0, 1) := by decide +kernel
theorem dX11_isAsSeen_33 : decode cX11_isAsSeen 33 = .ok (.getfield 88, 3) := by decide +kernel
theorem dX11_isAsSeen_36 : decode cX11_isAsSeen 36 = .ok (.aload_n 0, 1) := by decide +kernel
theorem dX11_isAsSeen_37 : decode cX11_isAsSeen 37 = .ok (.getfield 68, 3) := by decide +kernel
theorem dX11_isAsSeen_40 : decode cX11_isAsSeen 40 = .ok (.iload_n 3, 1) := by decide +kernel
theorem dX11_isAsSeen_41 : decode cX11_isAsSeen 41 = .ok (.invokevirtual 383, 3) := by decide +kernel
theorem dX11_isAsSeen_44 : decode cX11_isAsSeen 44 = .ok (.ifCond .ne 5, 3) := by decide +kernel
theorem dX11_isAsSeen_47 : decode cX11_isAsSeen 47 = .ok (.iconst 0, 1) := by decide +kernel
theorem dX11_isAsSeen_48 : decode cX11_isAsSeen 48 = .ok (.ireturn, 1) := by decide +kernel
theorem dX11_isAsSeen_49 : decode cX11_isAsSeen 49 = .ok (.aload_n 0, 1) := by decide +kernel
theorem dX11_isAsSeen_50 : decode cX11_isAsSeen 50 = .ok (.getfield 19, 3) := by decide +kernel
theorem dX11_isAsSeen_53 : decode cX11_isAsSeen 53 = .ok (.aload_n 0, 1) := by decide +kernel
theorem dX11_isAsSeen_54 : decode cX11_isAsSeen 54 = .ok (.getfield 68, 3) := by decide +kernel
theorem dX11_isAsSeen_57 : decode cX11_isAsSeen 57 = .ok (.aload_n 0, 1) := by decide +kernel
theorem dX11_isAsSeen_58 : decode cX11_isAsSeen 58 = .ok (.getfield 42, 3) := by decide +kernel
theorem dX11_isAsSeen_61 : decode cX11_isAsSeen 61 = .ok (.invokevirtual 283, 3) := by decide +kernel
theorem dX11_isAsSeen_64 : decode cX11_isAsSeen 64 = .ok (.iinc 3 1, 3) := by decide +kernel
theorem dX11_isAsSeen_67 : decode cX11_isAsSeen 67 = .ok (.goto (-40), 3) := by decide +kernel
theorem dX11_isAsSeen_70 : decode cX11_isAsSeen 70 = .ok (.iconst 1, 1) := by decide +kernel
theorem dX11_isAsSeen_71 : decode cX11_isAsSeen 71 = .ok (.ireturn, 1) := by decide +kernel
def lb_X11_isAsSeen_27 (v0 : Nat) (v2 : Int32) (s : Int32 × aH) : Option ((Int32 × aH) ⊕ ((Int32 × aH))) :=
  if s.1 ≤ v2 then
    (gR s.2 v0 10 12).bind fun a9 =>
    (gR s.2 v0 10 9).bind fun a10 =>
    (ck s.2 a9 5).bind fun u11 =>
    (fn_X6_agrees s.2 a9 a10 s.1).bind fun x12 =>
    if x12 = 0 then
      some (.inr (0, s.2))
    else
      (gR s.2 v0 10 1).bind fun a13 =>
      (gR s.2 v0 10 9).bind fun a14 =>
      (gR s.2 v0 10 4).bind fun a15 =>
      (ck s.2 a13 0).bind fun u16 =>
      (fn_X0_pass s.2 a13 a14 a15).bind fun h17 =>
      (some (s.1 + 1)).bind fun x18 =>
      some (.inl (x18, h17))
  else
    some (.inr (1, s.2))
def hd_X11_isAsSeen_27 (Γ : aC) (v0 : Nat) (v2 : Int32) (s : Int32 × aH) : Prop := ∀ (j1 : Option Value), Jd Γ (0, 0) 27 [some (.ref v0), j1, some (.int v2), some (.int s.1)] [] s.2
def ex_X11_isAsSeen_27 (Γ : aC) (v0 : Nat) (v2 : Int32) (r : (Int32 × aH)) : Prop := (fun r => RqI Γ r) r
set_option maxRecDepth 20000 in
set_option maxHeartbeats 4000000 in
theorem lw_X11_isAsSeen_27 {Γ : aC} {d : Nat} (X : Cx Γ RX11 cX11_isAsSeen 4 (some .boolean) (d, 0, 0)) (hd : 4 ≤ d) (v0 : Nat) (v2 : Int32) : ∀ n s o, lp (lb_X11_isAsSeen_27 v0 v2) n s = some o → ex_X11_isAsSeen_27 Γ v0 v2 o → hd_X11_isAsSeen_27 Γ v0 v2 s := by
  have hd1 : 1 ≤ d := by omega
  refine J_lp _ _ _ ?_
  intro s o hf hk j1
  unfold lb_X11_isAsSeen_27 at hf
  refine r_iload_n (pc := 27) X dX11_isAsSeen_27 rfl ?_
  refine r_iload_n (pc := 28) X dX11_isAsSeen_28 rfl ?_
  refine r_icmp_gt (pc := 29) X 70 dX11_isAsSeen_29 (by decide) (fun c20 => ?_) (fun c20 => ?_)
  · rw [if_neg c20] at hf
    refine r_iconst (pc := 70) X 1 dX11_isAsSeen_70 (by decide) ?_
    obtain rfl := Option.some.inj hf
    exact r_zret (pc := 71) X dX11_isAsSeen_71 (Or.inr rfl) hk
  · rw [if_pos c20] at hf
    refine r_aload_n (pc := 32) X dX11_isAsSeen_32 rfl ?_
    obtain ⟨a9, ea9, hf⟩ := ob hf
    refine r_getR (pc := 33) X dX11_isAsSeen_33 fl_X11_88 rfl ea9 ?_
    refine r_aload_n (pc := 36) X dX11_isAsSeen_36 rfl ?_
    obtain ⟨a10, ea10, hf⟩ := ob hf
    refine r_getR (pc := 37) X dX11_isAsSeen_37 fl_X11_68 rfl ea10 ?_
    refine r_iload_n (pc := 40) X dX11_isAsSeen_40 rfl ?_
    obtain ⟨u11, eu11, hf⟩ := ob hf
    obtain ⟨x12, ex12, hf⟩ := ob hf
    refine r_callVI (pc := 41) X [.ref a10, .int s.1] dX11_isAsSeen_41 ml_X11_383 vo_X6_agrees ⟨Nat.le_refl _, Nat.le_refl _⟩ eu11 (ev_X6_agrees (d := d - 1) (by omega) _ _ _ _ _ ex12) hd1 rfl (Nat.le_of_ble_eq_true rfl) rfl ?_
    refine r_if_ne (pc := 44) X 49 dX11_isAsSeen_44 (by decide) (fun c19 => ?_) (fun c19 => ?_)
    · rw [if_neg c19] at hf
      refine r_aload_n (pc := 49) X dX11_isAsSeen_49 rfl ?_
      obtain ⟨a13, ea13, hf⟩ := ob hf
      refine r_getR (pc := 50) X dX11_isAsSeen_50 fl_X11_19 rfl ea13 ?_
      refine r_aload_n (pc := 53) X dX11_isAsSeen_53 rfl ?_
      obtain ⟨a14, ea14, hf⟩ := ob hf
      refine r_getR (pc := 54) X dX11_isAsSeen_54 fl_X11_68 rfl ea14 ?_
      refine r_aload_n (pc := 57) X dX11_isAsSeen_57 rfl ?_
      obtain ⟨a15, ea15, hf⟩ := ob hf
      refine r_getR (pc := 58) X dX11_isAsSeen_58 fl_X11_42 rfl ea15 ?_
      obtain ⟨u16, eu16, hf⟩ := ob hf
      obtain ⟨h17, eh17, hf⟩ := ob hf
      refine r_callVV (pc := 61) X [.ref a14, .ref a15] dX11_isAsSeen_61 ml_X11_283 vo_X0_pass ⟨Nat.le_refl _, Nat.le_refl _⟩ eu16 (ev_X0_pass (d := d - 1) (by omega) _ _ _ _ _ eh17) hd1 rfl (Nat.le_of_ble_eq_true rfl) rfl ?_
      obtain ⟨x18, ex18, hf⟩ := ob hf
      refine r_iinc2 (pc := 64) X 1 [some (.ref v0), j1, some (.int v2), some (.int x18)] dX11_isAsSeen_64 (by decide) rfl (by decide) ex18 rfl ?_
      refine r_goto (pc := 67) X 27 dX11_isAsSeen_67 (by decide) ?_
      obtain rfl := Option.some.inj hf
      exact hk _
    · rw [if_pos c19] at hf
      refine r_iconst (pc := 47) X 0 dX11_isAsSeen_47 (by decide) ?_
      obtain rfl := Option.some.inj hf
      exact r_zret (pc := 48) X dX11_isAsSeen_48 (Or.inl rfl) hk
def fn_X11_isAsSeen (h : aH) (p0 : Nat) (p1 : Int32) : Option (Int32 × aH) :=
  (ck h p0 10).bind fun u1 =>
  (fn_X11_startTrial h p0).bind fun h2 =>
  (gR h2 p0 10 9).bind fun a3 =>
  (gI h2 a3 6 3).bind fun x4 =>
  (pI h2 a3 6 3 (x4 ||| p1)).bind fun h5 =>
  (gR h5 p0 10 12).bind fun a6 =>
  (ck h5 a6 5).bind fun u7 =>
  (fn_X6_lastHour h5 a6).bind fun x8 =>
  (lp (lb_X11_isAsSeen_27 p0 x8) lpN (0, h5)).bind fun o21 =>
  some o21
set_option maxRecDepth 20000 in
set_option maxHeartbeats 4000000 in
theorem ev_X11_isAsSeen {l : Launch} {g : aG} {d : Nat} (hd : 4 ≤ d) (h : aH) (p0 : Nat) (p1 : Int32) (o : Int32 × aH) (hf : fn_X11_isAsSeen h p0 p1 = some o) : EvM l g d yX11_isAsSeen cX11_isAsSeen 4 (some .boolean) [.ref p0, .int p1] h (some (.int o.1), o.2) := by
  refine EvM.of mk_X11_isAsSeen (Nat.le_of_ble_eq_true rfl) ?_
  intro Γ hl hg hq X
  have hd1 : 1 ≤ d := by omega
  have hk : RqI Γ o := hq
  unfold fn_X11_isAsSeen at hf
  show Jd Γ (0, 0) 0 [some (.ref p0), some (.int p1), none, none] [] h
  refine r_aload_n (pc := 0) X dX11_isAsSeen_0 rfl ?_
  obtain ⟨u1, eu1, hf⟩ := ob hf
  obtain ⟨h2, eh2, hf⟩ := ob hf
  refine r_callVV (pc := 1) X [] dX11_isAsSeen_1 ml_X11_309 vo_X11_startTrial ⟨Nat.le_refl _, Nat.le_refl _⟩ eu1 (ev_X11_startTrial (d := d - 1) (by omega) _ _ _ eh2) hd1 rfl (Nat.le_of_ble_eq_true rfl) rfl ?_
  refine r_aload_n (pc := 4) X dX11_isAsSeen_4 rfl ?_
  obtain ⟨a3, ea3, hf⟩ := ob hf
  refine r_getR (pc := 5) X dX11_isAsSeen_5 fl_X11_68 rfl ea3 ?_
  refine r_dup (pc := 8) X dX11_isAsSeen_8 rfl ?_
  obtain ⟨x4, ex4, hf⟩ := ob hf
  refine r_getI (pc := 9) X dX11_isAsSeen_9 fl_X11_216 rfl ex4 ?_
  refine r_iload_n (pc := 12) X dX11_isAsSeen_12 rfl ?_
  refine r_ior (pc := 13) X dX11_isAsSeen_13 ?_
  obtain ⟨h5, eh5, hf⟩ := ob hf
  refine r_putI (pc := 14) X dX11_isAsSeen_14 fp_X11_216 rfl eh5 ?_
  refine r_aload_n (pc := 17) X dX11_isAsSeen_17 rfl ?_
  obtain ⟨a6, ea6, hf⟩ := ob hf
  refine r_getR (pc := 18) X dX11_isAsSeen_18 fl_X11_88 rfl ea6 ?_
  obtain ⟨u7, eu7, hf⟩ := ob hf
  obtain ⟨x8, ex8, hf⟩ := ob hf
  refine r_callVI (pc := 21) X [] dX11_isAsSeen_21 ml_X11_380 vo_X6_lastHour ⟨Nat.le_refl _, Nat.le_refl _⟩ eu7 (ev_X6_lastHour (d := d - 1) (by omega) _ _ _ ex8) hd1 rfl (Nat.le_of_ble_eq_true rfl) rfl ?_
  refine r_istore_n (pc := 24) X [some (.ref p0), some (.int p1), some (.int x8), none] dX11_isAsSeen_24 (by decide) rfl ?_
  refine r_iconst (pc := 25) X 0 dX11_isAsSeen_25 (by decide) ?_
  refine r_istore_n (pc := 26) X [some (.ref p0), some (.int p1), some (.int x8), some (.int 0)] dX11_isAsSeen_26 (by decide) rfl ?_
  obtain ⟨o21, eo21, hf⟩ := ob hf
  refine (lw_X11_isAsSeen_27 X hd _ _ lpN _ o21 eo21 ?_) _
  obtain rfl := Option.some.inj hf
  exact hk

theorem dX11_fittingSluices_0 : decode cX11_fittingSluices 0 = .ok (.iconst 0, 1) := by decide +kernel
theorem dX11_fittingSluices_1 : decode cX11_fittingSluices 1 = .ok (.istore_n 1, 1) := by decide +kernel
theorem dX11_fittingSluices_2 : decode cX11_fittingSluices 2 = .ok (.iconst 0, 1) := by decide +kernel
theorem dX11_fittingSluices_3 : decode cX11_fittingSluices 3 = .ok (.istore_n 2, 1) := by decide +kernel
theorem dX11_fittingSluices_4 : decode cX11_fittingSluices 4 = .ok (.iload_n 2, 1) := by decide +kernel
theorem dX11_fittingSluices_5 : decode cX11_fittingSluices 5 = .ok (.aload_n 0, 1) := by decide +kernel
theorem dX11_fittingSluices_6 : decode cX11_fittingSluices 6 = .ok (.getfield 19, 3) := by decide +kernel
theorem dX11_fittingSluices_9 : decode cX11_fittingSluices 9 = .ok (.getfield 132, 3) := by decide +kernel
theorem dX11_fittingSluices_12 : decode cX11_fittingSluices 12 = .ok (.if_icmp .ge 39, 3) := by decide +kernel
theorem dX11_fittingSluices_15 : decode cX11_fittingSluices 15 = .ok (.aload_n 0, 1) := by decide +kernel
theorem dX11_fittingSluices_16 : decode cX11_fittingSluices 16 = .ok (.getfield 61, 3) := by decide +kernel
theorem dX11_fittingSluices_19 : decode cX11_fittingSluices 19 = .ok (.getfield 216, 3) := by decide +kernel
theorem dX11_fittingSluices_22 : decode cX11_fittingSluices 22 = .ok (.iload_n 2, 1) := by decide +kernel
theorem dX11_fittingSluices_23 : decode cX11_fittingSluices 23 = .ok (.ishr, 1) := by decide +kernel
theorem dX11_fittingSluices_24 : decode cX11_fittingSluices 24 = .ok (.iconst 1, 1) := by decide +kernel
theorem dX11_fittingSluices_25 : decode cX11_fittingSluices 25 = .ok (.iand, 1) := by decide +kernel
theorem dX11_fittingSluices_26 : decode cX11_fittingSluices 26 = .ok (.ifCond .ne 19, 3) := by decide +kernel
theorem dX11_fittingSluices_29 : decode cX11_fittingSluices 29 = .ok (.aload_n 0, 1) := by decide +kernel
theorem dX11_fittingSluices_30 : decode cX11_fittingSluices 30 = .ok (.iconst 1, 1) := by decide +kernel
theorem dX11_fittingSluices_31 : decode cX11_fittingSluices 31 = .ok (.iload_n 2, 1) := by decide +kernel
theorem dX11_fittingSluices_32 : decode cX11_fittingSluices 32 = .ok (.ishl, 1) := by decide +kernel
theorem dX11_fittingSluices_33 : decode cX11_fittingSluices 33 = .ok (.invokevirtual 377, 3) := by decide +kernel
theorem dX11_fittingSluices_36 : decode cX11_fittingSluices 36 = .ok (.ifCond .eq 9, 3) := by decide +kernel
theorem dX11_fittingSluices_39 : decode cX11_fittingSluices 39 = .ok (.iload_n 1, 1) := by decide +kernel
theorem dX11_fittingSluices_40 : decode cX11_fittingSluices 40 = .ok (.iconst 1, 1) := by decide +kernel
theorem dX11_fittingSluices_41 : decode cX11_fittingSluices 41 = .ok (.iload_n 2, 1) := by decide +kernel
theorem dX11_fittingSluices_42 : decode cX11_fittingSluices 42 = .ok (.ishl, 1) := by decide +kernel
theorem dX11_fittingSluices_43 : decode cX11_fittingSluices 43 = .ok (.ior, 1) := by decide +kernel
theorem dX11_fittingSluices_44 : decode cX11_fittingSluices 44 = .ok (.istore_n 1, 1) := by decide +kernel
theorem dX11_fittingSluices_45 : decode cX11_fittingSluices 45 = .ok (.iinc 2 1, 3) := by decide +kernel
theorem dX11_fittingSluices_48 : decode cX11_fittingSluices 48 = .ok (.goto (-44), 3) := by decide +kernel
theorem dX11_fittingSluices_51 : decode cX11_fittingSluices 51 = .ok (.iload_n 1, 1) := by decide +kernel
theorem dX11_fittingSluices_52 : decode cX11_fittingSluices 52 = .ok (.ireturn, 1) := by decide +kernel
def lb_X11_fittingSluices_4 (v0 : Nat) (s : Int32 × Int32 × aH) : Option ((Int32 × Int32 × aH) ⊕ ((Int32 × aH))) :=
  (gR s.2.2 v0 10 1).bind fun a1 =>
  (gI s.2.2 a1 0 1).bind fun x2 =>
  if s.2.1 < x2 then
    (gR s.2.2 v0 10 7).bind fun a3 =>
    (gI s.2.2 a3 6 3).bind fun x4 =>
    if ((x4 >>> (s.2.1 &&& 31)) &&& 1) = 0 then
      (ck s.2.2 v0 10).bind fun u6 =>
      (fn_X11_isAsSeen s.2.2 v0 (1 <<< (s.2.1 &&& 31))).bind fun o7 =>
      if o7.1 = 0 then
        (some (s.2.1 + 1)).bind fun x8 =>
        some (.inl (s.1, x8, o7.2))
      else
        (some (s.1 ||| (1 <<< (s.2.1 &&& 31)))).bind fun x9 =>
        (some (s.2.1 + 1)).bind fun x10 =>
        some (.inl (x9, x10, o7.2))
    else
      (some (s.2.1 + 1)).bind fun x5 =>
      some (.inl (s.1, x5, s.2.2))
  else
    some (.inr (s.1, s.2.2))
def hd_X11_fittingSluices_4 (Γ : aC) (v0 : Nat) (s : Int32 × Int32 × aH) : Prop := Jd Γ (0, 0) 4 [some (.ref v0), some (.int s.1), some (.int s.2.1)] [] s.2.2
def ex_X11_fittingSluices_4 (Γ : aC) (v0 : Nat) (r : (Int32 × aH)) : Prop := (fun r => RqI Γ r) r
set_option maxRecDepth 20000 in
set_option maxHeartbeats 4000000 in
theorem lw_X11_fittingSluices_4 {Γ : aC} {d : Nat} (X : Cx Γ RX11 cX11_fittingSluices 3 (some .int) (d, 0, 0)) (hd : 5 ≤ d) (v0 : Nat) : ∀ n s o, lp (lb_X11_fittingSluices_4 v0) n s = some o → ex_X11_fittingSluices_4 Γ v0 o → hd_X11_fittingSluices_4 Γ v0 s := by
  have hd1 : 1 ≤ d := by omega
  refine J_lp _ _ _ ?_
  intro s o hf hk
  unfold lb_X11_fittingSluices_4 at hf
  refine r_iload_n (pc := 4) X dX11_fittingSluices_4 rfl ?_
  refine r_aload_n (pc := 5) X dX11_fittingSluices_5 rfl ?_
  obtain ⟨a1, ea1, hf⟩ := ob hf
  refine r_getR (pc := 6) X dX11_fittingSluices_6 fl_X11_19 rfl ea1 ?_
  obtain ⟨x2, ex2, hf⟩ := ob hf
  refine r_getI (pc := 9) X dX11_fittingSluices_9 fl_X11_132 rfl ex2 ?_
  refine r_icmp_ge (pc := 12) X 51 dX11_fittingSluices_12 (by decide) (fun c13 => ?_) (fun c13 => ?_)
  · rw [if_neg c13] at hf
    refine r_iload_n (pc := 51) X dX11_fittingSluices_51 rfl ?_
    obtain rfl := Option.some.inj hf
    exact r_iret (pc := 52) X dX11_fittingSluices_52 hk
  · rw [if_pos c13] at hf
    refine r_aload_n (pc := 15) X dX11_fittingSluices_15 rfl ?_
    obtain ⟨a3, ea3, hf⟩ := ob hf
    refine r_getR (pc := 16) X dX11_fittingSluices_16 fl_X11_61 rfl ea3 ?_
    obtain ⟨x4, ex4, hf⟩ := ob hf
    refine r_getI (pc := 19) X dX11_fittingSluices_19 fl_X11_216 rfl ex4 ?_
    refine r_iload_n (pc := 22) X dX11_fittingSluices_22 rfl ?_
    refine r_ishr (pc := 23) X dX11_fittingSluices_23 ?_
    refine r_iconst (pc := 24) X 1 dX11_fittingSluices_24 (by decide) ?_
    refine r_iand (pc := 25) X dX11_fittingSluices_25 ?_
    refine r_if_ne (pc := 26) X 45 dX11_fittingSluices_26 (by decide) (fun c12 => ?_) (fun c12 => ?_)
    · rw [if_neg c12] at hf
      obtain ⟨x5, ex5, hf⟩ := ob hf
      refine r_iinc2 (pc := 45) X 1 [some (.ref v0), some (.int s.1), some (.int x5)] dX11_fittingSluices_45 (by decide) rfl (by decide) ex5 rfl ?_
      refine r_goto (pc := 48) X 4 dX11_fittingSluices_48 (by decide) ?_
      obtain rfl := Option.some.inj hf
      exact hk
    · rw [if_pos c12] at hf
      refine r_aload_n (pc := 29) X dX11_fittingSluices_29 rfl ?_
      refine r_iconst (pc := 30) X 1 dX11_fittingSluices_30 (by decide) ?_
      refine r_iload_n (pc := 31) X dX11_fittingSluices_31 rfl ?_
      refine r_ishl (pc := 32) X dX11_fittingSluices_32 ?_
      obtain ⟨u6, eu6, hf⟩ := ob hf
      obtain ⟨o7, eo7, hf⟩ := ob hf
      refine r_callVI (pc := 33) X [.int (1 <<< (s.2.1 &&& 31))] dX11_fittingSluices_33 ml_X11_377 vo_X11_isAsSeen ⟨Nat.le_refl _, Nat.le_refl _⟩ eu6 (ev_X11_isAsSeen (d := d - 1) (by omega) _ _ _ _ eo7) hd1 rfl (Nat.le_of_ble_eq_true rfl) rfl ?_
      refine r_if_eq (pc := 36) X 45 dX11_fittingSluices_36 (by decide) (fun c11 => ?_) (fun c11 => ?_)
      · rw [if_pos c11] at hf
        obtain ⟨x8, ex8, hf⟩ := ob hf
        refine r_iinc2 (pc := 45) X 1 [some (.ref v0), some (.int s.1), some (.int x8)] dX11_fittingSluices_45 (by decide) rfl (by decide) ex8 rfl ?_
        refine r_goto (pc := 48) X 4 dX11_fittingSluices_48 (by decide) ?_
        obtain rfl := Option.some.inj hf
        exact hk
      · rw [if_neg c11] at hf
        refine r_iload_n (pc := 39) X dX11_fittingSluices_39 rfl ?_
        refine r_iconst (pc := 40) X 1 dX11_fittingSluices_40 (by decide) ?_
        refine r_iload_n (pc := 41) X dX11_fittingSluices_41 rfl ?_
        refine r_ishl (pc := 42) X dX11_fittingSluices_42 ?_
        refine r_ior (pc := 43) X dX11_fittingSluices_43 ?_
        obtain ⟨x9, ex9, hf⟩ := ob hf
        refine r_nmI ex9 ?_
        refine r_istore_n (pc := 44) X [some (.ref v0), some (.int x9), some (.int s.2.1)] dX11_fittingSluices_44 (by decide) rfl ?_
        obtain ⟨x10, ex10, hf⟩ := ob hf
        refine r_iinc2 (pc := 45) X 1 [some (.ref v0), some (.int x9), some (.int x10)] dX11_fittingSluices_45 (by decide) rfl (by decide) ex10 rfl ?_
        refine r_goto (pc := 48) X 4 dX11_fittingSluices_48 (by decide) ?_
        obtain rfl := Option.some.inj hf
        exact hk
def fn_X11_fittingSluices (h : aH) (p0 : Nat) : Option (Int32 × aH) :=
  (lp (lb_X11_fittingSluices_4 p0) lpN (0, 0, h)).bind fun o14 =>
  some o14
set_option maxRecDepth 20000 in
set_option maxHeartbeats 4000000 in
theorem ev_X11_fittingSluices {l : Launch} {g : aG} {d : Nat} (hd : 5 ≤ d) (h : aH) (p0 : Nat) (o : Int32 × aH) (hf : fn_X11_fittingSluices h p0 = some o) : EvM l g d yX11_fittingSluices cX11_fittingSluices 3 (some .int) [.ref p0] h (some (.int o.1), o.2) := by
  refine EvM.of mk_X11_fittingSluices (Nat.le_of_ble_eq_true rfl) ?_
  intro Γ hl hg hq X
  have hd1 : 1 ≤ d := by omega
  have hk : RqI Γ o := hq
  unfold fn_X11_fittingSluices at hf
  show Jd Γ (0, 0) 0 [some (.ref p0), none, none] [] h
  refine r_iconst (pc := 0) X 0 dX11_fittingSluices_0 (by decide) ?_
  refine r_istore_n (pc := 1) X [some (.ref p0), some (.int 0), none] dX11_fittingSluices_1 (by decide) rfl ?_
  refine r_iconst (pc := 2) X 0 dX11_fittingSluices_2 (by decide) ?_
  refine r_istore_n (pc := 3) X [some (.ref p0), some (.int 0), some (.int 0)] dX11_fittingSluices_3 (by decide) rfl ?_
  obtain ⟨o14, eo14, hf⟩ := ob hf
  refine (lw_X11_fittingSluices_4 X hd _ lpN _ o14 eo14 ?_)
  obtain rfl := Option.some.inj hf
  exact hk

theorem dX11_fits_0 : decode cX11_fits 0 = .ok (.aload_n 0, 1) := by decide +kernel
theorem dX11_fits_1 : decode cX11_fits 1 = .ok (.invokevirtual 374, 3) := by decide +kernel
theorem dX11_fits_4 : decode cX11_fits 4 = .ok (.istore_n 1, 1) := by decide +kernel
theorem dX11_fits_5 : decode cX11_fits 5 = .ok (.aload_n 0, 1) := by decide +kernel
theorem dX11_fits_6 : decode cX11_fits 6 = .ok (.iconst 0, 1) := by decide +kernel
theorem dX11_fits_7 : decode cX11_fits 7 = .ok (.invokevirtual 377, 3) := by decide +kernel
theorem dX11_fits_10 : decode cX11_fits 10 = .ok (.istore_n 2, 1) := by decide +kernel
theorem dX11_fits_11 : decode cX11_fits 11 = .ok (.aload_n 0, 1) := by decide +kernel
theorem dX11_fits_12 : decode cX11_fits 12 = .ok (.getfield 81, 3) := by decide +kernel
theorem dX11_fits_15 : decode cX11_fits 15 = .ok (.invokevirtual 242, 3) := by decide +kernel
theorem dX11_fits_18 : decode cX11_fits 18 = .ok (.aload_n 0, 1) := by decide +kernel
theorem dX11_fits_19 : decode cX11_fits 19 = .ok (.getfield 81, 3) := by decide +kernel
theorem dX11_fits_22 : decode cX11_fits 22 = .ok (.iload_n 1, 1) := by decide +kernel
theorem dX11_fits_23 : decode cX11_fits 23 = .ok (.invokestatic 366, 3) := by decide +kernel
theorem dX11_fits_26 : decode cX11_fits 26 = .ok (.i2l, 1) := by decide +kernel
theorem dX11_fits_27 : decode cX11_fits 27 = .ok (.invokevirtual 248, 3) := by decide +kernel
theorem dX11_fits_30 : decode cX11_fits 30 = .ok (.aload_n 0, 1) := by decide +kernel
theorem dX11_fits_31 : decode cX11_fits 31 = .ok (.getfield 81, 3) := by decide +kernel
theorem dX11_fits_34 : decode cX11_fits 34 = .ok (.iload_n 2, 1) := by decide +kernel
theorem dX11_fits_35 : decode cX11_fits 35 = .ok (.ifCond .eq 7, 3) := by decide +kernel
theorem dX11_fits_38 : decode cX11_fits 38 = .ok (.lconst 1, 1) := by decide +kernel
theorem dX11_fits_39 : decode cX11_fits 39 = .ok (.goto 4, 3) := by decide +kernel
theorem dX11_fits_42 : decode cX11_fits 42 = .ok (.lconst 0, 1) := by decide +kernel
theorem dX11_fits_43 : decode cX11_fits 43 = .ok (.invokevirtual 248, 3) := by decide +kernel
theorem dX11_fits_46 : decode cX11_fits 46 = .ok (.iload_n 1, 1) := by decide +kernel
theorem dX11_fits_47 : decode cX11_fits 47 = .ok (.ireturn, 1) := by decide +kernel
def fn_X11_fits (h : aH) (p0 : Nat) : Option (Int32 × aH) :=
  (ck h p0 10).bind fun u1 =>
  (fn_X11_fittingSluices h p0).bind fun o2 =>
  (ck o2.2 p0 10).bind fun u3 =>
  (fn_X11_isAsSeen o2.2 p0 0).bind fun o4 =>
  (gR o4.2 p0 10 11).bind fun a5 =>
  (ck o4.2 a5 2).bind fun u6 =>
  (fn_X3_begin o4.2 a5).bind fun h7 =>
  (gR h7 p0 10 11).bind fun a8 =>
  (fn_J6_bitCount_0f7a4 h7 o2.1).bind fun x9 =>
  (ck h7 a8 2).bind fun u10 =>
  (fn_X3_add h7 a8 (Int32.toInt64 x9)).bind fun h11 =>
  (gR h11 p0 10 11).bind fun a12 =>
  ((
    if o4.1 = 0 then
      some 0
    else
      some 1
  ) : Option (Int64)).bind fun t13 =>
  (ck h11 a12 2).bind fun u14 =>
  (fn_X3_add h11 a12 t13).bind fun h15 =>
  some (o2.1, h15)
set_option maxRecDepth 20000 in
set_option maxHeartbeats 4000000 in
theorem ev_X11_fits {l : Launch} {g : aG} {d : Nat} (hd : 6 ≤ d) (h : aH) (p0 : Nat) (o : Int32 × aH) (hf : fn_X11_fits h p0 = some o) : EvM l g d yX11_fits cX11_fits 3 (some .int) [.ref p0] h (some (.int o.1), o.2) := by
  refine EvM.of mk_X11_fits (Nat.le_of_ble_eq_true rfl) ?_
  intro Γ hl hg hq X
  have hd1 : 1 ≤ d := by omega
  have hk : RqI Γ o := hq
  unfold fn_X11_fits at hf
  show Jd Γ (0, 0) 0 [some (.ref p0), none, none] [] h
  refine r_aload_n (pc := 0) X dX11_fits_0 rfl ?_
  obtain ⟨u1, eu1, hf⟩ := ob hf
  obtain ⟨o2, eo2, hf⟩ := ob hf
  refine r_callVI (pc := 1) X [] dX11_fits_1 ml_X11_374 vo_X11_fittingSluices ⟨Nat.le_refl _, Nat.le_refl _⟩ eu1 (ev_X11_fittingSluices (d := d - 1) (by omega) _ _ _ eo2) hd1 rfl (Nat.le_of_ble_eq_true rfl) rfl ?_
  refine r_istore_n (pc := 4) X [some (.ref p0), some (.int o2.1), none] dX11_fits_4 (by decide) rfl ?_
  refine r_aload_n (pc := 5) X dX11_fits_5 rfl ?_
  refine r_iconst (pc := 6) X 0 dX11_fits_6 (by decide) ?_
  obtain ⟨u3, eu3, hf⟩ := ob hf
  obtain ⟨o4, eo4, hf⟩ := ob hf
  refine r_callVI (pc := 7) X [.int 0] dX11_fits_7 ml_X11_377 vo_X11_isAsSeen ⟨Nat.le_refl _, Nat.le_refl _⟩ eu3 (ev_X11_isAsSeen (d := d - 1) (by omega) _ _ _ _ eo4) hd1 rfl (Nat.le_of_ble_eq_true rfl) rfl ?_
  refine r_istore_n (pc := 10) X [some (.ref p0), some (.int o2.1), some (.int o4.1)] dX11_fits_10 (by decide) rfl ?_
  refine r_aload_n (pc := 11) X dX11_fits_11 rfl ?_
  obtain ⟨a5, ea5, hf⟩ := ob hf
  refine r_getR (pc := 12) X dX11_fits_12 fl_X11_81 rfl ea5 ?_
  obtain ⟨u6, eu6, hf⟩ := ob hf
  obtain ⟨h7, eh7, hf⟩ := ob hf
  refine r_callVV (pc := 15) X [] dX11_fits_15 ml_X11_242 vo_X3_begin ⟨Nat.le_refl _, Nat.le_refl _⟩ eu6 (ev_X3_begin (d := d - 1) (by omega) _ _ _ eh7) hd1 rfl (Nat.le_of_ble_eq_true rfl) rfl ?_
  refine r_aload_n (pc := 18) X dX11_fits_18 rfl ?_
  obtain ⟨a8, ea8, hf⟩ := ob hf
  refine r_getR (pc := 19) X dX11_fits_19 fl_X11_81 rfl ea8 ?_
  refine r_iload_n (pc := 22) X dX11_fits_22 rfl ?_
  obtain ⟨x9, ex9, hf⟩ := ob hf
  refine r_callSI (pc := 23) X [.int o2.1] dX11_fits_23 ml_X11_366 so_J6_bitCount_0f7a4 ⟨Nat.le_refl _, Nat.le_refl _⟩ (ev_J6_bitCount_0f7a4 (d := d - 1) (by omega) _ _ _ ex9) hd1 rfl (Nat.le_of_ble_eq_true rfl) rfl ?_
  refine r_i2l (pc := 26) X dX11_fits_26 ?_
  obtain ⟨u10, eu10, hf⟩ := ob hf
  obtain ⟨h11, eh11, hf⟩ := ob hf
  refine r_callVV (pc := 27) X [.long (Int32.toInt64 x9)] dX11_fits_27 ml_X11_248 vo_X3_add ⟨Nat.le_refl _, Nat.le_refl _⟩ eu10 (ev_X3_add (d := d - 1) (by omega) _ _ _ _ eh11) hd1 rfl (Nat.le_of_ble_eq_true rfl) rfl ?_
  refine r_aload_n (pc := 30) X dX11_fits_30 rfl ?_
  obtain ⟨a12, ea12, hf⟩ := ob hf
  refine r_getR (pc := 31) X dX11_fits_31 fl_X11_81 rfl ea12 ?_
  refine r_iload_n (pc := 34) X dX11_fits_34 rfl ?_
  obtain ⟨t13, et13, hf⟩ := ob hf
  have Jt13 : Jd Γ (0, 0) 43 [some (.ref p0), some (.int o2.1), some (.int o4.1)] [.long t13, .ref a12] h11 := by
    obtain ⟨u14, eu14, hf⟩ := ob hf
    obtain ⟨h15, eh15, hf⟩ := ob hf
    refine r_callVV (pc := 43) X [.long t13] dX11_fits_43 ml_X11_248 vo_X3_add ⟨Nat.le_refl _, Nat.le_refl _⟩ eu14 (ev_X3_add (d := d - 1) (by omega) _ _ _ _ eh15) hd1 rfl (Nat.le_of_ble_eq_true rfl) rfl ?_
    refine r_iload_n (pc := 46) X dX11_fits_46 rfl ?_
    obtain rfl := Option.some.inj hf
    exact r_iret (pc := 47) X dX11_fits_47 hk
  refine r_if_eq (pc := 35) X 42 dX11_fits_35 (by decide) (fun c16 => ?_) (fun c16 => ?_)
  · rw [if_pos c16] at et13
    refine r_lconst (pc := 42) X 0 dX11_fits_42 (by decide) ?_
    obtain rfl := Option.some.inj et13
    exact Jt13
  · rw [if_neg c16] at et13
    refine r_lconst (pc := 38) X 1 dX11_fits_38 (by decide) ?_
    refine r_goto (pc := 39) X 43 dX11_fits_39 (by decide) ?_
    obtain rfl := Option.some.inj et13
    exact Jt13

theorem dX11_traceEach_0 : decode cX11_traceEach 0 = .ok (.iconst 0, 1) := by decide +kernel
theorem dX11_traceEach_1 : decode cX11_traceEach 1 = .ok (.istore_n 2, 1) := by decide +kernel
theorem dX11_traceEach_2 : decode cX11_traceEach 2 = .ok (.iload_n 2, 1) := by decide +kernel
theorem dX11_traceEach_3 : decode cX11_traceEach 3 = .ok (.aload_n 0, 1) := by decide +kernel
theorem dX11_traceEach_4 : decode cX11_traceEach 4 = .ok (.getfield 19, 3) := by decide +kernel
theorem dX11_traceEach_7 : decode cX11_traceEach 7 = .ok (.getfield 132, 3) := by decide +kernel
theorem dX11_traceEach_10 : decode cX11_traceEach 10 = .ok (.if_icmp .ge 83, 3) := by decide +kernel
theorem dX11_traceEach_13 : decode cX11_traceEach 13 = .ok (.iload_n 1, 1) := by decide +kernel
theorem dX11_traceEach_14 : decode cX11_traceEach 14 = .ok (.iload_n 2, 1) := by decide +kernel
theorem dX11_traceEach_15 : decode cX11_traceEach 15 = .ok (.ishr, 1) := by decide +kernel
theorem dX11_traceEach_16 : decode cX11_traceEach 16 = .ok (.iconst 1, 1) := by decide +kernel
theorem dX11_traceEach_17 : decode cX11_traceEach 17 = .ok (.iand, 1) := by decide +kernel
theorem dX11_traceEach_18 : decode cX11_traceEach 18 = .ok (.ifCond .eq 69, 3) := by decide +kernel
theorem dX11_traceEach_21 : decode cX11_traceEach 21 = .ok (.aload_n 0, 1) := by decide +kernel
theorem dX11_traceEach_22 : decode cX11_traceEach 22 = .ok (.invokevirtual 309, 3) := by decide +kernel
theorem dX11_traceEach_25 : decode cX11_traceEach 25 = .ok (.aload_n 0, 1) := by decide +kernel
theorem dX11_traceEach_26 : decode cX11_traceEach 26 = .ok (.getfield 68, 3) := by decide +kernel
theorem dX11_traceEach_29 : decode cX11_traceEach 29 = .ok (.dup, 1) := by decide +kernel
theorem dX11_traceEach_30 : decode cX11_traceEach 30 = .ok (.getfield 216, 3) := by decide +kernel
theorem dX11_traceEach_33 : decode cX11_traceEach 33 = .ok (.iconst 1, 1) := by decide +kernel
theorem dX11_traceEach_34 : decode cX11_traceEach 34 = .ok (.iload_n 2, 1) := by decide +kernel
theorem dX11_traceEach_35 : decode cX11_traceEach 35 = .ok (.ishl, 1) := by decide +kernel
theorem dX11_traceEach_36 : decode cX11_traceEach 36 = .ok (.ior, 1) := by decide +kernel
theorem dX11_traceEach_37 : decode cX11_traceEach 37 = .ok (.putfield 216, 3) := by decide +kernel
theorem dX11_traceEach_40 : decode cX11_traceEach 40 = .ok (.iconst 0, 1) := by decide +kernel
theorem dX11_traceEach_41 : decode cX11_traceEach 41 = .ok (.istore_n 3, 1) := by decide +kernel
theorem dX11_traceEach_42 : decode cX11_traceEach 42 = .ok (.iload_n 3, 1) := by decide +kernel
theorem dX11_traceEach_43 : decode cX11_traceEach 43 = .ok (.bipush 21, 2) := by decide +kernel
theorem dX11_traceEach_45 : decode cX11_traceEach 45 = .ok (.if_icmp .ge 42, 3) := by decide +kernel
theorem dX11_traceEach_48 : decode cX11_traceEach 48 = .ok (.aload_n 0, 1) := by decide +kernel
theorem dX11_traceEach_49 : decode cX11_traceEach 49 = .ok (.getfield 92, 3) := by decide +kernel
theorem dX11_traceEach_52 : decode cX11_traceEach 52 = .ok (.iload_n 2, 1) := by decide +kernel
theorem dX11_traceEach_53 : decode cX11_traceEach 53 = .ok (.bipush 21, 2) := by decide +kernel
theorem dX11_traceEach_55 : decode cX11_traceEach 55 = .ok (.imul, 1) := by decide +kernel
theorem dX11_traceEach_56 : decode cX11_traceEach 56 = .ok (.iload_n 3, 1) := by decide +kernel
theorem dX11_traceEach_57 : decode cX11_traceEach 57 = .ok (.iadd, 1) := by decide +kernel
theorem dX11_traceEach_58 : decode cX11_traceEach 58 = .ok (.aload_n 0, 1) := by decide +kernel
theorem dX11_traceEach_59 : decode cX11_traceEach 59 = .ok (.getfield 68, 3) := by decide +kernel
theorem dX11_traceEach_62 : decode cX11_traceEach 62 = .ok (.invokevirtual 337, 3) := by decide +kernel
theorem dX11_traceEach_65 : decode cX11_traceEach 65 = .ok (.lastore, 1) := by decide +kernel
theorem dX11_traceEach_66 : decode cX11_traceEach 66 = .ok (.aload_n 0, 1) := by decide +kernel
theorem dX11_traceEach_67 : decode cX11_traceEach 67 = .ok (.getfield 19, 3) := by decide +kernel
theorem dX11_traceEach_70 : decode cX11_traceEach 70 = .ok (.aload_n 0, 1) := by decide +kernel
theorem dX11_traceEach_71 : decode cX11_traceEach 71 = .ok (.getfield 68, 3) := by decide +kernel
theorem dX11_traceEach_74 : decode cX11_traceEach 74 = .ok (.aload_n 0, 1) := by decide +kernel
theorem dX11_traceEach_75 : decode cX11_traceEach 75 = .ok (.getfield 42, 3) := by decide +kernel
theorem dX11_traceEach_78 : decode cX11_traceEach 78 = .ok (.invokevirtual 283, 3) := by decide +kernel
theorem dX11_traceEach_81 : decode cX11_traceEach 81 = .ok (.iinc 3 1, 3) := by decide +kernel
theorem dX11_traceEach_84 : decode cX11_traceEach 84 = .ok (.goto (-42), 3) := by decide +kernel
theorem dX11_traceEach_87 : decode cX11_traceEach 87 = .ok (.iinc 2 1, 3) := by decide +kernel
theorem dX11_traceEach_90 : decode cX11_traceEach 90 = .ok (.goto (-88), 3) := by decide +kernel
theorem dX11_traceEach_93 : decode cX11_traceEach 93 = .ok (.return_, 1) := by decide +kernel
def lb_X11_traceEach_42 (v0 : Nat) (v1 : Int32) (v2 : Int32) (s : Int32 × aH) : Option ((Int32 × aH) ⊕ ((aH))) :=
  if s.1 < 21 then
    (gR s.2 v0 10 13).bind fun a9 =>
    (gR s.2 v0 10 9).bind fun a10 =>
    (ck s.2 a10 6).bind fun u11 =>
    (fn_X7_code s.2 a10).bind fun y12 =>
    (wJ s.2 a9 ((v2 * 21) + s.1) y12).bind fun h13 =>
    (gR h13 v0 10 1).bind fun a14 =>
    (gR h13 v0 10 9).bind fun a15 =>
    (gR h13 v0 10 4).bind fun a16 =>
    (ck h13 a14 0).bind fun u17 =>
    (fn_X0_pass h13 a14 a15 a16).bind fun h18 =>
    (some (s.1 + 1)).bind fun x19 =>
    some (.inl (x19, h18))
  else
    some (.inr s.2)
def hd_X11_traceEach_42 (Γ : aC) (v0 : Nat) (v1 : Int32) (v2 : Int32) (s : Int32 × aH) : Prop := Jd Γ (0, 0) 42 [some (.ref v0), some (.int v1), some (.int v2), some (.int s.1)] [] s.2
def ex_X11_traceEach_42 (Γ : aC) (v0 : Nat) (v1 : Int32) (v2 : Int32) (r : (aH)) : Prop := (fun r => ∀ (j3 : Option Value), Jd Γ (0, 0) 87 [some (.ref v0), some (.int v1), some (.int v2), j3] [] r) r
set_option maxRecDepth 20000 in
set_option maxHeartbeats 4000000 in
theorem lw_X11_traceEach_42 {Γ : aC} {d : Nat} (X : Cx Γ RX11 cX11_traceEach 4 none (d, 0, 0)) (hd : 4 ≤ d) (v0 : Nat) (v1 : Int32) (v2 : Int32) : ∀ n s o, lp (lb_X11_traceEach_42 v0 v1 v2) n s = some o → ex_X11_traceEach_42 Γ v0 v1 v2 o → hd_X11_traceEach_42 Γ v0 v1 v2 s := by
  have hd1 : 1 ≤ d := by omega
  refine J_lp _ _ _ ?_
  intro s o hf hk
  unfold lb_X11_traceEach_42 at hf
  refine r_iload_n (pc := 42) X dX11_traceEach_42 rfl ?_
  refine r_bipush (pc := 43) X 21 dX11_traceEach_43 (by decide) ?_
  refine r_icmp_ge (pc := 45) X 87 dX11_traceEach_45 (by decide) (fun c20 => ?_) (fun c20 => ?_)
  · rw [if_neg c20] at hf
    obtain rfl := Option.some.inj hf
    exact hk _
  · rw [if_pos c20] at hf
    refine r_aload_n (pc := 48) X dX11_traceEach_48 rfl ?_
    obtain ⟨a9, ea9, hf⟩ := ob hf
    refine r_getR (pc := 49) X dX11_traceEach_49 fl_X11_92 rfl ea9 ?_
    refine r_iload_n (pc := 52) X dX11_traceEach_52 rfl ?_
    refine r_bipush (pc := 53) X 21 dX11_traceEach_53 (by decide) ?_
    refine r_imul (pc := 55) X dX11_traceEach_55 ?_
    refine r_iload_n (pc := 56) X dX11_traceEach_56 rfl ?_
    refine r_iadd (pc := 57) X dX11_traceEach_57 ?_
    refine r_aload_n (pc := 58) X dX11_traceEach_58 rfl ?_
    obtain ⟨a10, ea10, hf⟩ := ob hf
    refine r_getR (pc := 59) X dX11_traceEach_59 fl_X11_68 rfl ea10 ?_
    obtain ⟨u11, eu11, hf⟩ := ob hf
    obtain ⟨y12, ey12, hf⟩ := ob hf
    refine r_callVJ (pc := 62) X [] dX11_traceEach_62 ml_X11_337 vo_X7_code ⟨Nat.le_refl _, Nat.le_refl _⟩ eu11 (ev_X7_code (d := d - 1) (by omega) _ _ _ ey12) hd1 rfl (Nat.le_of_ble_eq_true rfl) rfl ?_
    obtain ⟨h13, eh13, hf⟩ := ob hf
    refine r_last (pc := 65) X dX11_traceEach_65 eh13 ?_
    refine r_aload_n (pc := 66) X dX11_traceEach_66 rfl ?_
    obtain ⟨a14, ea14, hf⟩ := ob hf
    refine r_getR (pc := 67) X dX11_traceEach_67 fl_X11_19 rfl ea14 ?_
    refine r_aload_n (pc := 70) X dX11_traceEach_70 rfl ?_
    obtain ⟨a15, ea15, hf⟩ := ob hf
    refine r_getR (pc := 71) X dX11_traceEach_71 fl_X11_68 rfl ea15 ?_
    refine r_aload_n (pc := 74) X dX11_traceEach_74 rfl ?_
    obtain ⟨a16, ea16, hf⟩ := ob hf
    refine r_getR (pc := 75) X dX11_traceEach_75 fl_X11_42 rfl ea16 ?_
    obtain ⟨u17, eu17, hf⟩ := ob hf
    obtain ⟨h18, eh18, hf⟩ := ob hf
    refine r_callVV (pc := 78) X [.ref a15, .ref a16] dX11_traceEach_78 ml_X11_283 vo_X0_pass ⟨Nat.le_refl _, Nat.le_refl _⟩ eu17 (ev_X0_pass (d := d - 1) (by omega) _ _ _ _ _ eh18) hd1 rfl (Nat.le_of_ble_eq_true rfl) rfl ?_
    obtain ⟨x19, ex19, hf⟩ := ob hf
    refine r_iinc2 (pc := 81) X 1 [some (.ref v0), some (.int v1), some (.int v2), some (.int x19)] dX11_traceEach_81 (by decide) rfl (by decide) ex19 rfl ?_
    refine r_goto (pc := 84) X 42 dX11_traceEach_84 (by decide) ?_
    obtain rfl := Option.some.inj hf
    exact hk
def lb_X11_traceEach_2 (v0 : Nat) (v1 : Int32) (s : Int32 × aH) : Option ((Int32 × aH) ⊕ ((aH))) :=
  (gR s.2 v0 10 1).bind fun a1 =>
  (gI s.2 a1 0 1).bind fun x2 =>
  if s.1 < x2 then
    if ((v1 >>> (s.1 &&& 31)) &&& 1) = 0 then
      (some (s.1 + 1)).bind fun x3 =>
      some (.inl (x3, s.2))
    else
      (ck s.2 v0 10).bind fun u4 =>
      (fn_X11_startTrial s.2 v0).bind fun h5 =>
      (gR h5 v0 10 9).bind fun a6 =>
      (gI h5 a6 6 3).bind fun x7 =>
      (pI h5 a6 6 3 (x7 ||| (1 <<< (s.1 &&& 31)))).bind fun h8 =>
      (lp (lb_X11_traceEach_42 v0 v1 s.1) lpN (0, h8)).bind fun o21 =>
      (some (s.1 + 1)).bind fun x23 =>
      some (.inl (x23, o21))
  else
    some (.inr s.2)
def hd_X11_traceEach_2 (Γ : aC) (v0 : Nat) (v1 : Int32) (s : Int32 × aH) : Prop := ∀ (j3 : Option Value), Jd Γ (0, 0) 2 [some (.ref v0), some (.int v1), some (.int s.1), j3] [] s.2
def ex_X11_traceEach_2 (Γ : aC) (v0 : Nat) (v1 : Int32) (r : (aH)) : Prop := (fun r => RqV Γ r) r
set_option maxRecDepth 20000 in
set_option maxHeartbeats 4000000 in
theorem lw_X11_traceEach_2 {Γ : aC} {d : Nat} (X : Cx Γ RX11 cX11_traceEach 4 none (d, 0, 0)) (hd : 4 ≤ d) (v0 : Nat) (v1 : Int32) : ∀ n s o, lp (lb_X11_traceEach_2 v0 v1) n s = some o → ex_X11_traceEach_2 Γ v0 v1 o → hd_X11_traceEach_2 Γ v0 v1 s := by
  have hd1 : 1 ≤ d := by omega
  refine J_lp _ _ _ ?_
  intro s o hf hk j3
  unfold lb_X11_traceEach_2 at hf
  refine r_iload_n (pc := 2) X dX11_traceEach_2 rfl ?_
  refine r_aload_n (pc := 3) X dX11_traceEach_3 rfl ?_
  obtain ⟨a1, ea1, hf⟩ := ob hf
  refine r_getR (pc := 4) X dX11_traceEach_4 fl_X11_19 rfl ea1 ?_
  obtain ⟨x2, ex2, hf⟩ := ob hf
  refine r_getI (pc := 7) X dX11_traceEach_7 fl_X11_132 rfl ex2 ?_
  refine r_icmp_ge (pc := 10) X 93 dX11_traceEach_10 (by decide) (fun c25 => ?_) (fun c25 => ?_)
  · rw [if_neg c25] at hf
    obtain rfl := Option.some.inj hf
    exact r_vret (pc := 93) X dX11_traceEach_93 hk
  · rw [if_pos c25] at hf
    refine r_iload_n (pc := 13) X dX11_traceEach_13 rfl ?_
    refine r_iload_n (pc := 14) X dX11_traceEach_14 rfl ?_
    refine r_ishr (pc := 15) X dX11_traceEach_15 ?_
    refine r_iconst (pc := 16) X 1 dX11_traceEach_16 (by decide) ?_
    refine r_iand (pc := 17) X dX11_traceEach_17 ?_
    refine r_if_eq (pc := 18) X 87 dX11_traceEach_18 (by decide) (fun c24 => ?_) (fun c24 => ?_)
    · rw [if_pos c24] at hf
      obtain ⟨x3, ex3, hf⟩ := ob hf
      refine r_iinc2 (pc := 87) X 1 [some (.ref v0), some (.int v1), some (.int x3), j3] dX11_traceEach_87 (by decide) rfl (by decide) ex3 rfl ?_
      refine r_goto (pc := 90) X 2 dX11_traceEach_90 (by decide) ?_
      obtain rfl := Option.some.inj hf
      exact hk _
    · rw [if_neg c24] at hf
      refine r_aload_n (pc := 21) X dX11_traceEach_21 rfl ?_
      obtain ⟨u4, eu4, hf⟩ := ob hf
      obtain ⟨h5, eh5, hf⟩ := ob hf
      refine r_callVV (pc := 22) X [] dX11_traceEach_22 ml_X11_309 vo_X11_startTrial ⟨Nat.le_refl _, Nat.le_refl _⟩ eu4 (ev_X11_startTrial (d := d - 1) (by omega) _ _ _ eh5) hd1 rfl (Nat.le_of_ble_eq_true rfl) rfl ?_
      refine r_aload_n (pc := 25) X dX11_traceEach_25 rfl ?_
      obtain ⟨a6, ea6, hf⟩ := ob hf
      refine r_getR (pc := 26) X dX11_traceEach_26 fl_X11_68 rfl ea6 ?_
      refine r_dup (pc := 29) X dX11_traceEach_29 rfl ?_
      obtain ⟨x7, ex7, hf⟩ := ob hf
      refine r_getI (pc := 30) X dX11_traceEach_30 fl_X11_216 rfl ex7 ?_
      refine r_iconst (pc := 33) X 1 dX11_traceEach_33 (by decide) ?_
      refine r_iload_n (pc := 34) X dX11_traceEach_34 rfl ?_
      refine r_ishl (pc := 35) X dX11_traceEach_35 ?_
      refine r_ior (pc := 36) X dX11_traceEach_36 ?_
      obtain ⟨h8, eh8, hf⟩ := ob hf
      refine r_putI (pc := 37) X dX11_traceEach_37 fp_X11_216 rfl eh8 ?_
      refine r_iconst (pc := 40) X 0 dX11_traceEach_40 (by decide) ?_
      refine r_istore_n (pc := 41) X [some (.ref v0), some (.int v1), some (.int s.1), some (.int 0)] dX11_traceEach_41 (by decide) rfl ?_
      obtain ⟨o21, eo21, hf⟩ := ob hf
      refine (lw_X11_traceEach_42 X hd _ _ _ lpN _ o21 eo21 ?_)
      intro j22
      obtain ⟨x23, ex23, hf⟩ := ob hf
      refine r_iinc2 (pc := 87) X 1 [some (.ref v0), some (.int v1), some (.int x23), j22] dX11_traceEach_87 (by decide) rfl (by decide) ex23 rfl ?_
      refine r_goto (pc := 90) X 2 dX11_traceEach_90 (by decide) ?_
      obtain rfl := Option.some.inj hf
      exact hk _
def fn_X11_traceEach (h : aH) (p0 : Nat) (p1 : Int32) : Option (aH) :=
  (lp (lb_X11_traceEach_2 p0 p1) lpN (0, h)).bind fun o26 =>
  some o26
set_option maxRecDepth 20000 in
set_option maxHeartbeats 4000000 in
theorem ev_X11_traceEach {l : Launch} {g : aG} {d : Nat} (hd : 4 ≤ d) (h : aH) (p0 : Nat) (p1 : Int32) (o : aH) (hf : fn_X11_traceEach h p0 p1 = some o) : EvM l g d yX11_traceEach cX11_traceEach 4 none [.ref p0, .int p1] h (none, o) := by
  refine EvM.of mk_X11_traceEach (Nat.le_of_ble_eq_true rfl) ?_
  intro Γ hl hg hq X
  have hd1 : 1 ≤ d := by omega
  have hk : RqV Γ o := hq
  unfold fn_X11_traceEach at hf
  show Jd Γ (0, 0) 0 [some (.ref p0), some (.int p1), none, none] [] h
  refine r_iconst (pc := 0) X 0 dX11_traceEach_0 (by decide) ?_
  refine r_istore_n (pc := 1) X [some (.ref p0), some (.int p1), some (.int 0), none] dX11_traceEach_1 (by decide) rfl ?_
  obtain ⟨o26, eo26, hf⟩ := ob hf
  refine (lw_X11_traceEach_2 X hd _ _ lpN _ o26 eo26 ?_) _
  obtain rfl := Option.some.inj hf
  exact hk

theorem dX11_mostLeft_0 : decode cX11_mostLeft 0 = .ok (.iconst 0, 1) := by decide +kernel
theorem dX11_mostLeft_1 : decode cX11_mostLeft 1 = .ok (.istore 4, 2) := by decide +kernel
theorem dX11_mostLeft_3 : decode cX11_mostLeft 3 = .ok (.iconst 0, 1) := by decide +kernel
theorem dX11_mostLeft_4 : decode cX11_mostLeft 4 = .ok (.istore 5, 2) := by decide +kernel
theorem dX11_mostLeft_6 : decode cX11_mostLeft 6 = .ok (.iload 5, 2) := by decide +kernel
theorem dX11_mostLeft_8 : decode cX11_mostLeft 8 = .ok (.bipush 9, 2) := by decide +kernel
theorem dX11_mostLeft_10 : decode cX11_mostLeft 10 = .ok (.if_icmp .gt 87, 3) := by decide +kernel
theorem dX11_mostLeft_13 : decode cX11_mostLeft 13 = .ok (.iconst 0, 1) := by decide +kernel
theorem dX11_mostLeft_14 : decode cX11_mostLeft 14 = .ok (.istore 6, 2) := by decide +kernel
theorem dX11_mostLeft_16 : decode cX11_mostLeft 16 = .ok (.iconst 0, 1) := by decide +kernel
theorem dX11_mostLeft_17 : decode cX11_mostLeft 17 = .ok (.istore 7, 2) := by decide +kernel
theorem dX11_mostLeft_19 : decode cX11_mostLeft 19 = .ok (.iload 7, 2) := by decide +kernel
theorem dX11_mostLeft_21 : decode cX11_mostLeft 21 = .ok (.aload_n 0, 1) := by decide +kernel
theorem dX11_mostLeft_22 : decode cX11_mostLeft 22 = .ok (.getfield 19, 3) := by decide +kernel
theorem dX11_mostLeft_25 : decode cX11_mostLeft 25 = .ok (.getfield 132, 3) := by decide +kernel
theorem dX11_mostLeft_28 : decode cX11_mostLeft 28 = .ok (.if_icmp .ge 54, 3) := by decide +kernel
theorem dX11_mostLeft_31 : decode cX11_mostLeft 31 = .ok (.iload_n 1, 1) := by decide +kernel
theorem dX11_mostLeft_32 : decode cX11_mostLeft 32 = .ok (.iload 7, 2) := by decide +kernel
theorem dX11_mostLeft_34 : decode cX11_mostLeft 34 = .ok (.ishr, 1) := by decide +kernel
theorem dX11_mostLeft_35 : decode cX11_mostLeft 35 = .ok (.iconst 1, 1) := by decide +kernel
theorem dX11_mostLeft_36 : decode cX11_mostLeft 36 = .ok (.iand, 1) := by decide +kernel
theorem dX11_mostLeft_37 : decode cX11_mostLeft 37 = .ok (.ifCond .eq 7, 3) := by decide +kernel
theorem dX11_mostLeft_40 : decode cX11_mostLeft 40 = .ok (.iconst 1, 1) := by decide +kernel
theorem dX11_mostLeft_41 : decode cX11_mostLeft 41 = .ok (.goto 4, 3) := by decide +kernel
theorem dX11_mostLeft_44 : decode cX11_mostLeft 44 = .ok (.iconst 0, 1) := by decide +kernel
theorem dX11_mostLeft_45 : decode cX11_mostLeft 45 = .ok (.istore 8, 2) := by decide +kernel
theorem dX11_mostLeft_47 : decode cX11_mostLeft 47 = .ok (.iload 8, 2) := by decide +kernel
theorem dX11_mostLeft_49 : decode cX11_mostLeft 49 = .ok (.ifCond .eq 27, 3) := by decide +kernel
theorem dX11_mostLeft_52 : decode cX11_mostLeft 52 = .ok (.aload_n 0, 1) := by decide +kernel
theorem dX11_mostLeft_53 : decode cX11_mostLeft 53 = .ok (.getfield 92, 3) := by decide +kernel
theorem dX11_mostLeft_56 : decode cX11_mostLeft 56 = .ok (.iload 7, 2) := by decide +kernel
theorem dX11_mostLeft_58 : decode cX11_mostLeft 58 = .ok (.bipush 21, 2) := by decide +kernel
theorem dX11_mostLeft_60 : decode cX11_mostLeft 60 = .ok (.imul, 1) := by decide +kernel
theorem dX11_mostLeft_61 : decode cX11_mostLeft 61 = .ok (.iload_n 3, 1) := by decide +kernel
theorem dX11_mostLeft_62 : decode cX11_mostLeft 62 = .ok (.iadd, 1) := by decide +kernel
theorem dX11_mostLeft_63 : decode cX11_mostLeft 63 = .ok (.laload, 1) := by decide +kernel
theorem dX11_mostLeft_64 : decode cX11_mostLeft 64 = .ok (.iload_n 2, 1) := by decide +kernel
theorem dX11_mostLeft_65 : decode cX11_mostLeft 65 = .ok (.invokestatic 392, 3) := by decide +kernel
theorem dX11_mostLeft_68 : decode cX11_mostLeft 68 = .ok (.iload 5, 2) := by decide +kernel
theorem dX11_mostLeft_70 : decode cX11_mostLeft 70 = .ok (.if_icmp .ne 6, 3) := by decide +kernel
theorem dX11_mostLeft_73 : decode cX11_mostLeft 73 = .ok (.iinc 6 1, 3) := by decide +kernel
theorem dX11_mostLeft_76 : decode cX11_mostLeft 76 = .ok (.iinc 7 1, 3) := by decide +kernel
theorem dX11_mostLeft_79 : decode cX11_mostLeft 79 = .ok (.goto (-60), 3) := by decide +kernel
theorem dX11_mostLeft_82 : decode cX11_mostLeft 82 = .ok (.iload 4, 2) := by decide +kernel
theorem dX11_mostLeft_84 : decode cX11_mostLeft 84 = .ok (.iload 6, 2) := by decide +kernel
theorem dX11_mostLeft_86 : decode cX11_mostLeft 86 = .ok (.invokestatic 235, 3) := by decide +kernel
theorem dX11_mostLeft_89 : decode cX11_mostLeft 89 = .ok (.istore 4, 2) := by decide +kernel
theorem dX11_mostLeft_91 : decode cX11_mostLeft 91 = .ok (.iinc 5 1, 3) := by decide +kernel
theorem dX11_mostLeft_94 : decode cX11_mostLeft 94 = .ok (.goto (-88), 3) := by decide +kernel
theorem dX11_mostLeft_97 : decode cX11_mostLeft 97 = .ok (.iload 4, 2) := by decide +kernel
theorem dX11_mostLeft_99 : decode cX11_mostLeft 99 = .ok (.ireturn, 1) := by decide +kernel
def lb_X11_mostLeft_19 (hh : aH) (v0 : Nat) (v1 : Int32) (v2 : Int32) (v3 : Int32) (v4 : Int32) (v5 : Int32) (s : Int32 × Int32) : Option ((Int32 × Int32) ⊕ ((Int32))) :=
  (gR hh v0 10 1).bind fun a1 =>
  (gI hh a1 0 1).bind fun x2 =>
  if s.2 < x2 then
    ((
      if ((v1 >>> (s.2 &&& 31)) &&& 1) = 0 then
        some 0
      else
        some 1
    ) : Option (Int32)).bind fun t3 =>
    if t3 = 0 then
      (some (s.2 + 1)).bind fun x4 =>
      some (.inl (s.1, x4))
    else
      (gR hh v0 10 13).bind fun a5 =>
      (aJ hh a5 ((s.2 * 21) + v3)).bind fun y6 =>
      (fn_X7_levelOf hh y6 v2).bind fun x7 =>
      if x7 = v5 then
        (some (s.1 + 1)).bind fun x9 =>
        (some (s.2 + 1)).bind fun x10 =>
        some (.inl (x9, x10))
      else
        (some (s.2 + 1)).bind fun x8 =>
        some (.inl (s.1, x8))
  else
    some (.inr s.1)
def hd_X11_mostLeft_19 (Γ : aC) (hh : aH) (v0 : Nat) (v1 : Int32) (v2 : Int32) (v3 : Int32) (v4 : Int32) (v5 : Int32) (s : Int32 × Int32) : Prop := ∀ (j8 : Option Value), Jd Γ (0, 0) 19 [some (.ref v0), some (.int v1), some (.int v2), some (.int v3), some (.int v4), some (.int v5), some (.int s.1), some (.int s.2), j8] [] hh
def ex_X11_mostLeft_19 (Γ : aC) (hh : aH) (v0 : Nat) (v1 : Int32) (v2 : Int32) (v3 : Int32) (v4 : Int32) (v5 : Int32) (r : (Int32)) : Prop := (fun r => ∀ (j7 : Option Value) (j8 : Option Value), Jd Γ (0, 0) 82 [some (.ref v0), some (.int v1), some (.int v2), some (.int v3), some (.int v4), some (.int v5), some (.int r), j7, j8] [] hh) r
set_option maxRecDepth 20000 in
set_option maxHeartbeats 4000000 in
theorem lw_X11_mostLeft_19 {Γ : aC} {d : Nat} (X : Cx Γ RX11 cX11_mostLeft 9 (some .int) (d, 0, 0)) (hd : 1 ≤ d) (hh : aH) (v0 : Nat) (v1 : Int32) (v2 : Int32) (v3 : Int32) (v4 : Int32) (v5 : Int32) : ∀ n s o, lp (lb_X11_mostLeft_19 hh v0 v1 v2 v3 v4 v5) n s = some o → ex_X11_mostLeft_19 Γ hh v0 v1 v2 v3 v4 v5 o → hd_X11_mostLeft_19 Γ hh v0 v1 v2 v3 v4 v5 s := by
  have hd1 : 1 ≤ d := by omega
  refine J_lp _ _ _ ?_
  intro s o hf hk j8
  unfold lb_X11_mostLeft_19 at hf
  refine r_iload (pc := 19) X dX11_mostLeft_19 rfl ?_
  refine r_aload_n (pc := 21) X dX11_mostLeft_21 rfl ?_
  obtain ⟨a1, ea1, hf⟩ := ob hf
  refine r_getR (pc := 22) X dX11_mostLeft_22 fl_X11_19 rfl ea1 ?_
  obtain ⟨x2, ex2, hf⟩ := ob hf
  refine r_getI (pc := 25) X dX11_mostLeft_25 fl_X11_132 rfl ex2 ?_
  refine r_icmp_ge (pc := 28) X 82 dX11_mostLeft_28 (by decide) (fun c14 => ?_) (fun c14 => ?_)
  · rw [if_neg c14] at hf
    obtain rfl := Option.some.inj hf
    exact hk _ _
  · rw [if_pos c14] at hf
    refine r_iload_n (pc := 31) X dX11_mostLeft_31 rfl ?_
    refine r_iload (pc := 32) X dX11_mostLeft_32 rfl ?_
    refine r_ishr (pc := 34) X dX11_mostLeft_34 ?_
    refine r_iconst (pc := 35) X 1 dX11_mostLeft_35 (by decide) ?_
    refine r_iand (pc := 36) X dX11_mostLeft_36 ?_
    obtain ⟨t3, et3, hf⟩ := ob hf
    have Jt3 : Jd Γ (0, 0) 45 [some (.ref v0), some (.int v1), some (.int v2), some (.int v3), some (.int v4), some (.int v5), some (.int s.1), some (.int s.2), j8] [.int t3] hh := by
      refine r_istore (pc := 45) X [some (.ref v0), some (.int v1), some (.int v2), some (.int v3), some (.int v4), some (.int v5), some (.int s.1), some (.int s.2), some (.int t3)] dX11_mostLeft_45 (by decide) rfl ?_
      refine r_iload (pc := 47) X dX11_mostLeft_47 rfl ?_
      refine r_if_eq (pc := 49) X 76 dX11_mostLeft_49 (by decide) (fun c12 => ?_) (fun c12 => ?_)
      · rw [if_pos c12] at hf
        obtain ⟨x4, ex4, hf⟩ := ob hf
        refine r_iinc2 (pc := 76) X 1 [some (.ref v0), some (.int v1), some (.int v2), some (.int v3), some (.int v4), some (.int v5), some (.int s.1), some (.int x4), some (.int t3)] dX11_mostLeft_76 (by decide) rfl (by decide) ex4 rfl ?_
        refine r_goto (pc := 79) X 19 dX11_mostLeft_79 (by decide) ?_
        obtain rfl := Option.some.inj hf
        exact hk _
      · rw [if_neg c12] at hf
        refine r_aload_n (pc := 52) X dX11_mostLeft_52 rfl ?_
        obtain ⟨a5, ea5, hf⟩ := ob hf
        refine r_getR (pc := 53) X dX11_mostLeft_53 fl_X11_92 rfl ea5 ?_
        refine r_iload (pc := 56) X dX11_mostLeft_56 rfl ?_
        refine r_bipush (pc := 58) X 21 dX11_mostLeft_58 (by decide) ?_
        refine r_imul (pc := 60) X dX11_mostLeft_60 ?_
        refine r_iload_n (pc := 61) X dX11_mostLeft_61 rfl ?_
        refine r_iadd (pc := 62) X dX11_mostLeft_62 ?_
        obtain ⟨y6, ey6, hf⟩ := ob hf
        refine r_lald (pc := 63) X dX11_mostLeft_63 ey6 ?_
        refine r_iload_n (pc := 64) X dX11_mostLeft_64 rfl ?_
        obtain ⟨x7, ex7, hf⟩ := ob hf
        refine r_callSI (pc := 65) X [.long y6, .int v2] dX11_mostLeft_65 ml_X11_392 so_X7_levelOf ⟨Nat.le_refl _, Nat.le_refl _⟩ (ev_X7_levelOf (d := d - 1) (by omega) _ _ _ _ ex7) hd1 rfl (Nat.le_of_ble_eq_true rfl) rfl ?_
        refine r_iload (pc := 68) X dX11_mostLeft_68 rfl ?_
        refine r_icmp_ne (pc := 70) X 76 dX11_mostLeft_70 (by decide) (fun c11 => ?_) (fun c11 => ?_)
        · rw [if_neg c11] at hf
          obtain ⟨x8, ex8, hf⟩ := ob hf
          refine r_iinc2 (pc := 76) X 1 [some (.ref v0), some (.int v1), some (.int v2), some (.int v3), some (.int v4), some (.int v5), some (.int s.1), some (.int x8), some (.int t3)] dX11_mostLeft_76 (by decide) rfl (by decide) ex8 rfl ?_
          refine r_goto (pc := 79) X 19 dX11_mostLeft_79 (by decide) ?_
          obtain rfl := Option.some.inj hf
          exact hk _
        · rw [if_pos c11] at hf
          obtain ⟨x9, ex9, hf⟩ := ob hf
          refine r_iinc2 (pc := 73) X 1 [some (.ref v0), some (.int v1), some (.int v2), some (.int v3), some (.int v4), some (.int v5), some (.int x9), some (.int s.2), some (.int t3)] dX11_mostLeft_73 (by decide) rfl (by decide) ex9 rfl ?_
          obtain ⟨x10, ex10, hf⟩ := ob hf
          refine r_iinc2 (pc := 76) X 1 [some (.ref v0), some (.int v1), some (.int v2), some (.int v3), some (.int v4), some (.int v5), some (.int x9), some (.int x10), some (.int t3)] dX11_mostLeft_76 (by decide) rfl (by decide) ex10 rfl ?_
          refine r_goto (pc := 79) X 19 dX11_mostLeft_79 (by decide) ?_
          obtain rfl := Option.some.inj hf
          exact hk _
    refine r_if_eq (pc := 37) X 44 dX11_mostLeft_37 (by decide) (fun c13 => ?_) (fun c13 => ?_)
    · rw [if_pos c13] at et3
      refine r_iconst (pc := 44) X 0 dX11_mostLeft_44 (by decide) ?_
      obtain rfl := Option.some.inj et3
      exact Jt3
    · rw [if_neg c13] at et3
      refine r_iconst (pc := 40) X 1 dX11_mostLeft_40 (by decide) ?_
      refine r_goto (pc := 41) X 45 dX11_mostLeft_41 (by decide) ?_
      obtain rfl := Option.some.inj et3
      exact Jt3
def lb_X11_mostLeft_6 (hh : aH) (v0 : Nat) (v1 : Int32) (v2 : Int32) (v3 : Int32) (s : Int32 × Int32) : Option ((Int32 × Int32) ⊕ ((Int32))) :=
  if s.2 ≤ 9 then
    (lp (lb_X11_mostLeft_19 hh v0 v1 v2 v3 s.1 s.2) lpN (0, 0)).bind fun o15 =>
    (some (mx s.1 o15)).bind fun x18 =>
    (some (s.2 + 1)).bind fun x19 =>
    some (.inl (x18, x19))
  else
    some (.inr s.1)
def hd_X11_mostLeft_6 (Γ : aC) (hh : aH) (v0 : Nat) (v1 : Int32) (v2 : Int32) (v3 : Int32) (s : Int32 × Int32) : Prop := ∀ (j6 : Option Value) (j7 : Option Value) (j8 : Option Value), Jd Γ (0, 0) 6 [some (.ref v0), some (.int v1), some (.int v2), some (.int v3), some (.int s.1), some (.int s.2), j6, j7, j8] [] hh
def ex_X11_mostLeft_6 (Γ : aC) (hh : aH) (v0 : Nat) (v1 : Int32) (v2 : Int32) (v3 : Int32) (r : (Int32)) : Prop := (fun r => RpI hh Γ r) r
set_option maxRecDepth 20000 in
set_option maxHeartbeats 4000000 in
theorem lw_X11_mostLeft_6 {Γ : aC} {d : Nat} (X : Cx Γ RX11 cX11_mostLeft 9 (some .int) (d, 0, 0)) (hd : 1 ≤ d) (hh : aH) (v0 : Nat) (v1 : Int32) (v2 : Int32) (v3 : Int32) : ∀ n s o, lp (lb_X11_mostLeft_6 hh v0 v1 v2 v3) n s = some o → ex_X11_mostLeft_6 Γ hh v0 v1 v2 v3 o → hd_X11_mostLeft_6 Γ hh v0 v1 v2 v3 s := by
  have hd1 : 1 ≤ d := by omega
  refine J_lp _ _ _ ?_
  intro s o hf hk j6 j7 j8
  unfold lb_X11_mostLeft_6 at hf
  refine r_iload (pc := 6) X dX11_mostLeft_6 rfl ?_
  refine r_bipush (pc := 8) X 9 dX11_mostLeft_8 (by decide) ?_
  refine r_icmp_gt (pc := 10) X 97 dX11_mostLeft_10 (by decide) (fun c20 => ?_) (fun c20 => ?_)
  · rw [if_neg c20] at hf
    refine r_iload (pc := 97) X dX11_mostLeft_97 rfl ?_
    obtain rfl := Option.some.inj hf
    exact r_iret (pc := 99) X dX11_mostLeft_99 hk
  · rw [if_pos c20] at hf
    refine r_iconst (pc := 13) X 0 dX11_mostLeft_13 (by decide) ?_
    refine r_istore (pc := 14) X [some (.ref v0), some (.int v1), some (.int v2), some (.int v3), some (.int s.1), some (.int s.2), some (.int 0), j7, j8] dX11_mostLeft_14 (by decide) rfl ?_
    refine r_iconst (pc := 16) X 0 dX11_mostLeft_16 (by decide) ?_
    refine r_istore (pc := 17) X [some (.ref v0), some (.int v1), some (.int v2), some (.int v3), some (.int s.1), some (.int s.2), some (.int 0), some (.int 0), j8] dX11_mostLeft_17 (by decide) rfl ?_
    obtain ⟨o15, eo15, hf⟩ := ob hf
    refine (lw_X11_mostLeft_19 X hd _ _ _ _ _ _ _ lpN _ o15 eo15 ?_) _
    intro j16 j17
    refine r_iload (pc := 82) X dX11_mostLeft_82 rfl ?_
    refine r_iload (pc := 84) X dX11_mostLeft_84 rfl ?_
    refine r_max (pc := 86) X dX11_mostLeft_86 ml_X11_235 ⟨Nat.le_refl _, Nat.le_refl _⟩ hd1 (Nat.le_of_ble_eq_true rfl) ?_
    obtain ⟨x18, ex18, hf⟩ := ob hf
    refine r_nmI ex18 ?_
    refine r_istore (pc := 89) X [some (.ref v0), some (.int v1), some (.int v2), some (.int v3), some (.int x18), some (.int s.2), some (.int o15), j16, j17] dX11_mostLeft_89 (by decide) rfl ?_
    obtain ⟨x19, ex19, hf⟩ := ob hf
    refine r_iinc2 (pc := 91) X 1 [some (.ref v0), some (.int v1), some (.int v2), some (.int v3), some (.int x18), some (.int x19), some (.int o15), j16, j17] dX11_mostLeft_91 (by decide) rfl (by decide) ex19 rfl ?_
    refine r_goto (pc := 94) X 6 dX11_mostLeft_94 (by decide) ?_
    obtain rfl := Option.some.inj hf
    exact hk _ _ _
def fn_X11_mostLeft (h : aH) (p0 : Nat) (p1 : Int32) (p2 : Int32) (p3 : Int32) : Option (Int32) :=
  (lp (lb_X11_mostLeft_6 h p0 p1 p2 p3) lpN (0, 0)).bind fun o21 =>
  some o21
set_option maxRecDepth 20000 in
set_option maxHeartbeats 4000000 in
theorem ev_X11_mostLeft {l : Launch} {g : aG} {d : Nat} (hd : 1 ≤ d) (h : aH) (p0 : Nat) (p1 : Int32) (p2 : Int32) (p3 : Int32) (o : Int32) (hf : fn_X11_mostLeft h p0 p1 p2 p3 = some o) : EvM l g d yX11_mostLeft cX11_mostLeft 9 (some .int) [.ref p0, .int p1, .int p2, .int p3] h (some (.int o), h) := by
  refine EvM.of mk_X11_mostLeft (Nat.le_of_ble_eq_true rfl) ?_
  intro Γ hl hg hq X
  have hd1 : 1 ≤ d := by omega
  have hk : RpI h Γ o := hq
  unfold fn_X11_mostLeft at hf
  show Jd Γ (0, 0) 0 [some (.ref p0), some (.int p1), some (.int p2), some (.int p3), none, none, none, none, none] [] h
  refine r_iconst (pc := 0) X 0 dX11_mostLeft_0 (by decide) ?_
  refine r_istore (pc := 1) X [some (.ref p0), some (.int p1), some (.int p2), some (.int p3), some (.int 0), none, none, none, none] dX11_mostLeft_1 (by decide) rfl ?_
  refine r_iconst (pc := 3) X 0 dX11_mostLeft_3 (by decide) ?_
  refine r_istore (pc := 4) X [some (.ref p0), some (.int p1), some (.int p2), some (.int p3), some (.int 0), some (.int 0), none, none, none] dX11_mostLeft_4 (by decide) rfl ?_
  obtain ⟨o21, eo21, hf⟩ := ob hf
  refine (lw_X11_mostLeft_6 X hd _ _ _ _ _ lpN _ o21 eo21 ?_) _ _ _
  obtain rfl := Option.some.inj hf
  exact hk

theorem dX11_looks_0 : decode cX11_looks 0 = .ok (.aload_n 0, 1) := by decide +kernel
theorem dX11_looks_1 : decode cX11_looks 1 = .ok (.invokevirtual 374, 3) := by decide +kernel
theorem dX11_looks_4 : decode cX11_looks 4 = .ok (.istore_n 1, 1) := by decide +kernel
theorem dX11_looks_5 : decode cX11_looks 5 = .ok (.iload_n 1, 1) := by decide +kernel
theorem dX11_looks_6 : decode cX11_looks 6 = .ok (.ifCond .ne 6, 3) := by decide +kernel
theorem dX11_looks_9 : decode cX11_looks 9 = .ok (.bipush (-2), 2) := by decide +kernel
theorem dX11_looks_11 : decode cX11_looks 11 = .ok (.ireturn, 1) := by decide +kernel
theorem dX11_looks_12 : decode cX11_looks 12 = .ok (.aload_n 0, 1) := by decide +kernel
theorem dX11_looks_13 : decode cX11_looks 13 = .ok (.iload_n 1, 1) := by decide +kernel
theorem dX11_looks_14 : decode cX11_looks 14 = .ok (.invokevirtual 386, 3) := by decide +kernel
theorem dX11_looks_17 : decode cX11_looks 17 = .ok (.bipush (-2), 2) := by decide +kernel
theorem dX11_looks_19 : decode cX11_looks 19 = .ok (.istore_n 2, 1) := by decide +kernel
theorem dX11_looks_20 : decode cX11_looks 20 = .ok (.sipush 1000, 3) := by decide +kernel
theorem dX11_looks_23 : decode cX11_looks 23 = .ok (.istore_n 3, 1) := by decide +kernel
theorem dX11_looks_24 : decode cX11_looks 24 = .ok (.iconst 0, 1) := by decide +kernel
theorem dX11_looks_25 : decode cX11_looks 25 = .ok (.istore 4, 2) := by decide +kernel
theorem dX11_looks_27 : decode cX11_looks 27 = .ok (.iload 4, 2) := by decide +kernel
theorem dX11_looks_29 : decode cX11_looks 29 = .ok (.aload_n 0, 1) := by decide +kernel
theorem dX11_looks_30 : decode cX11_looks 30 = .ok (.getfield 19, 3) := by decide +kernel
theorem dX11_looks_33 : decode cX11_looks 33 = .ok (.getfield 113, 3) := by decide +kernel
theorem dX11_looks_36 : decode cX11_looks 36 = .ok (.bipush 21, 2) := by decide +kernel
theorem dX11_looks_38 : decode cX11_looks 38 = .ok (.imul, 1) := by decide +kernel
theorem dX11_looks_39 : decode cX11_looks 39 = .ok (.if_icmp .ge 38, 3) := by decide +kernel
theorem dX11_looks_42 : decode cX11_looks 42 = .ok (.aload_n 0, 1) := by decide +kernel
theorem dX11_looks_43 : decode cX11_looks 43 = .ok (.iload_n 1, 1) := by decide +kernel
theorem dX11_looks_44 : decode cX11_looks 44 = .ok (.iload 4, 2) := by decide +kernel
theorem dX11_looks_46 : decode cX11_looks 46 = .ok (.bipush 21, 2) := by decide +kernel
theorem dX11_looks_48 : decode cX11_looks 48 = .ok (.idiv, 1) := by decide +kernel
theorem dX11_looks_49 : decode cX11_looks 49 = .ok (.iload 4, 2) := by decide +kernel
theorem dX11_looks_51 : decode cX11_looks 51 = .ok (.bipush 21, 2) := by decide +kernel
theorem dX11_looks_53 : decode cX11_looks 53 = .ok (.irem, 1) := by decide +kernel
theorem dX11_looks_54 : decode cX11_looks 54 = .ok (.invokevirtual 389, 3) := by decide +kernel
theorem dX11_looks_57 : decode cX11_looks 57 = .ok (.istore 5, 2) := by decide +kernel
theorem dX11_looks_59 : decode cX11_looks 59 = .ok (.iload 5, 2) := by decide +kernel
theorem dX11_looks_61 : decode cX11_looks 61 = .ok (.iload_n 3, 1) := by decide +kernel
theorem dX11_looks_62 : decode cX11_looks 62 = .ok (.if_icmp .ge 9, 3) := by decide +kernel
theorem dX11_looks_65 : decode cX11_looks 65 = .ok (.iload 5, 2) := by decide +kernel
theorem dX11_looks_67 : decode cX11_looks 67 = .ok (.istore_n 3, 1) := by decide +kernel
theorem dX11_looks_68 : decode cX11_looks 68 = .ok (.iload 4, 2) := by decide +kernel
theorem dX11_looks_70 : decode cX11_looks 70 = .ok (.istore_n 2, 1) := by decide +kernel
theorem dX11_looks_71 : decode cX11_looks 71 = .ok (.iinc 4 1, 3) := by decide +kernel
theorem dX11_looks_74 : decode cX11_looks 74 = .ok (.goto (-47), 3) := by decide +kernel
theorem dX11_looks_77 : decode cX11_looks 77 = .ok (.iload_n 2, 1) := by decide +kernel
theorem dX11_looks_78 : decode cX11_looks 78 = .ok (.bipush (-2), 2) := by decide +kernel
theorem dX11_looks_80 : decode cX11_looks 80 = .ok (.if_icmp .eq 19, 3) := by decide +kernel
theorem dX11_looks_83 : decode cX11_looks 83 = .ok (.aload_n 0, 1) := by decide +kernel
theorem dX11_looks_84 : decode cX11_looks 84 = .ok (.getfield 81, 3) := by decide +kernel
theorem dX11_looks_87 : decode cX11_looks 87 = .ok (.invokevirtual 242, 3) := by decide +kernel
theorem dX11_looks_90 : decode cX11_looks 90 = .ok (.aload_n 0, 1) := by decide +kernel
theorem dX11_looks_91 : decode cX11_looks 91 = .ok (.getfield 81, 3) := by decide +kernel
theorem dX11_looks_94 : decode cX11_looks 94 = .ok (.iload_n 3, 1) := by decide +kernel
theorem dX11_looks_95 : decode cX11_looks 95 = .ok (.i2l, 1) := by decide +kernel
theorem dX11_looks_96 : decode cX11_looks 96 = .ok (.invokevirtual 248, 3) := by decide +kernel
theorem dX11_looks_99 : decode cX11_looks 99 = .ok (.iload_n 2, 1) := by decide +kernel
theorem dX11_looks_100 : decode cX11_looks 100 = .ok (.ireturn, 1) := by decide +kernel
def lb_X11_looks_27 (hh : aH) (v0 : Nat) (v1 : Int32) (s : Int32 × Int32 × Int32) : Option ((Int32 × Int32 × Int32) ⊕ ((Int32 × Int32))) :=
  (gR hh v0 10 1).bind fun a5 =>
  (gI hh a5 0 0).bind fun x6 =>
  if s.2.2 < (x6 * 21) then
    (idv s.2.2 21).bind fun x7 =>
    (irm s.2.2 21).bind fun x8 =>
    (ck hh v0 10).bind fun u9 =>
    (fn_X11_mostLeft hh v0 v1 x7 x8).bind fun x10 =>
    if x10 < s.2.1 then
      (some (s.2.2 + 1)).bind fun x12 =>
      some (.inl (s.2.2, x10, x12))
    else
      (some (s.2.2 + 1)).bind fun x11 =>
      some (.inl (s.1, s.2.1, x11))
  else
    some (.inr (s.1, s.2.1))
def hd_X11_looks_27 (Γ : aC) (hh : aH) (v0 : Nat) (v1 : Int32) (s : Int32 × Int32 × Int32) : Prop := ∀ (j5 : Option Value), Jd Γ (0, 0) 27 [some (.ref v0), some (.int v1), some (.int s.1), some (.int s.2.1), some (.int s.2.2), j5] [] hh
def ex_X11_looks_27 (Γ : aC) (hh : aH) (v0 : Nat) (v1 : Int32) (r : (Int32 × Int32)) : Prop := (fun r => ∀ (j4 : Option Value) (j5 : Option Value), Jd Γ (0, 0) 77 [some (.ref v0), some (.int v1), some (.int r.1), some (.int r.2), j4, j5] [] hh) r
set_option maxRecDepth 20000 in
set_option maxHeartbeats 4000000 in
theorem lw_X11_looks_27 {Γ : aC} {d : Nat} (X : Cx Γ RX11 cX11_looks 6 (some .int) (d, 0, 0)) (hd : 6 ≤ d) (hh : aH) (v0 : Nat) (v1 : Int32) : ∀ n s o, lp (lb_X11_looks_27 hh v0 v1) n s = some o → ex_X11_looks_27 Γ hh v0 v1 o → hd_X11_looks_27 Γ hh v0 v1 s := by
  have hd1 : 1 ≤ d := by omega
  refine J_lp _ _ _ ?_
  intro s o hf hk j5
  unfold lb_X11_looks_27 at hf
  refine r_iload (pc := 27) X dX11_looks_27 rfl ?_
  refine r_aload_n (pc := 29) X dX11_looks_29 rfl ?_
  obtain ⟨a5, ea5, hf⟩ := ob hf
  refine r_getR (pc := 30) X dX11_looks_30 fl_X11_19 rfl ea5 ?_
  obtain ⟨x6, ex6, hf⟩ := ob hf
  refine r_getI (pc := 33) X dX11_looks_33 fl_X11_113 rfl ex6 ?_
  refine r_bipush (pc := 36) X 21 dX11_looks_36 (by decide) ?_
  refine r_imul (pc := 38) X dX11_looks_38 ?_
  refine r_icmp_ge (pc := 39) X 77 dX11_looks_39 (by decide) (fun c14 => ?_) (fun c14 => ?_)
  · rw [if_neg c14] at hf
    obtain rfl := Option.some.inj hf
    exact hk _ _
  · rw [if_pos c14] at hf
    refine r_aload_n (pc := 42) X dX11_looks_42 rfl ?_
    refine r_iload_n (pc := 43) X dX11_looks_43 rfl ?_
    refine r_iload (pc := 44) X dX11_looks_44 rfl ?_
    refine r_bipush (pc := 46) X 21 dX11_looks_46 (by decide) ?_
    obtain ⟨x7, ex7, hf⟩ := ob hf
    refine r_idiv (pc := 48) X dX11_looks_48 ex7 ?_
    refine r_iload (pc := 49) X dX11_looks_49 rfl ?_
    refine r_bipush (pc := 51) X 21 dX11_looks_51 (by decide) ?_
    obtain ⟨x8, ex8, hf⟩ := ob hf
    refine r_irem (pc := 53) X dX11_looks_53 ex8 ?_
    obtain ⟨u9, eu9, hf⟩ := ob hf
    obtain ⟨x10, ex10, hf⟩ := ob hf
    refine r_callVI (pc := 54) X [.int v1, .int x7, .int x8] dX11_looks_54 ml_X11_389 vo_X11_mostLeft ⟨Nat.le_refl _, Nat.le_refl _⟩ eu9 (ev_X11_mostLeft (d := d - 1) (by omega) _ _ _ _ _ _ ex10) hd1 rfl (Nat.le_of_ble_eq_true rfl) rfl ?_
    refine r_istore (pc := 57) X [some (.ref v0), some (.int v1), some (.int s.1), some (.int s.2.1), some (.int s.2.2), some (.int x10)] dX11_looks_57 (by decide) rfl ?_
    refine r_iload (pc := 59) X dX11_looks_59 rfl ?_
    refine r_iload_n (pc := 61) X dX11_looks_61 rfl ?_
    refine r_icmp_ge (pc := 62) X 71 dX11_looks_62 (by decide) (fun c13 => ?_) (fun c13 => ?_)
    · rw [if_neg c13] at hf
      obtain ⟨x11, ex11, hf⟩ := ob hf
      refine r_iinc2 (pc := 71) X 1 [some (.ref v0), some (.int v1), some (.int s.1), some (.int s.2.1), some (.int x11), some (.int x10)] dX11_looks_71 (by decide) rfl (by decide) ex11 rfl ?_
      refine r_goto (pc := 74) X 27 dX11_looks_74 (by decide) ?_
      obtain rfl := Option.some.inj hf
      exact hk _
    · rw [if_pos c13] at hf
      refine r_iload (pc := 65) X dX11_looks_65 rfl ?_
      refine r_istore_n (pc := 67) X [some (.ref v0), some (.int v1), some (.int s.1), some (.int x10), some (.int s.2.2), some (.int x10)] dX11_looks_67 (by decide) rfl ?_
      refine r_iload (pc := 68) X dX11_looks_68 rfl ?_
      refine r_istore_n (pc := 70) X [some (.ref v0), some (.int v1), some (.int s.2.2), some (.int x10), some (.int s.2.2), some (.int x10)] dX11_looks_70 (by decide) rfl ?_
      obtain ⟨x12, ex12, hf⟩ := ob hf
      refine r_iinc2 (pc := 71) X 1 [some (.ref v0), some (.int v1), some (.int s.2.2), some (.int x10), some (.int x12), some (.int x10)] dX11_looks_71 (by decide) rfl (by decide) ex12 rfl ?_
      refine r_goto (pc := 74) X 27 dX11_looks_74 (by decide) ?_
      obtain rfl := Option.some.inj hf
      exact hk _
def fn_X11_looks (h : aH) (p0 : Nat) : Option (Int32 × aH) :=
  (ck h p0 10).bind fun u1 =>
  (fn_X11_fittingSluices h p0).bind fun o2 =>
  if o2.1 = 0 then
    some ((-2), o2.2)
  else
    (ck o2.2 p0 10).bind fun u3 =>
    (fn_X11_traceEach o2.2 p0 o2.1).bind fun h4 =>
    (lp (lb_X11_looks_27 h4 p0 o2.1) lpN ((-2), 1000, 0)).bind fun o15 =>
    if o15.1 = (-2) then
      some (o15.1, h4)
    else
      (gR h4 p0 10 11).bind fun a18 =>
      (ck h4 a18 2).bind fun u19 =>
      (fn_X3_begin h4 a18).bind fun h20 =>
      (gR h20 p0 10 11).bind fun a21 =>
      (ck h20 a21 2).bind fun u22 =>
      (fn_X3_add h20 a21 (Int32.toInt64 o15.2)).bind fun h23 =>
      some (o15.1, h23)
set_option maxRecDepth 20000 in
set_option maxHeartbeats 4000000 in
theorem ev_X11_looks {l : Launch} {g : aG} {d : Nat} (hd : 6 ≤ d) (h : aH) (p0 : Nat) (o : Int32 × aH) (hf : fn_X11_looks h p0 = some o) : EvM l g d yX11_looks cX11_looks 6 (some .int) [.ref p0] h (some (.int o.1), o.2) := by
  refine EvM.of mk_X11_looks (Nat.le_of_ble_eq_true rfl) ?_
  intro Γ hl hg hq X
  have hd1 : 1 ≤ d := by omega
  have hk : RqI Γ o := hq
  unfold fn_X11_looks at hf
  show Jd Γ (0, 0) 0 [some (.ref p0), none, none, none, none, none] [] h
  refine r_aload_n (pc := 0) X dX11_looks_0 rfl ?_
  obtain ⟨u1, eu1, hf⟩ := ob hf
  obtain ⟨o2, eo2, hf⟩ := ob hf
  refine r_callVI (pc := 1) X [] dX11_looks_1 ml_X11_374 vo_X11_fittingSluices ⟨Nat.le_refl _, Nat.le_refl _⟩ eu1 (ev_X11_fittingSluices (d := d - 1) (by omega) _ _ _ eo2) hd1 rfl (Nat.le_of_ble_eq_true rfl) rfl ?_
  refine r_istore_n (pc := 4) X [some (.ref p0), some (.int o2.1), none, none, none, none] dX11_looks_4 (by decide) rfl ?_
  refine r_iload_n (pc := 5) X dX11_looks_5 rfl ?_
  refine r_if_ne (pc := 6) X 12 dX11_looks_6 (by decide) (fun c25 => ?_) (fun c25 => ?_)
  · rw [if_neg c25] at hf
    refine r_aload_n (pc := 12) X dX11_looks_12 rfl ?_
    refine r_iload_n (pc := 13) X dX11_looks_13 rfl ?_
    obtain ⟨u3, eu3, hf⟩ := ob hf
    obtain ⟨h4, eh4, hf⟩ := ob hf
    refine r_callVV (pc := 14) X [.int o2.1] dX11_looks_14 ml_X11_386 vo_X11_traceEach ⟨Nat.le_refl _, Nat.le_refl _⟩ eu3 (ev_X11_traceEach (d := d - 1) (by omega) _ _ _ _ eh4) hd1 rfl (Nat.le_of_ble_eq_true rfl) rfl ?_
    refine r_bipush (pc := 17) X (-2) dX11_looks_17 (by decide) ?_
    refine r_istore_n (pc := 19) X [some (.ref p0), some (.int o2.1), some (.int (-2)), none, none, none] dX11_looks_19 (by decide) rfl ?_
    refine r_sipush (pc := 20) X 1000 dX11_looks_20 (by decide) ?_
    refine r_istore_n (pc := 23) X [some (.ref p0), some (.int o2.1), some (.int (-2)), some (.int 1000), none, none] dX11_looks_23 (by decide) rfl ?_
    refine r_iconst (pc := 24) X 0 dX11_looks_24 (by decide) ?_
    refine r_istore (pc := 25) X [some (.ref p0), some (.int o2.1), some (.int (-2)), some (.int 1000), some (.int 0), none] dX11_looks_25 (by decide) rfl ?_
    obtain ⟨o15, eo15, hf⟩ := ob hf
    refine (lw_X11_looks_27 X hd _ _ _ lpN _ o15 eo15 ?_) _
    intro j16 j17
    refine r_iload_n (pc := 77) X dX11_looks_77 rfl ?_
    refine r_bipush (pc := 78) X (-2) dX11_looks_78 (by decide) ?_
    refine r_icmp_eq (pc := 80) X 99 dX11_looks_80 (by decide) (fun c24 => ?_) (fun c24 => ?_)
    · rw [if_pos c24] at hf
      refine r_iload_n (pc := 99) X dX11_looks_99 rfl ?_
      obtain rfl := Option.some.inj hf
      exact r_iret (pc := 100) X dX11_looks_100 hk
    · rw [if_neg c24] at hf
      refine r_aload_n (pc := 83) X dX11_looks_83 rfl ?_
      obtain ⟨a18, ea18, hf⟩ := ob hf
      refine r_getR (pc := 84) X dX11_looks_84 fl_X11_81 rfl ea18 ?_
      obtain ⟨u19, eu19, hf⟩ := ob hf
      obtain ⟨h20, eh20, hf⟩ := ob hf
      refine r_callVV (pc := 87) X [] dX11_looks_87 ml_X11_242 vo_X3_begin ⟨Nat.le_refl _, Nat.le_refl _⟩ eu19 (ev_X3_begin (d := d - 1) (by omega) _ _ _ eh20) hd1 rfl (Nat.le_of_ble_eq_true rfl) rfl ?_
      refine r_aload_n (pc := 90) X dX11_looks_90 rfl ?_
      obtain ⟨a21, ea21, hf⟩ := ob hf
      refine r_getR (pc := 91) X dX11_looks_91 fl_X11_81 rfl ea21 ?_
      refine r_iload_n (pc := 94) X dX11_looks_94 rfl ?_
      refine r_i2l (pc := 95) X dX11_looks_95 ?_
      obtain ⟨u22, eu22, hf⟩ := ob hf
      obtain ⟨h23, eh23, hf⟩ := ob hf
      refine r_callVV (pc := 96) X [.long (Int32.toInt64 o15.2)] dX11_looks_96 ml_X11_248 vo_X3_add ⟨Nat.le_refl _, Nat.le_refl _⟩ eu22 (ev_X3_add (d := d - 1) (by omega) _ _ _ _ eh23) hd1 rfl (Nat.le_of_ble_eq_true rfl) rfl ?_
      refine r_iload_n (pc := 99) X dX11_looks_99 rfl ?_
      obtain rfl := Option.some.inj hf
      exact r_iret (pc := 100) X dX11_looks_100 hk
  · rw [if_pos c25] at hf
    refine r_bipush (pc := 9) X (-2) dX11_looks_9 (by decide) ?_
    obtain rfl := Option.some.inj hf
    exact r_iret (pc := 11) X dX11_looks_11 hk

theorem dX11_levelWithStuck_0 : decode cX11_levelWithStuck 0 = .ok (.aload_n 0, 1) := by decide +kernel
theorem dX11_levelWithStuck_1 : decode cX11_levelWithStuck 1 = .ok (.invokevirtual 309, 3) := by decide +kernel
theorem dX11_levelWithStuck_4 : decode cX11_levelWithStuck 4 = .ok (.aload_n 0, 1) := by decide +kernel
theorem dX11_levelWithStuck_5 : decode cX11_levelWithStuck 5 = .ok (.getfield 68, 3) := by decide +kernel
theorem dX11_levelWithStuck_8 : decode cX11_levelWithStuck 8 = .ok (.dup, 1) := by decide +kernel
theorem dX11_levelWithStuck_9 : decode cX11_levelWithStuck 9 = .ok (.getfield 216, 3) := by decide +kernel
theorem dX11_levelWithStuck_12 : decode cX11_levelWithStuck 12 = .ok (.iload_n 1, 1) := by decide +kernel
theorem dX11_levelWithStuck_13 : decode cX11_levelWithStuck 13 = .ok (.ior, 1) := by decide +kernel
theorem dX11_levelWithStuck_14 : decode cX11_levelWithStuck 14 = .ok (.putfield 216, 3) := by decide +kernel
theorem dX11_levelWithStuck_17 : decode cX11_levelWithStuck 17 = .ok (.aload_n 0, 1) := by decide +kernel
theorem dX11_levelWithStuck_18 : decode cX11_levelWithStuck 18 = .ok (.getfield 19, 3) := by decide +kernel
theorem dX11_levelWithStuck_21 : decode cX11_levelWithStuck 21 = .ok (.aload_n 0, 1) := by decide +kernel
theorem dX11_levelWithStuck_22 : decode cX11_levelWithStuck 22 = .ok (.getfield 68, 3) := by decide +kernel
theorem dX11_levelWithStuck_25 : decode cX11_levelWithStuck 25 = .ok (.aload_n 0, 1) := by decide +kernel
theorem dX11_levelWithStuck_26 : decode cX11_levelWithStuck 26 = .ok (.getfield 42, 3) := by decide +kernel
theorem dX11_levelWithStuck_29 : decode cX11_levelWithStuck 29 = .ok (.iload_n 3, 1) := by decide +kernel
theorem dX11_levelWithStuck_30 : decode cX11_levelWithStuck 30 = .ok (.invokevirtual 312, 3) := by decide +kernel
theorem dX11_levelWithStuck_33 : decode cX11_levelWithStuck 33 = .ok (.aload_n 0, 1) := by decide +kernel
theorem dX11_levelWithStuck_34 : decode cX11_levelWithStuck 34 = .ok (.getfield 68, 3) := by decide +kernel
theorem dX11_levelWithStuck_37 : decode cX11_levelWithStuck 37 = .ok (.getfield 154, 3) := by decide +kernel
theorem dX11_levelWithStuck_40 : decode cX11_levelWithStuck 40 = .ok (.iload_n 2, 1) := by decide +kernel
theorem dX11_levelWithStuck_41 : decode cX11_levelWithStuck 41 = .ok (.iaload, 1) := by decide +kernel
theorem dX11_levelWithStuck_42 : decode cX11_levelWithStuck 42 = .ok (.ireturn, 1) := by decide +kernel
def fn_X11_levelWithStuck (h : aH) (p0 : Nat) (p1 : Int32) (p2 : Int32) (p3 : Int32) : Option (Int32 × aH) :=
  (ck h p0 10).bind fun u1 =>
  (fn_X11_startTrial h p0).bind fun h2 =>
  (gR h2 p0 10 9).bind fun a3 =>
  (gI h2 a3 6 3).bind fun x4 =>
  (pI h2 a3 6 3 (x4 ||| p1)).bind fun h5 =>
  (gR h5 p0 10 1).bind fun a6 =>
  (gR h5 p0 10 9).bind fun a7 =>
  (gR h5 p0 10 4).bind fun a8 =>
  (ck h5 a6 0).bind fun u9 =>
  (fn_X0_run h5 a6 a7 a8 p3).bind fun h10 =>
  (gR h10 p0 10 9).bind fun a11 =>
  (gR h10 a11 6 0).bind fun a12 =>
  (aI h10 a12 14 p2).bind fun x13 =>
  some (x13, h10)
set_option maxRecDepth 20000 in
set_option maxHeartbeats 4000000 in
theorem ev_X11_levelWithStuck {l : Launch} {g : aG} {d : Nat} (hd : 5 ≤ d) (h : aH) (p0 : Nat) (p1 : Int32) (p2 : Int32) (p3 : Int32) (o : Int32 × aH) (hf : fn_X11_levelWithStuck h p0 p1 p2 p3 = some o) : EvM l g d yX11_levelWithStuck cX11_levelWithStuck 4 (some .int) [.ref p0, .int p1, .int p2, .int p3] h (some (.int o.1), o.2) := by
  refine EvM.of mk_X11_levelWithStuck (Nat.le_of_ble_eq_true rfl) ?_
  intro Γ hl hg hq X
  have hd1 : 1 ≤ d := by omega
  have hk : RqI Γ o := hq
  unfold fn_X11_levelWithStuck at hf
  show Jd Γ (0, 0) 0 [some (.ref p0), some (.int p1), some (.int p2), some (.int p3)] [] h
  refine r_aload_n (pc := 0) X dX11_levelWithStuck_0 rfl ?_
  obtain ⟨u1, eu1, hf⟩ := ob hf
  obtain ⟨h2, eh2, hf⟩ := ob hf
  refine r_callVV (pc := 1) X [] dX11_levelWithStuck_1 ml_X11_309 vo_X11_startTrial ⟨Nat.le_refl _, Nat.le_refl _⟩ eu1 (ev_X11_startTrial (d := d - 1) (by omega) _ _ _ eh2) hd1 rfl (Nat.le_of_ble_eq_true rfl) rfl ?_
  refine r_aload_n (pc := 4) X dX11_levelWithStuck_4 rfl ?_
  obtain ⟨a3, ea3, hf⟩ := ob hf
  refine r_getR (pc := 5) X dX11_levelWithStuck_5 fl_X11_68 rfl ea3 ?_
  refine r_dup (pc := 8) X dX11_levelWithStuck_8 rfl ?_
  obtain ⟨x4, ex4, hf⟩ := ob hf
  refine r_getI (pc := 9) X dX11_levelWithStuck_9 fl_X11_216 rfl ex4 ?_
  refine r_iload_n (pc := 12) X dX11_levelWithStuck_12 rfl ?_
  refine r_ior (pc := 13) X dX11_levelWithStuck_13 ?_
  obtain ⟨h5, eh5, hf⟩ := ob hf
  refine r_putI (pc := 14) X dX11_levelWithStuck_14 fp_X11_216 rfl eh5 ?_
  refine r_aload_n (pc := 17) X dX11_levelWithStuck_17 rfl ?_
  obtain ⟨a6, ea6, hf⟩ := ob hf
  refine r_getR (pc := 18) X dX11_levelWithStuck_18 fl_X11_19 rfl ea6 ?_
  refine r_aload_n (pc := 21) X dX11_levelWithStuck_21 rfl ?_
  obtain ⟨a7, ea7, hf⟩ := ob hf
  refine r_getR (pc := 22) X dX11_levelWithStuck_22 fl_X11_68 rfl ea7 ?_
  refine r_aload_n (pc := 25) X dX11_levelWithStuck_25 rfl ?_
  obtain ⟨a8, ea8, hf⟩ := ob hf
  refine r_getR (pc := 26) X dX11_levelWithStuck_26 fl_X11_42 rfl ea8 ?_
  refine r_iload_n (pc := 29) X dX11_levelWithStuck_29 rfl ?_
  obtain ⟨u9, eu9, hf⟩ := ob hf
  obtain ⟨h10, eh10, hf⟩ := ob hf
  refine r_callVV (pc := 30) X [.ref a7, .ref a8, .int p3] dX11_levelWithStuck_30 ml_X11_312 vo_X0_run ⟨Nat.le_refl _, Nat.le_refl _⟩ eu9 (ev_X0_run (d := d - 1) (by omega) _ _ _ _ _ _ eh10) hd1 rfl (Nat.le_of_ble_eq_true rfl) rfl ?_
  refine r_aload_n (pc := 33) X dX11_levelWithStuck_33 rfl ?_
  obtain ⟨a11, ea11, hf⟩ := ob hf
  refine r_getR (pc := 34) X dX11_levelWithStuck_34 fl_X11_68 rfl ea11 ?_
  obtain ⟨a12, ea12, hf⟩ := ob hf
  refine r_getR (pc := 37) X dX11_levelWithStuck_37 fl_X11_154 rfl ea12 ?_
  refine r_iload_n (pc := 40) X dX11_levelWithStuck_40 rfl ?_
  obtain ⟨x13, ex13, hf⟩ := ob hf
  refine r_iald (pc := 41) X dX11_levelWithStuck_41 ex13 ?_
  obtain rfl := Option.some.inj hf
  exact r_iret (pc := 42) X dX11_levelWithStuck_42 hk

theorem dX11_needs_0 : decode cX11_needs 0 = .ok (.aload_n 0, 1) := by decide +kernel
theorem dX11_needs_1 : decode cX11_needs 1 = .ok (.getfield 19, 3) := by decide +kernel
theorem dX11_needs_4 : decode cX11_needs 4 = .ok (.iload_n 1, 1) := by decide +kernel
theorem dX11_needs_5 : decode cX11_needs 5 = .ok (.invokevirtual 172, 3) := by decide +kernel
theorem dX11_needs_8 : decode cX11_needs 8 = .ok (.ifCond .eq 13, 3) := by decide +kernel
theorem dX11_needs_11 : decode cX11_needs 11 = .ok (.iload_n 2, 1) := by decide +kernel
theorem dX11_needs_12 : decode cX11_needs 12 = .ok (.ifCond .lt 9, 3) := by decide +kernel
theorem dX11_needs_15 : decode cX11_needs 15 = .ok (.iload_n 2, 1) := by decide +kernel
theorem dX11_needs_16 : decode cX11_needs 16 = .ok (.bipush 40, 2) := by decide +kernel
theorem dX11_needs_18 : decode cX11_needs 18 = .ok (.if_icmp .le 5, 3) := by decide +kernel
theorem dX11_needs_21 : decode cX11_needs 21 = .ok (.iconst (-1), 1) := by decide +kernel
theorem dX11_needs_22 : decode cX11_needs 22 = .ok (.ireturn, 1) := by decide +kernel
theorem dX11_needs_23 : decode cX11_needs 23 = .ok (.aload_n 0, 1) := by decide +kernel
theorem dX11_needs_24 : decode cX11_needs 24 = .ok (.iconst 0, 1) := by decide +kernel
theorem dX11_needs_25 : decode cX11_needs 25 = .ok (.iload_n 1, 1) := by decide +kernel
theorem dX11_needs_26 : decode cX11_needs 26 = .ok (.iload_n 2, 1) := by decide +kernel
theorem dX11_needs_27 : decode cX11_needs 27 = .ok (.invokevirtual 396, 3) := by decide +kernel
theorem dX11_needs_30 : decode cX11_needs 30 = .ok (.istore_n 3, 1) := by decide +kernel
theorem dX11_needs_31 : decode cX11_needs 31 = .ok (.iconst 0, 1) := by decide +kernel
theorem dX11_needs_32 : decode cX11_needs 32 = .ok (.istore 4, 2) := by decide +kernel
theorem dX11_needs_34 : decode cX11_needs 34 = .ok (.iconst 0, 1) := by decide +kernel
theorem dX11_needs_35 : decode cX11_needs 35 = .ok (.istore 5, 2) := by decide +kernel
theorem dX11_needs_37 : decode cX11_needs 37 = .ok (.iload 5, 2) := by decide +kernel
theorem dX11_needs_39 : decode cX11_needs 39 = .ok (.aload_n 0, 1) := by decide +kernel
theorem dX11_needs_40 : decode cX11_needs 40 = .ok (.getfield 19, 3) := by decide +kernel
theorem dX11_needs_43 : decode cX11_needs 43 = .ok (.getfield 132, 3) := by decide +kernel
theorem dX11_needs_46 : decode cX11_needs 46 = .ok (.if_icmp .ge 47, 3) := by decide +kernel
theorem dX11_needs_49 : decode cX11_needs 49 = .ok (.aload_n 0, 1) := by decide +kernel
theorem dX11_needs_50 : decode cX11_needs 50 = .ok (.getfield 61, 3) := by decide +kernel
theorem dX11_needs_53 : decode cX11_needs 53 = .ok (.getfield 216, 3) := by decide +kernel
theorem dX11_needs_56 : decode cX11_needs 56 = .ok (.iload 5, 2) := by decide +kernel
theorem dX11_needs_58 : decode cX11_needs 58 = .ok (.ishr, 1) := by decide +kernel
theorem dX11_needs_59 : decode cX11_needs 59 = .ok (.iconst 1, 1) := by decide +kernel
theorem dX11_needs_60 : decode cX11_needs 60 = .ok (.iand, 1) := by decide +kernel
theorem dX11_needs_61 : decode cX11_needs 61 = .ok (.ifCond .ne 26, 3) := by decide +kernel
theorem dX11_needs_64 : decode cX11_needs 64 = .ok (.aload_n 0, 1) := by decide +kernel
theorem dX11_needs_65 : decode cX11_needs 65 = .ok (.iconst 1, 1) := by decide +kernel
theorem dX11_needs_66 : decode cX11_needs 66 = .ok (.iload 5, 2) := by decide +kernel
theorem dX11_needs_68 : decode cX11_needs 68 = .ok (.ishl, 1) := by decide +kernel
theorem dX11_needs_69 : decode cX11_needs 69 = .ok (.iload_n 1, 1) := by decide +kernel
theorem dX11_needs_70 : decode cX11_needs 70 = .ok (.iload_n 2, 1) := by decide +kernel
theorem dX11_needs_71 : decode cX11_needs 71 = .ok (.invokevirtual 396, 3) := by decide +kernel
theorem dX11_needs_74 : decode cX11_needs 74 = .ok (.iload_n 3, 1) := by decide +kernel
theorem dX11_needs_75 : decode cX11_needs 75 = .ok (.if_icmp .eq 12, 3) := by decide +kernel
theorem dX11_needs_78 : decode cX11_needs 78 = .ok (.iload 4, 2) := by decide +kernel
theorem dX11_needs_80 : decode cX11_needs 80 = .ok (.iconst 1, 1) := by decide +kernel
theorem dX11_needs_81 : decode cX11_needs 81 = .ok (.iload 5, 2) := by decide +kernel
theorem dX11_needs_83 : decode cX11_needs 83 = .ok (.ishl, 1) := by decide +kernel
theorem dX11_needs_84 : decode cX11_needs 84 = .ok (.ior, 1) := by decide +kernel
theorem dX11_needs_85 : decode cX11_needs 85 = .ok (.istore 4, 2) := by decide +kernel
theorem dX11_needs_87 : decode cX11_needs 87 = .ok (.iinc 5 1, 3) := by decide +kernel
theorem dX11_needs_90 : decode cX11_needs 90 = .ok (.goto (-53), 3) := by decide +kernel
theorem dX11_needs_93 : decode cX11_needs 93 = .ok (.aload_n 0, 1) := by decide +kernel
theorem dX11_needs_94 : decode cX11_needs 94 = .ok (.getfield 81, 3) := by decide +kernel
theorem dX11_needs_97 : decode cX11_needs 97 = .ok (.invokevirtual 242, 3) := by decide +kernel
theorem dX11_needs_100 : decode cX11_needs 100 = .ok (.aload_n 0, 1) := by decide +kernel
theorem dX11_needs_101 : decode cX11_needs 101 = .ok (.getfield 81, 3) := by decide +kernel
theorem dX11_needs_104 : decode cX11_needs 104 = .ok (.iload 4, 2) := by decide +kernel
theorem dX11_needs_106 : decode cX11_needs 106 = .ok (.invokestatic 366, 3) := by decide +kernel
theorem dX11_needs_109 : decode cX11_needs 109 = .ok (.i2l, 1) := by decide +kernel
theorem dX11_needs_110 : decode cX11_needs 110 = .ok (.invokevirtual 248, 3) := by decide +kernel
theorem dX11_needs_113 : decode cX11_needs 113 = .ok (.iload 4, 2) := by decide +kernel
theorem dX11_needs_115 : decode cX11_needs 115 = .ok (.ireturn, 1) := by decide +kernel
def lb_X11_needs_37 (v0 : Nat) (v1 : Int32) (v2 : Int32) (v3 : Int32) (s : Int32 × Int32 × aH) : Option ((Int32 × Int32 × aH) ⊕ ((Int32 × aH))) :=
  (gR s.2.2 v0 10 1).bind fun a6 =>
  (gI s.2.2 a6 0 1).bind fun x7 =>
  if s.2.1 < x7 then
    (gR s.2.2 v0 10 7).bind fun a8 =>
    (gI s.2.2 a8 6 3).bind fun x9 =>
    if ((x9 >>> (s.2.1 &&& 31)) &&& 1) = 0 then
      (ck s.2.2 v0 10).bind fun u11 =>
      (fn_X11_levelWithStuck s.2.2 v0 (1 <<< (s.2.1 &&& 31)) v1 v2).bind fun o12 =>
      if o12.1 = v3 then
        (some (s.2.1 + 1)).bind fun x13 =>
        some (.inl (s.1, x13, o12.2))
      else
        (some (s.1 ||| (1 <<< (s.2.1 &&& 31)))).bind fun x14 =>
        (some (s.2.1 + 1)).bind fun x15 =>
        some (.inl (x14, x15, o12.2))
    else
      (some (s.2.1 + 1)).bind fun x10 =>
      some (.inl (s.1, x10, s.2.2))
  else
    some (.inr (s.1, s.2.2))
def hd_X11_needs_37 (Γ : aC) (v0 : Nat) (v1 : Int32) (v2 : Int32) (v3 : Int32) (s : Int32 × Int32 × aH) : Prop := Jd Γ (0, 0) 37 [some (.ref v0), some (.int v1), some (.int v2), some (.int v3), some (.int s.1), some (.int s.2.1)] [] s.2.2
def ex_X11_needs_37 (Γ : aC) (v0 : Nat) (v1 : Int32) (v2 : Int32) (v3 : Int32) (r : (Int32 × aH)) : Prop := (fun r => ∀ (j5 : Option Value), Jd Γ (0, 0) 93 [some (.ref v0), some (.int v1), some (.int v2), some (.int v3), some (.int r.1), j5] [] r.2) r
set_option maxRecDepth 20000 in
set_option maxHeartbeats 4000000 in
theorem lw_X11_needs_37 {Γ : aC} {d : Nat} (X : Cx Γ RX11 cX11_needs 6 (some .int) (d, 0, 0)) (hd : 6 ≤ d) (v0 : Nat) (v1 : Int32) (v2 : Int32) (v3 : Int32) : ∀ n s o, lp (lb_X11_needs_37 v0 v1 v2 v3) n s = some o → ex_X11_needs_37 Γ v0 v1 v2 v3 o → hd_X11_needs_37 Γ v0 v1 v2 v3 s := by
  have hd1 : 1 ≤ d := by omega
  refine J_lp _ _ _ ?_
  intro s o hf hk
  unfold lb_X11_needs_37 at hf
  refine r_iload (pc := 37) X dX11_needs_37 rfl ?_
  refine r_aload_n (pc := 39) X dX11_needs_39 rfl ?_
  obtain ⟨a6, ea6, hf⟩ := ob hf
  refine r_getR (pc := 40) X dX11_needs_40 fl_X11_19 rfl ea6 ?_
  obtain ⟨x7, ex7, hf⟩ := ob hf
  refine r_getI (pc := 43) X dX11_needs_43 fl_X11_132 rfl ex7 ?_
  refine r_icmp_ge (pc := 46) X 93 dX11_needs_46 (by decide) (fun c18 => ?_) (fun c18 => ?_)
  · rw [if_neg c18] at hf
    obtain rfl := Option.some.inj hf
    exact hk _
  · rw [if_pos c18] at hf
    refine r_aload_n (pc := 49) X dX11_needs_49 rfl ?_
    obtain ⟨a8, ea8, hf⟩ := ob hf
    refine r_getR (pc := 50) X dX11_needs_50 fl_X11_61 rfl ea8 ?_
    obtain ⟨x9, ex9, hf⟩ := ob hf
    refine r_getI (pc := 53) X dX11_needs_53 fl_X11_216 rfl ex9 ?_
    refine r_iload (pc := 56) X dX11_needs_56 rfl ?_
    refine r_ishr (pc := 58) X dX11_needs_58 ?_
    refine r_iconst (pc := 59) X 1 dX11_needs_59 (by decide) ?_
    refine r_iand (pc := 60) X dX11_needs_60 ?_
    refine r_if_ne (pc := 61) X 87 dX11_needs_61 (by decide) (fun c17 => ?_) (fun c17 => ?_)
    · rw [if_neg c17] at hf
      obtain ⟨x10, ex10, hf⟩ := ob hf
      refine r_iinc2 (pc := 87) X 1 [some (.ref v0), some (.int v1), some (.int v2), some (.int v3), some (.int s.1), some (.int x10)] dX11_needs_87 (by decide) rfl (by decide) ex10 rfl ?_
      refine r_goto (pc := 90) X 37 dX11_needs_90 (by decide) ?_
      obtain rfl := Option.some.inj hf
      exact hk
    · rw [if_pos c17] at hf
      refine r_aload_n (pc := 64) X dX11_needs_64 rfl ?_
      refine r_iconst (pc := 65) X 1 dX11_needs_65 (by decide) ?_
      refine r_iload (pc := 66) X dX11_needs_66 rfl ?_
      refine r_ishl (pc := 68) X dX11_needs_68 ?_
      refine r_iload_n (pc := 69) X dX11_needs_69 rfl ?_
      refine r_iload_n (pc := 70) X dX11_needs_70 rfl ?_
      obtain ⟨u11, eu11, hf⟩ := ob hf
      obtain ⟨o12, eo12, hf⟩ := ob hf
      refine r_callVI (pc := 71) X [.int (1 <<< (s.2.1 &&& 31)), .int v1, .int v2] dX11_needs_71 ml_X11_396 vo_X11_levelWithStuck ⟨Nat.le_refl _, Nat.le_refl _⟩ eu11 (ev_X11_levelWithStuck (d := d - 1) (by omega) _ _ _ _ _ _ eo12) hd1 rfl (Nat.le_of_ble_eq_true rfl) rfl ?_
      refine r_iload_n (pc := 74) X dX11_needs_74 rfl ?_
      refine r_icmp_eq (pc := 75) X 87 dX11_needs_75 (by decide) (fun c16 => ?_) (fun c16 => ?_)
      · rw [if_pos c16] at hf
        obtain ⟨x13, ex13, hf⟩ := ob hf
        refine r_iinc2 (pc := 87) X 1 [some (.ref v0), some (.int v1), some (.int v2), some (.int v3), some (.int s.1), some (.int x13)] dX11_needs_87 (by decide) rfl (by decide) ex13 rfl ?_
        refine r_goto (pc := 90) X 37 dX11_needs_90 (by decide) ?_
        obtain rfl := Option.some.inj hf
        exact hk
      · rw [if_neg c16] at hf
        refine r_iload (pc := 78) X dX11_needs_78 rfl ?_
        refine r_iconst (pc := 80) X 1 dX11_needs_80 (by decide) ?_
        refine r_iload (pc := 81) X dX11_needs_81 rfl ?_
        refine r_ishl (pc := 83) X dX11_needs_83 ?_
        refine r_ior (pc := 84) X dX11_needs_84 ?_
        obtain ⟨x14, ex14, hf⟩ := ob hf
        refine r_nmI ex14 ?_
        refine r_istore (pc := 85) X [some (.ref v0), some (.int v1), some (.int v2), some (.int v3), some (.int x14), some (.int s.2.1)] dX11_needs_85 (by decide) rfl ?_
        obtain ⟨x15, ex15, hf⟩ := ob hf
        refine r_iinc2 (pc := 87) X 1 [some (.ref v0), some (.int v1), some (.int v2), some (.int v3), some (.int x14), some (.int x15)] dX11_needs_87 (by decide) rfl (by decide) ex15 rfl ?_
        refine r_goto (pc := 90) X 37 dX11_needs_90 (by decide) ?_
        obtain rfl := Option.some.inj hf
        exact hk
def fn_X11_needs (h : aH) (p0 : Nat) (p1 : Int32) (p2 : Int32) : Option (Int32 × aH) :=
  (gR h p0 10 1).bind fun a1 =>
  (ck h a1 0).bind fun u2 =>
  (fn_X0_hasBasin h a1 p1).bind fun x3 =>
  if x3 = 0 then
    some ((-1), h)
  else
    if p2 < 0 then
      some ((-1), h)
    else
      if p2 ≤ 40 then
        (ck h p0 10).bind fun u4 =>
        (fn_X11_levelWithStuck h p0 0 p1 p2).bind fun o5 =>
        (lp (lb_X11_needs_37 p0 p1 p2 o5.1) lpN (0, 0, o5.2)).bind fun o19 =>
        (gR o19.2 p0 10 11).bind fun a21 =>
        (ck o19.2 a21 2).bind fun u22 =>
        (fn_X3_begin o19.2 a21).bind fun h23 =>
        (gR h23 p0 10 11).bind fun a24 =>
        (fn_J6_bitCount_0f7a4 h23 o19.1).bind fun x25 =>
        (ck h23 a24 2).bind fun u26 =>
        (fn_X3_add h23 a24 (Int32.toInt64 x25)).bind fun h27 =>
        some (o19.1, h27)
      else
        some ((-1), h)
set_option maxRecDepth 20000 in
set_option maxHeartbeats 4000000 in
theorem ev_X11_needs {l : Launch} {g : aG} {d : Nat} (hd : 6 ≤ d) (h : aH) (p0 : Nat) (p1 : Int32) (p2 : Int32) (o : Int32 × aH) (hf : fn_X11_needs h p0 p1 p2 = some o) : EvM l g d yX11_needs cX11_needs 6 (some .int) [.ref p0, .int p1, .int p2] h (some (.int o.1), o.2) := by
  refine EvM.of mk_X11_needs (Nat.le_of_ble_eq_true rfl) ?_
  intro Γ hl hg hq X
  have hd1 : 1 ≤ d := by omega
  have hk : RqI Γ o := hq
  unfold fn_X11_needs at hf
  show Jd Γ (0, 0) 0 [some (.ref p0), some (.int p1), some (.int p2), none, none, none] [] h
  refine r_aload_n (pc := 0) X dX11_needs_0 rfl ?_
  obtain ⟨a1, ea1, hf⟩ := ob hf
  refine r_getR (pc := 1) X dX11_needs_1 fl_X11_19 rfl ea1 ?_
  refine r_iload_n (pc := 4) X dX11_needs_4 rfl ?_
  obtain ⟨u2, eu2, hf⟩ := ob hf
  obtain ⟨x3, ex3, hf⟩ := ob hf
  refine r_callVI (pc := 5) X [.int p1] dX11_needs_5 ml_X11_172 vo_X0_hasBasin ⟨Nat.le_refl _, Nat.le_refl _⟩ eu2 (ev_X0_hasBasin (d := d - 1) (by omega) _ _ _ _ ex3) hd1 rfl (Nat.le_of_ble_eq_true rfl) rfl ?_
  refine r_if_eq (pc := 8) X 21 dX11_needs_8 (by decide) (fun c30 => ?_) (fun c30 => ?_)
  · rw [if_pos c30] at hf
    refine r_iconst (pc := 21) X (-1) dX11_needs_21 (by decide) ?_
    obtain rfl := Option.some.inj hf
    exact r_iret (pc := 22) X dX11_needs_22 hk
  · rw [if_neg c30] at hf
    refine r_iload_n (pc := 11) X dX11_needs_11 rfl ?_
    refine r_if_lt (pc := 12) X 21 dX11_needs_12 (by decide) (fun c29 => ?_) (fun c29 => ?_)
    · rw [if_pos c29] at hf
      refine r_iconst (pc := 21) X (-1) dX11_needs_21 (by decide) ?_
      obtain rfl := Option.some.inj hf
      exact r_iret (pc := 22) X dX11_needs_22 hk
    · rw [if_neg c29] at hf
      refine r_iload_n (pc := 15) X dX11_needs_15 rfl ?_
      refine r_bipush (pc := 16) X 40 dX11_needs_16 (by decide) ?_
      refine r_icmp_le (pc := 18) X 23 dX11_needs_18 (by decide) (fun c28 => ?_) (fun c28 => ?_)
      · rw [if_pos c28] at hf
        refine r_aload_n (pc := 23) X dX11_needs_23 rfl ?_
        refine r_iconst (pc := 24) X 0 dX11_needs_24 (by decide) ?_
        refine r_iload_n (pc := 25) X dX11_needs_25 rfl ?_
        refine r_iload_n (pc := 26) X dX11_needs_26 rfl ?_
        obtain ⟨u4, eu4, hf⟩ := ob hf
        obtain ⟨o5, eo5, hf⟩ := ob hf
        refine r_callVI (pc := 27) X [.int 0, .int p1, .int p2] dX11_needs_27 ml_X11_396 vo_X11_levelWithStuck ⟨Nat.le_refl _, Nat.le_refl _⟩ eu4 (ev_X11_levelWithStuck (d := d - 1) (by omega) _ _ _ _ _ _ eo5) hd1 rfl (Nat.le_of_ble_eq_true rfl) rfl ?_
        refine r_istore_n (pc := 30) X [some (.ref p0), some (.int p1), some (.int p2), some (.int o5.1), none, none] dX11_needs_30 (by decide) rfl ?_
        refine r_iconst (pc := 31) X 0 dX11_needs_31 (by decide) ?_
        refine r_istore (pc := 32) X [some (.ref p0), some (.int p1), some (.int p2), some (.int o5.1), some (.int 0), none] dX11_needs_32 (by decide) rfl ?_
        refine r_iconst (pc := 34) X 0 dX11_needs_34 (by decide) ?_
        refine r_istore (pc := 35) X [some (.ref p0), some (.int p1), some (.int p2), some (.int o5.1), some (.int 0), some (.int 0)] dX11_needs_35 (by decide) rfl ?_
        obtain ⟨o19, eo19, hf⟩ := ob hf
        refine (lw_X11_needs_37 X hd _ _ _ _ lpN _ o19 eo19 ?_)
        intro j20
        refine r_aload_n (pc := 93) X dX11_needs_93 rfl ?_
        obtain ⟨a21, ea21, hf⟩ := ob hf
        refine r_getR (pc := 94) X dX11_needs_94 fl_X11_81 rfl ea21 ?_
        obtain ⟨u22, eu22, hf⟩ := ob hf
        obtain ⟨h23, eh23, hf⟩ := ob hf
        refine r_callVV (pc := 97) X [] dX11_needs_97 ml_X11_242 vo_X3_begin ⟨Nat.le_refl _, Nat.le_refl _⟩ eu22 (ev_X3_begin (d := d - 1) (by omega) _ _ _ eh23) hd1 rfl (Nat.le_of_ble_eq_true rfl) rfl ?_
        refine r_aload_n (pc := 100) X dX11_needs_100 rfl ?_
        obtain ⟨a24, ea24, hf⟩ := ob hf
        refine r_getR (pc := 101) X dX11_needs_101 fl_X11_81 rfl ea24 ?_
        refine r_iload (pc := 104) X dX11_needs_104 rfl ?_
        obtain ⟨x25, ex25, hf⟩ := ob hf
        refine r_callSI (pc := 106) X [.int o19.1] dX11_needs_106 ml_X11_366 so_J6_bitCount_0f7a4 ⟨Nat.le_refl _, Nat.le_refl _⟩ (ev_J6_bitCount_0f7a4 (d := d - 1) (by omega) _ _ _ ex25) hd1 rfl (Nat.le_of_ble_eq_true rfl) rfl ?_
        refine r_i2l (pc := 109) X dX11_needs_109 ?_
        obtain ⟨u26, eu26, hf⟩ := ob hf
        obtain ⟨h27, eh27, hf⟩ := ob hf
        refine r_callVV (pc := 110) X [.long (Int32.toInt64 x25)] dX11_needs_110 ml_X11_248 vo_X3_add ⟨Nat.le_refl _, Nat.le_refl _⟩ eu26 (ev_X3_add (d := d - 1) (by omega) _ _ _ _ eh27) hd1 rfl (Nat.le_of_ble_eq_true rfl) rfl ?_
        refine r_iload (pc := 113) X dX11_needs_113 rfl ?_
        obtain rfl := Option.some.inj hf
        exact r_iret (pc := 115) X dX11_needs_115 hk
      · rw [if_neg c28] at hf
        refine r_iconst (pc := 21) X (-1) dX11_needs_21 (by decide) ?_
        obtain rfl := Option.some.inj hf
        exact r_iret (pc := 22) X dX11_needs_22 hk

theorem dX11_reach_0 : decode cX11_reach 0 = .ok (.aload_n 0, 1) := by decide +kernel
theorem dX11_reach_1 : decode cX11_reach 1 = .ok (.getfield 19, 3) := by decide +kernel
theorem dX11_reach_4 : decode cX11_reach 4 = .ok (.iload_n 1, 1) := by decide +kernel
theorem dX11_reach_5 : decode cX11_reach 5 = .ok (.invokevirtual 172, 3) := by decide +kernel
theorem dX11_reach_8 : decode cX11_reach 8 = .ok (.ifCond .ne 5, 3) := by decide +kernel
theorem dX11_reach_11 : decode cX11_reach 11 = .ok (.iconst (-1), 1) := by decide +kernel
theorem dX11_reach_12 : decode cX11_reach 12 = .ok (.ireturn, 1) := by decide +kernel
theorem dX11_reach_13 : decode cX11_reach 13 = .ok (.aload_n 0, 1) := by decide +kernel
theorem dX11_reach_14 : decode cX11_reach 14 = .ok (.getfield 28, 3) := by decide +kernel
theorem dX11_reach_17 : decode cX11_reach 17 = .ok (.iload_n 1, 1) := by decide +kernel
theorem dX11_reach_18 : decode cX11_reach 18 = .ok (.aload_n 0, 1) := by decide +kernel
theorem dX11_reach_19 : decode cX11_reach 19 = .ok (.getfield 61, 3) := by decide +kernel
theorem dX11_reach_22 : decode cX11_reach 22 = .ok (.getfield 216, 3) := by decide +kernel
theorem dX11_reach_25 : decode cX11_reach 25 = .ok (.invokevirtual 399, 3) := by decide +kernel
theorem dX11_reach_28 : decode cX11_reach 28 = .ok (.istore_n 2, 1) := by decide +kernel
theorem dX11_reach_29 : decode cX11_reach 29 = .ok (.aload_n 0, 1) := by decide +kernel
theorem dX11_reach_30 : decode cX11_reach 30 = .ok (.getfield 81, 3) := by decide +kernel
theorem dX11_reach_33 : decode cX11_reach 33 = .ok (.invokevirtual 242, 3) := by decide +kernel
theorem dX11_reach_36 : decode cX11_reach 36 = .ok (.aload_n 0, 1) := by decide +kernel
theorem dX11_reach_37 : decode cX11_reach 37 = .ok (.getfield 81, 3) := by decide +kernel
theorem dX11_reach_40 : decode cX11_reach 40 = .ok (.iload_n 2, 1) := by decide +kernel
theorem dX11_reach_41 : decode cX11_reach 41 = .ok (.invokestatic 366, 3) := by decide +kernel
theorem dX11_reach_44 : decode cX11_reach 44 = .ok (.i2l, 1) := by decide +kernel
theorem dX11_reach_45 : decode cX11_reach 45 = .ok (.invokevirtual 248, 3) := by decide +kernel
theorem dX11_reach_48 : decode cX11_reach 48 = .ok (.iload_n 2, 1) := by decide +kernel
theorem dX11_reach_49 : decode cX11_reach 49 = .ok (.ireturn, 1) := by decide +kernel
def fn_X11_reach (h : aH) (p0 : Nat) (p1 : Int32) : Option (Int32 × aH) :=
  (gR h p0 10 1).bind fun a1 =>
  (ck h a1 0).bind fun u2 =>
  (fn_X0_hasBasin h a1 p1).bind fun x3 =>
  if x3 = 0 then
    some ((-1), h)
  else
    (gR h p0 10 2).bind fun a4 =>
    (gR h p0 10 7).bind fun a5 =>
    (gI h a5 6 3).bind fun x6 =>
    (ck h a4 9).bind fun u7 =>
    (fn_X10_reached h a4 p1 x6).bind fun x8 =>
    (gR h p0 10 11).bind fun a9 =>
    (ck h a9 2).bind fun u10 =>
    (fn_X3_begin h a9).bind fun h11 =>
    (gR h11 p0 10 11).bind fun a12 =>
    (fn_J6_bitCount_0f7a4 h11 x8).bind fun x13 =>
    (ck h11 a12 2).bind fun u14 =>
    (fn_X3_add h11 a12 (Int32.toInt64 x13)).bind fun h15 =>
    some (x8, h15)
set_option maxRecDepth 20000 in
set_option maxHeartbeats 4000000 in
theorem ev_X11_reach {l : Launch} {g : aG} {d : Nat} (hd : 2 ≤ d) (h : aH) (p0 : Nat) (p1 : Int32) (o : Int32 × aH) (hf : fn_X11_reach h p0 p1 = some o) : EvM l g d yX11_reach cX11_reach 3 (some .int) [.ref p0, .int p1] h (some (.int o.1), o.2) := by
  refine EvM.of mk_X11_reach (Nat.le_of_ble_eq_true rfl) ?_
  intro Γ hl hg hq X
  have hd1 : 1 ≤ d := by omega
  have hk : RqI Γ o := hq
  unfold fn_X11_reach at hf
  show Jd Γ (0, 0) 0 [some (.ref p0), some (.int p1), none] [] h
  refine r_aload_n (pc := 0) X dX11_reach_0 rfl ?_
  obtain ⟨a1, ea1, hf⟩ := ob hf
  refine r_getR (pc := 1) X dX11_reach_1 fl_X11_19 rfl ea1 ?_
  refine r_iload_n (pc := 4) X dX11_reach_4 rfl ?_
  obtain ⟨u2, eu2, hf⟩ := ob hf
  obtain ⟨x3, ex3, hf⟩ := ob hf
  refine r_callVI (pc := 5) X [.int p1] dX11_reach_5 ml_X11_172 vo_X0_hasBasin ⟨Nat.le_refl _, Nat.le_refl _⟩ eu2 (ev_X0_hasBasin (d := d - 1) (by omega) _ _ _ _ ex3) hd1 rfl (Nat.le_of_ble_eq_true rfl) rfl ?_
  refine r_if_ne (pc := 8) X 13 dX11_reach_8 (by decide) (fun c16 => ?_) (fun c16 => ?_)
  · rw [if_neg c16] at hf
    refine r_aload_n (pc := 13) X dX11_reach_13 rfl ?_
    obtain ⟨a4, ea4, hf⟩ := ob hf
    refine r_getR (pc := 14) X dX11_reach_14 fl_X11_28 rfl ea4 ?_
    refine r_iload_n (pc := 17) X dX11_reach_17 rfl ?_
    refine r_aload_n (pc := 18) X dX11_reach_18 rfl ?_
    obtain ⟨a5, ea5, hf⟩ := ob hf
    refine r_getR (pc := 19) X dX11_reach_19 fl_X11_61 rfl ea5 ?_
    obtain ⟨x6, ex6, hf⟩ := ob hf
    refine r_getI (pc := 22) X dX11_reach_22 fl_X11_216 rfl ex6 ?_
    obtain ⟨u7, eu7, hf⟩ := ob hf
    obtain ⟨x8, ex8, hf⟩ := ob hf
    refine r_callVI (pc := 25) X [.int p1, .int x6] dX11_reach_25 ml_X11_399 vo_X10_reached ⟨Nat.le_refl _, Nat.le_refl _⟩ eu7 (ev_X10_reached (d := d - 1) (by omega) _ _ _ _ _ ex8) hd1 rfl (Nat.le_of_ble_eq_true rfl) rfl ?_
    refine r_istore_n (pc := 28) X [some (.ref p0), some (.int p1), some (.int x8)] dX11_reach_28 (by decide) rfl ?_
    refine r_aload_n (pc := 29) X dX11_reach_29 rfl ?_
    obtain ⟨a9, ea9, hf⟩ := ob hf
    refine r_getR (pc := 30) X dX11_reach_30 fl_X11_81 rfl ea9 ?_
    obtain ⟨u10, eu10, hf⟩ := ob hf
    obtain ⟨h11, eh11, hf⟩ := ob hf
    refine r_callVV (pc := 33) X [] dX11_reach_33 ml_X11_242 vo_X3_begin ⟨Nat.le_refl _, Nat.le_refl _⟩ eu10 (ev_X3_begin (d := d - 1) (by omega) _ _ _ eh11) hd1 rfl (Nat.le_of_ble_eq_true rfl) rfl ?_
    refine r_aload_n (pc := 36) X dX11_reach_36 rfl ?_
    obtain ⟨a12, ea12, hf⟩ := ob hf
    refine r_getR (pc := 37) X dX11_reach_37 fl_X11_81 rfl ea12 ?_
    refine r_iload_n (pc := 40) X dX11_reach_40 rfl ?_
    obtain ⟨x13, ex13, hf⟩ := ob hf
    refine r_callSI (pc := 41) X [.int x8] dX11_reach_41 ml_X11_366 so_J6_bitCount_0f7a4 ⟨Nat.le_refl _, Nat.le_refl _⟩ (ev_J6_bitCount_0f7a4 (d := d - 1) (by omega) _ _ _ ex13) hd1 rfl (Nat.le_of_ble_eq_true rfl) rfl ?_
    refine r_i2l (pc := 44) X dX11_reach_44 ?_
    obtain ⟨u14, eu14, hf⟩ := ob hf
    obtain ⟨h15, eh15, hf⟩ := ob hf
    refine r_callVV (pc := 45) X [.long (Int32.toInt64 x13)] dX11_reach_45 ml_X11_248 vo_X3_add ⟨Nat.le_refl _, Nat.le_refl _⟩ eu14 (ev_X3_add (d := d - 1) (by omega) _ _ _ _ eh15) hd1 rfl (Nat.le_of_ble_eq_true rfl) rfl ?_
    refine r_iload_n (pc := 48) X dX11_reach_48 rfl ?_
    obtain rfl := Option.some.inj hf
    exact r_iret (pc := 49) X dX11_reach_49 hk
  · rw [if_pos c16] at hf
    refine r_iconst (pc := 11) X (-1) dX11_reach_11 (by decide) ?_
    obtain rfl := Option.some.inj hf
    exact r_iret (pc := 12) X dX11_reach_12 hk

theorem dX11_way_0 : decode cX11_way 0 = .ok (.aload_n 0, 1) := by decide +kernel
theorem dX11_way_1 : decode cX11_way 1 = .ok (.getfield 19, 3) := by decide +kernel
theorem dX11_way_4 : decode cX11_way 4 = .ok (.iload_n 1, 1) := by decide +kernel
theorem dX11_way_5 : decode cX11_way 5 = .ok (.invokevirtual 172, 3) := by decide +kernel
theorem dX11_way_8 : decode cX11_way 8 = .ok (.ifCond .eq 14, 3) := by decide +kernel
theorem dX11_way_11 : decode cX11_way 11 = .ok (.aload_n 0, 1) := by decide +kernel
theorem dX11_way_12 : decode cX11_way 12 = .ok (.getfield 19, 3) := by decide +kernel
theorem dX11_way_15 : decode cX11_way 15 = .ok (.iload_n 2, 1) := by decide +kernel
theorem dX11_way_16 : decode cX11_way 16 = .ok (.invokevirtual 172, 3) := by decide +kernel
theorem dX11_way_19 : decode cX11_way 19 = .ok (.ifCond .ne 5, 3) := by decide +kernel
theorem dX11_way_22 : decode cX11_way 22 = .ok (.iconst (-1), 1) := by decide +kernel
theorem dX11_way_23 : decode cX11_way 23 = .ok (.ireturn, 1) := by decide +kernel
theorem dX11_way_24 : decode cX11_way 24 = .ok (.aload_n 0, 1) := by decide +kernel
theorem dX11_way_25 : decode cX11_way 25 = .ok (.getfield 28, 3) := by decide +kernel
theorem dX11_way_28 : decode cX11_way 28 = .ok (.iload_n 2, 1) := by decide +kernel
theorem dX11_way_29 : decode cX11_way 29 = .ok (.aload_n 0, 1) := by decide +kernel
theorem dX11_way_30 : decode cX11_way 30 = .ok (.getfield 61, 3) := by decide +kernel
theorem dX11_way_33 : decode cX11_way 33 = .ok (.getfield 216, 3) := by decide +kernel
theorem dX11_way_36 : decode cX11_way 36 = .ok (.invokevirtual 402, 3) := by decide +kernel
theorem dX11_way_39 : decode cX11_way 39 = .ok (.aload_n 0, 1) := by decide +kernel
theorem dX11_way_40 : decode cX11_way 40 = .ok (.getfield 28, 3) := by decide +kernel
theorem dX11_way_43 : decode cX11_way 43 = .ok (.getfield 406, 3) := by decide +kernel
theorem dX11_way_46 : decode cX11_way 46 = .ok (.iload_n 1, 1) := by decide +kernel
theorem dX11_way_47 : decode cX11_way 47 = .ok (.iaload, 1) := by decide +kernel
theorem dX11_way_48 : decode cX11_way 48 = .ok (.istore_n 3, 1) := by decide +kernel
theorem dX11_way_49 : decode cX11_way 49 = .ok (.iload_n 3, 1) := by decide +kernel
theorem dX11_way_50 : decode cX11_way 50 = .ok (.sipush 1000, 3) := by decide +kernel
theorem dX11_way_53 : decode cX11_way 53 = .ok (.if_icmp .lt 6, 3) := by decide +kernel
theorem dX11_way_56 : decode cX11_way 56 = .ok (.bipush (-2), 2) := by decide +kernel
theorem dX11_way_58 : decode cX11_way 58 = .ok (.ireturn, 1) := by decide +kernel
theorem dX11_way_59 : decode cX11_way 59 = .ok (.aload_n 0, 1) := by decide +kernel
theorem dX11_way_60 : decode cX11_way 60 = .ok (.getfield 81, 3) := by decide +kernel
theorem dX11_way_63 : decode cX11_way 63 = .ok (.invokevirtual 242, 3) := by decide +kernel
theorem dX11_way_66 : decode cX11_way 66 = .ok (.aload_n 0, 1) := by decide +kernel
theorem dX11_way_67 : decode cX11_way 67 = .ok (.getfield 28, 3) := by decide +kernel
theorem dX11_way_70 : decode cX11_way 70 = .ok (.iload_n 1, 1) := by decide +kernel
theorem dX11_way_71 : decode cX11_way 71 = .ok (.aload_n 0, 1) := by decide +kernel
theorem dX11_way_72 : decode cX11_way 72 = .ok (.getfield 61, 3) := by decide +kernel
theorem dX11_way_75 : decode cX11_way 75 = .ok (.getfield 216, 3) := by decide +kernel
theorem dX11_way_78 : decode cX11_way 78 = .ok (.aload_n 0, 1) := by decide +kernel
theorem dX11_way_79 : decode cX11_way 79 = .ok (.getfield 81, 3) := by decide +kernel
theorem dX11_way_82 : decode cX11_way 82 = .ok (.invokevirtual 409, 3) := by decide +kernel
theorem dX11_way_85 : decode cX11_way 85 = .ok (.iload_n 3, 1) := by decide +kernel
theorem dX11_way_86 : decode cX11_way 86 = .ok (.ireturn, 1) := by decide +kernel
def fn_X11_way (h : aH) (p0 : Nat) (p1 : Int32) (p2 : Int32) : Option (Int32 × aH) :=
  (gR h p0 10 1).bind fun a1 =>
  (ck h a1 0).bind fun u2 =>
  (fn_X0_hasBasin h a1 p1).bind fun x3 =>
  if x3 = 0 then
    some ((-1), h)
  else
    (gR h p0 10 1).bind fun a4 =>
    (ck h a4 0).bind fun u5 =>
    (fn_X0_hasBasin h a4 p2).bind fun x6 =>
    if x6 = 0 then
      some ((-1), h)
    else
      (gR h p0 10 2).bind fun a7 =>
      (gR h p0 10 7).bind fun a8 =>
      (gI h a8 6 3).bind fun x9 =>
      (ck h a7 9).bind fun u10 =>
      (fn_X10_measure h a7 p2 x9).bind fun h11 =>
      (gR h11 p0 10 2).bind fun a12 =>
      (gR h11 a12 9 1).bind fun a13 =>
      (aI h11 a13 14 p1).bind fun x14 =>
      if x14 < 1000 then
        (gR h11 p0 10 11).bind fun a15 =>
        (ck h11 a15 2).bind fun u16 =>
        (fn_X3_begin h11 a15).bind fun h17 =>
        (gR h17 p0 10 2).bind fun a18 =>
        (gR h17 p0 10 7).bind fun a19 =>
        (gI h17 a19 6 3).bind fun x20 =>
        (gR h17 p0 10 11).bind fun a21 =>
        (ck h17 a18 9).bind fun u22 =>
        (fn_X10_walk h17 a18 p1 x20 a21).bind fun h23 =>
        some (x14, h23)
      else
        some ((-2), h11)
set_option maxRecDepth 20000 in
set_option maxHeartbeats 4000000 in
theorem ev_X11_way {l : Launch} {g : aG} {d : Nat} (hd : 3 ≤ d) (h : aH) (p0 : Nat) (p1 : Int32) (p2 : Int32) (o : Int32 × aH) (hf : fn_X11_way h p0 p1 p2 = some o) : EvM l g d yX11_way cX11_way 4 (some .int) [.ref p0, .int p1, .int p2] h (some (.int o.1), o.2) := by
  refine EvM.of mk_X11_way (Nat.le_of_ble_eq_true rfl) ?_
  intro Γ hl hg hq X
  have hd1 : 1 ≤ d := by omega
  have hk : RqI Γ o := hq
  unfold fn_X11_way at hf
  show Jd Γ (0, 0) 0 [some (.ref p0), some (.int p1), some (.int p2), none] [] h
  refine r_aload_n (pc := 0) X dX11_way_0 rfl ?_
  obtain ⟨a1, ea1, hf⟩ := ob hf
  refine r_getR (pc := 1) X dX11_way_1 fl_X11_19 rfl ea1 ?_
  refine r_iload_n (pc := 4) X dX11_way_4 rfl ?_
  obtain ⟨u2, eu2, hf⟩ := ob hf
  obtain ⟨x3, ex3, hf⟩ := ob hf
  refine r_callVI (pc := 5) X [.int p1] dX11_way_5 ml_X11_172 vo_X0_hasBasin ⟨Nat.le_refl _, Nat.le_refl _⟩ eu2 (ev_X0_hasBasin (d := d - 1) (by omega) _ _ _ _ ex3) hd1 rfl (Nat.le_of_ble_eq_true rfl) rfl ?_
  refine r_if_eq (pc := 8) X 22 dX11_way_8 (by decide) (fun c26 => ?_) (fun c26 => ?_)
  · rw [if_pos c26] at hf
    refine r_iconst (pc := 22) X (-1) dX11_way_22 (by decide) ?_
    obtain rfl := Option.some.inj hf
    exact r_iret (pc := 23) X dX11_way_23 hk
  · rw [if_neg c26] at hf
    refine r_aload_n (pc := 11) X dX11_way_11 rfl ?_
    obtain ⟨a4, ea4, hf⟩ := ob hf
    refine r_getR (pc := 12) X dX11_way_12 fl_X11_19 rfl ea4 ?_
    refine r_iload_n (pc := 15) X dX11_way_15 rfl ?_
    obtain ⟨u5, eu5, hf⟩ := ob hf
    obtain ⟨x6, ex6, hf⟩ := ob hf
    refine r_callVI (pc := 16) X [.int p2] dX11_way_16 ml_X11_172 vo_X0_hasBasin ⟨Nat.le_refl _, Nat.le_refl _⟩ eu5 (ev_X0_hasBasin (d := d - 1) (by omega) _ _ _ _ ex6) hd1 rfl (Nat.le_of_ble_eq_true rfl) rfl ?_
    refine r_if_ne (pc := 19) X 24 dX11_way_19 (by decide) (fun c25 => ?_) (fun c25 => ?_)
    · rw [if_neg c25] at hf
      refine r_aload_n (pc := 24) X dX11_way_24 rfl ?_
      obtain ⟨a7, ea7, hf⟩ := ob hf
      refine r_getR (pc := 25) X dX11_way_25 fl_X11_28 rfl ea7 ?_
      refine r_iload_n (pc := 28) X dX11_way_28 rfl ?_
      refine r_aload_n (pc := 29) X dX11_way_29 rfl ?_
      obtain ⟨a8, ea8, hf⟩ := ob hf
      refine r_getR (pc := 30) X dX11_way_30 fl_X11_61 rfl ea8 ?_
      obtain ⟨x9, ex9, hf⟩ := ob hf
      refine r_getI (pc := 33) X dX11_way_33 fl_X11_216 rfl ex9 ?_
      obtain ⟨u10, eu10, hf⟩ := ob hf
      obtain ⟨h11, eh11, hf⟩ := ob hf
      refine r_callVV (pc := 36) X [.int p2, .int x9] dX11_way_36 ml_X11_402 vo_X10_measure ⟨Nat.le_refl _, Nat.le_refl _⟩ eu10 (ev_X10_measure (d := d - 1) (by omega) _ _ _ _ _ eh11) hd1 rfl (Nat.le_of_ble_eq_true rfl) rfl ?_
      refine r_aload_n (pc := 39) X dX11_way_39 rfl ?_
      obtain ⟨a12, ea12, hf⟩ := ob hf
      refine r_getR (pc := 40) X dX11_way_40 fl_X11_28 rfl ea12 ?_
      obtain ⟨a13, ea13, hf⟩ := ob hf
      refine r_getR (pc := 43) X dX11_way_43 fl_X11_406 rfl ea13 ?_
      refine r_iload_n (pc := 46) X dX11_way_46 rfl ?_
      obtain ⟨x14, ex14, hf⟩ := ob hf
      refine r_iald (pc := 47) X dX11_way_47 ex14 ?_
      refine r_istore_n (pc := 48) X [some (.ref p0), some (.int p1), some (.int p2), some (.int x14)] dX11_way_48 (by decide) rfl ?_
      refine r_iload_n (pc := 49) X dX11_way_49 rfl ?_
      refine r_sipush (pc := 50) X 1000 dX11_way_50 (by decide) ?_
      refine r_icmp_lt (pc := 53) X 59 dX11_way_53 (by decide) (fun c24 => ?_) (fun c24 => ?_)
      · rw [if_pos c24] at hf
        refine r_aload_n (pc := 59) X dX11_way_59 rfl ?_
        obtain ⟨a15, ea15, hf⟩ := ob hf
        refine r_getR (pc := 60) X dX11_way_60 fl_X11_81 rfl ea15 ?_
        obtain ⟨u16, eu16, hf⟩ := ob hf
        obtain ⟨h17, eh17, hf⟩ := ob hf
        refine r_callVV (pc := 63) X [] dX11_way_63 ml_X11_242 vo_X3_begin ⟨Nat.le_refl _, Nat.le_refl _⟩ eu16 (ev_X3_begin (d := d - 1) (by omega) _ _ _ eh17) hd1 rfl (Nat.le_of_ble_eq_true rfl) rfl ?_
        refine r_aload_n (pc := 66) X dX11_way_66 rfl ?_
        obtain ⟨a18, ea18, hf⟩ := ob hf
        refine r_getR (pc := 67) X dX11_way_67 fl_X11_28 rfl ea18 ?_
        refine r_iload_n (pc := 70) X dX11_way_70 rfl ?_
        refine r_aload_n (pc := 71) X dX11_way_71 rfl ?_
        obtain ⟨a19, ea19, hf⟩ := ob hf
        refine r_getR (pc := 72) X dX11_way_72 fl_X11_61 rfl ea19 ?_
        obtain ⟨x20, ex20, hf⟩ := ob hf
        refine r_getI (pc := 75) X dX11_way_75 fl_X11_216 rfl ex20 ?_
        refine r_aload_n (pc := 78) X dX11_way_78 rfl ?_
        obtain ⟨a21, ea21, hf⟩ := ob hf
        refine r_getR (pc := 79) X dX11_way_79 fl_X11_81 rfl ea21 ?_
        obtain ⟨u22, eu22, hf⟩ := ob hf
        obtain ⟨h23, eh23, hf⟩ := ob hf
        refine r_callVV (pc := 82) X [.int p1, .int x20, .ref a21] dX11_way_82 ml_X11_409 vo_X10_walk ⟨Nat.le_refl _, Nat.le_refl _⟩ eu22 (ev_X10_walk (d := d - 1) (by omega) _ _ _ _ _ _ eh23) hd1 rfl (Nat.le_of_ble_eq_true rfl) rfl ?_
        refine r_iload_n (pc := 85) X dX11_way_85 rfl ?_
        obtain rfl := Option.some.inj hf
        exact r_iret (pc := 86) X dX11_way_86 hk
      · rw [if_neg c24] at hf
        refine r_bipush (pc := 56) X (-2) dX11_way_56 (by decide) ?_
        obtain rfl := Option.some.inj hf
        exact r_iret (pc := 58) X dX11_way_58 hk
    · rw [if_pos c25] at hf
      refine r_iconst (pc := 22) X (-1) dX11_way_22 (by decide) ?_
      obtain rfl := Option.some.inj hf
      exact r_iret (pc := 23) X dX11_way_23 hk

theorem dX11_cut_0 : decode cX11_cut 0 = .ok (.aload_n 0, 1) := by decide +kernel
theorem dX11_cut_1 : decode cX11_cut 1 = .ok (.getfield 19, 3) := by decide +kernel
theorem dX11_cut_4 : decode cX11_cut 4 = .ok (.iload_n 1, 1) := by decide +kernel
theorem dX11_cut_5 : decode cX11_cut 5 = .ok (.invokevirtual 172, 3) := by decide +kernel
theorem dX11_cut_8 : decode cX11_cut 8 = .ok (.ifCond .eq 19, 3) := by decide +kernel
theorem dX11_cut_11 : decode cX11_cut 11 = .ok (.aload_n 0, 1) := by decide +kernel
theorem dX11_cut_12 : decode cX11_cut 12 = .ok (.getfield 19, 3) := by decide +kernel
theorem dX11_cut_15 : decode cX11_cut 15 = .ok (.iload_n 2, 1) := by decide +kernel
theorem dX11_cut_16 : decode cX11_cut 16 = .ok (.invokevirtual 172, 3) := by decide +kernel
theorem dX11_cut_19 : decode cX11_cut 19 = .ok (.ifCond .eq 8, 3) := by decide +kernel
theorem dX11_cut_22 : decode cX11_cut 22 = .ok (.iload_n 1, 1) := by decide +kernel
theorem dX11_cut_23 : decode cX11_cut 23 = .ok (.iload_n 2, 1) := by decide +kernel
theorem dX11_cut_24 : decode cX11_cut 24 = .ok (.if_icmp .ne 5, 3) := by decide +kernel
theorem dX11_cut_27 : decode cX11_cut 27 = .ok (.iconst (-1), 1) := by decide +kernel
theorem dX11_cut_28 : decode cX11_cut 28 = .ok (.ireturn, 1) := by decide +kernel
theorem dX11_cut_29 : decode cX11_cut 29 = .ok (.aload_n 0, 1) := by decide +kernel
theorem dX11_cut_30 : decode cX11_cut 30 = .ok (.getfield 28, 3) := by decide +kernel
theorem dX11_cut_33 : decode cX11_cut 33 = .ok (.iload_n 1, 1) := by decide +kernel
theorem dX11_cut_34 : decode cX11_cut 34 = .ok (.iload_n 2, 1) := by decide +kernel
theorem dX11_cut_35 : decode cX11_cut 35 = .ok (.aload_n 0, 1) := by decide +kernel
theorem dX11_cut_36 : decode cX11_cut 36 = .ok (.getfield 61, 3) := by decide +kernel
theorem dX11_cut_39 : decode cX11_cut 39 = .ok (.getfield 216, 3) := by decide +kernel
theorem dX11_cut_42 : decode cX11_cut 42 = .ok (.invokevirtual 413, 3) := by decide +kernel
theorem dX11_cut_45 : decode cX11_cut 45 = .ok (.istore_n 3, 1) := by decide +kernel
theorem dX11_cut_46 : decode cX11_cut 46 = .ok (.aload_n 0, 1) := by decide +kernel
theorem dX11_cut_47 : decode cX11_cut 47 = .ok (.getfield 81, 3) := by decide +kernel
theorem dX11_cut_50 : decode cX11_cut 50 = .ok (.invokevirtual 242, 3) := by decide +kernel
theorem dX11_cut_53 : decode cX11_cut 53 = .ok (.aload_n 0, 1) := by decide +kernel
theorem dX11_cut_54 : decode cX11_cut 54 = .ok (.getfield 81, 3) := by decide +kernel
theorem dX11_cut_57 : decode cX11_cut 57 = .ok (.iload_n 3, 1) := by decide +kernel
theorem dX11_cut_58 : decode cX11_cut 58 = .ok (.i2l, 1) := by decide +kernel
theorem dX11_cut_59 : decode cX11_cut 59 = .ok (.invokevirtual 248, 3) := by decide +kernel
theorem dX11_cut_62 : decode cX11_cut 62 = .ok (.iload_n 3, 1) := by decide +kernel
theorem dX11_cut_63 : decode cX11_cut 63 = .ok (.invokestatic 366, 3) := by decide +kernel
theorem dX11_cut_66 : decode cX11_cut 66 = .ok (.ireturn, 1) := by decide +kernel
def fn_X11_cut (h : aH) (p0 : Nat) (p1 : Int32) (p2 : Int32) : Option (Int32 × aH) :=
  (gR h p0 10 1).bind fun a1 =>
  (ck h a1 0).bind fun u2 =>
  (fn_X0_hasBasin h a1 p1).bind fun x3 =>
  if x3 = 0 then
    some ((-1), h)
  else
    (gR h p0 10 1).bind fun a4 =>
    (ck h a4 0).bind fun u5 =>
    (fn_X0_hasBasin h a4 p2).bind fun x6 =>
    if x6 = 0 then
      some ((-1), h)
    else
      if p1 = p2 then
        some ((-1), h)
      else
        (gR h p0 10 2).bind fun a7 =>
        (gR h p0 10 7).bind fun a8 =>
        (gI h a8 6 3).bind fun x9 =>
        (ck h a7 9).bind fun u10 =>
        (fn_X10_leastCut h a7 p1 p2 x9).bind fun x11 =>
        (gR h p0 10 11).bind fun a12 =>
        (ck h a12 2).bind fun u13 =>
        (fn_X3_begin h a12).bind fun h14 =>
        (gR h14 p0 10 11).bind fun a15 =>
        (ck h14 a15 2).bind fun u16 =>
        (fn_X3_add h14 a15 (Int32.toInt64 x11)).bind fun h17 =>
        (fn_J6_bitCount_0f7a4 h17 x11).bind fun x18 =>
        some (x18, h17)
set_option maxRecDepth 20000 in
set_option maxHeartbeats 4000000 in
theorem ev_X11_cut {l : Launch} {g : aG} {d : Nat} (hd : 3 ≤ d) (h : aH) (p0 : Nat) (p1 : Int32) (p2 : Int32) (o : Int32 × aH) (hf : fn_X11_cut h p0 p1 p2 = some o) : EvM l g d yX11_cut cX11_cut 4 (some .int) [.ref p0, .int p1, .int p2] h (some (.int o.1), o.2) := by
  refine EvM.of mk_X11_cut (Nat.le_of_ble_eq_true rfl) ?_
  intro Γ hl hg hq X
  have hd1 : 1 ≤ d := by omega
  have hk : RqI Γ o := hq
  unfold fn_X11_cut at hf
  show Jd Γ (0, 0) 0 [some (.ref p0), some (.int p1), some (.int p2), none] [] h
  refine r_aload_n (pc := 0) X dX11_cut_0 rfl ?_
  obtain ⟨a1, ea1, hf⟩ := ob hf
  refine r_getR (pc := 1) X dX11_cut_1 fl_X11_19 rfl ea1 ?_
  refine r_iload_n (pc := 4) X dX11_cut_4 rfl ?_
  obtain ⟨u2, eu2, hf⟩ := ob hf
  obtain ⟨x3, ex3, hf⟩ := ob hf
  refine r_callVI (pc := 5) X [.int p1] dX11_cut_5 ml_X11_172 vo_X0_hasBasin ⟨Nat.le_refl _, Nat.le_refl _⟩ eu2 (ev_X0_hasBasin (d := d - 1) (by omega) _ _ _ _ ex3) hd1 rfl (Nat.le_of_ble_eq_true rfl) rfl ?_
  refine r_if_eq (pc := 8) X 27 dX11_cut_8 (by decide) (fun c21 => ?_) (fun c21 => ?_)
  · rw [if_pos c21] at hf
    refine r_iconst (pc := 27) X (-1) dX11_cut_27 (by decide) ?_
    obtain rfl := Option.some.inj hf
    exact r_iret (pc := 28) X dX11_cut_28 hk
  · rw [if_neg c21] at hf
    refine r_aload_n (pc := 11) X dX11_cut_11 rfl ?_
    obtain ⟨a4, ea4, hf⟩ := ob hf
    refine r_getR (pc := 12) X dX11_cut_12 fl_X11_19 rfl ea4 ?_
    refine r_iload_n (pc := 15) X dX11_cut_15 rfl ?_
    obtain ⟨u5, eu5, hf⟩ := ob hf
    obtain ⟨x6, ex6, hf⟩ := ob hf
    refine r_callVI (pc := 16) X [.int p2] dX11_cut_16 ml_X11_172 vo_X0_hasBasin ⟨Nat.le_refl _, Nat.le_refl _⟩ eu5 (ev_X0_hasBasin (d := d - 1) (by omega) _ _ _ _ ex6) hd1 rfl (Nat.le_of_ble_eq_true rfl) rfl ?_
    refine r_if_eq (pc := 19) X 27 dX11_cut_19 (by decide) (fun c20 => ?_) (fun c20 => ?_)
    · rw [if_pos c20] at hf
      refine r_iconst (pc := 27) X (-1) dX11_cut_27 (by decide) ?_
      obtain rfl := Option.some.inj hf
      exact r_iret (pc := 28) X dX11_cut_28 hk
    · rw [if_neg c20] at hf
      refine r_iload_n (pc := 22) X dX11_cut_22 rfl ?_
      refine r_iload_n (pc := 23) X dX11_cut_23 rfl ?_
      refine r_icmp_ne (pc := 24) X 29 dX11_cut_24 (by decide) (fun c19 => ?_) (fun c19 => ?_)
      · rw [if_neg c19] at hf
        refine r_aload_n (pc := 29) X dX11_cut_29 rfl ?_
        obtain ⟨a7, ea7, hf⟩ := ob hf
        refine r_getR (pc := 30) X dX11_cut_30 fl_X11_28 rfl ea7 ?_
        refine r_iload_n (pc := 33) X dX11_cut_33 rfl ?_
        refine r_iload_n (pc := 34) X dX11_cut_34 rfl ?_
        refine r_aload_n (pc := 35) X dX11_cut_35 rfl ?_
        obtain ⟨a8, ea8, hf⟩ := ob hf
        refine r_getR (pc := 36) X dX11_cut_36 fl_X11_61 rfl ea8 ?_
        obtain ⟨x9, ex9, hf⟩ := ob hf
        refine r_getI (pc := 39) X dX11_cut_39 fl_X11_216 rfl ex9 ?_
        obtain ⟨u10, eu10, hf⟩ := ob hf
        obtain ⟨x11, ex11, hf⟩ := ob hf
        refine r_callVI (pc := 42) X [.int p1, .int p2, .int x9] dX11_cut_42 ml_X11_413 vo_X10_leastCut ⟨Nat.le_refl _, Nat.le_refl _⟩ eu10 (ev_X10_leastCut (d := d - 1) (by omega) _ _ _ _ _ _ ex11) hd1 rfl (Nat.le_of_ble_eq_true rfl) rfl ?_
        refine r_istore_n (pc := 45) X [some (.ref p0), some (.int p1), some (.int p2), some (.int x11)] dX11_cut_45 (by decide) rfl ?_
        refine r_aload_n (pc := 46) X dX11_cut_46 rfl ?_
        obtain ⟨a12, ea12, hf⟩ := ob hf
        refine r_getR (pc := 47) X dX11_cut_47 fl_X11_81 rfl ea12 ?_
        obtain ⟨u13, eu13, hf⟩ := ob hf
        obtain ⟨h14, eh14, hf⟩ := ob hf
        refine r_callVV (pc := 50) X [] dX11_cut_50 ml_X11_242 vo_X3_begin ⟨Nat.le_refl _, Nat.le_refl _⟩ eu13 (ev_X3_begin (d := d - 1) (by omega) _ _ _ eh14) hd1 rfl (Nat.le_of_ble_eq_true rfl) rfl ?_
        refine r_aload_n (pc := 53) X dX11_cut_53 rfl ?_
        obtain ⟨a15, ea15, hf⟩ := ob hf
        refine r_getR (pc := 54) X dX11_cut_54 fl_X11_81 rfl ea15 ?_
        refine r_iload_n (pc := 57) X dX11_cut_57 rfl ?_
        refine r_i2l (pc := 58) X dX11_cut_58 ?_
        obtain ⟨u16, eu16, hf⟩ := ob hf
        obtain ⟨h17, eh17, hf⟩ := ob hf
        refine r_callVV (pc := 59) X [.long (Int32.toInt64 x11)] dX11_cut_59 ml_X11_248 vo_X3_add ⟨Nat.le_refl _, Nat.le_refl _⟩ eu16 (ev_X3_add (d := d - 1) (by omega) _ _ _ _ eh17) hd1 rfl (Nat.le_of_ble_eq_true rfl) rfl ?_
        refine r_iload_n (pc := 62) X dX11_cut_62 rfl ?_
        obtain ⟨x18, ex18, hf⟩ := ob hf
        refine r_callSI (pc := 63) X [.int x11] dX11_cut_63 ml_X11_366 so_J6_bitCount_0f7a4 ⟨Nat.le_refl _, Nat.le_refl _⟩ (ev_J6_bitCount_0f7a4 (d := d - 1) (by omega) _ _ _ ex18) hd1 rfl (Nat.le_of_ble_eq_true rfl) rfl ?_
        obtain rfl := Option.some.inj hf
        exact r_iret (pc := 66) X dX11_cut_66 hk
      · rw [if_pos c19] at hf
        refine r_iconst (pc := 27) X (-1) dX11_cut_27 (by decide) ?_
        obtain rfl := Option.some.inj hf
        exact r_iret (pc := 28) X dX11_cut_28 hk

theorem dX11_ring_0 : decode cX11_ring 0 = .ok (.iconst (-1), 1) := by decide +kernel
theorem dX11_ring_1 : decode cX11_ring 1 = .ok (.istore_n 1, 1) := by decide +kernel
theorem dX11_ring_2 : decode cX11_ring 2 = .ok (.sipush 1000, 3) := by decide +kernel
theorem dX11_ring_5 : decode cX11_ring 5 = .ok (.istore_n 2, 1) := by decide +kernel
theorem dX11_ring_6 : decode cX11_ring 6 = .ok (.iconst 0, 1) := by decide +kernel
theorem dX11_ring_7 : decode cX11_ring 7 = .ok (.istore_n 3, 1) := by decide +kernel
theorem dX11_ring_8 : decode cX11_ring 8 = .ok (.iload_n 3, 1) := by decide +kernel
theorem dX11_ring_9 : decode cX11_ring 9 = .ok (.aload_n 0, 1) := by decide +kernel
theorem dX11_ring_10 : decode cX11_ring 10 = .ok (.getfield 19, 3) := by decide +kernel
theorem dX11_ring_13 : decode cX11_ring 13 = .ok (.getfield 132, 3) := by decide +kernel
theorem dX11_ring_16 : decode cX11_ring 16 = .ok (.if_icmp .ge 37, 3) := by decide +kernel
theorem dX11_ring_19 : decode cX11_ring 19 = .ok (.aload_n 0, 1) := by decide +kernel
theorem dX11_ring_20 : decode cX11_ring 20 = .ok (.getfield 28, 3) := by decide +kernel
theorem dX11_ring_23 : decode cX11_ring 23 = .ok (.iload_n 3, 1) := by decide +kernel
theorem dX11_ring_24 : decode cX11_ring 24 = .ok (.aload_n 0, 1) := by decide +kernel
theorem dX11_ring_25 : decode cX11_ring 25 = .ok (.getfield 61, 3) := by decide +kernel
theorem dX11_ring_28 : decode cX11_ring 28 = .ok (.getfield 216, 3) := by decide +kernel
theorem dX11_ring_31 : decode cX11_ring 31 = .ok (.invokevirtual 416, 3) := by decide +kernel
theorem dX11_ring_34 : decode cX11_ring 34 = .ok (.istore 4, 2) := by decide +kernel
theorem dX11_ring_36 : decode cX11_ring 36 = .ok (.iload 4, 2) := by decide +kernel
theorem dX11_ring_38 : decode cX11_ring 38 = .ok (.iload_n 2, 1) := by decide +kernel
theorem dX11_ring_39 : decode cX11_ring 39 = .ok (.if_icmp .ge 8, 3) := by decide +kernel
theorem dX11_ring_42 : decode cX11_ring 42 = .ok (.iload 4, 2) := by decide +kernel
theorem dX11_ring_44 : decode cX11_ring 44 = .ok (.istore_n 2, 1) := by decide +kernel
theorem dX11_ring_45 : decode cX11_ring 45 = .ok (.iload_n 3, 1) := by decide +kernel
theorem dX11_ring_46 : decode cX11_ring 46 = .ok (.istore_n 1, 1) := by decide +kernel
theorem dX11_ring_47 : decode cX11_ring 47 = .ok (.iinc 3 1, 3) := by decide +kernel
theorem dX11_ring_50 : decode cX11_ring 50 = .ok (.goto (-42), 3) := by decide +kernel
theorem dX11_ring_53 : decode cX11_ring 53 = .ok (.iload_n 1, 1) := by decide +kernel
theorem dX11_ring_54 : decode cX11_ring 54 = .ok (.iconst (-1), 1) := by decide +kernel
theorem dX11_ring_55 : decode cX11_ring 55 = .ok (.if_icmp .ne 6, 3) := by decide +kernel
theorem dX11_ring_58 : decode cX11_ring 58 = .ok (.bipush (-2), 2) := by decide +kernel
theorem dX11_ring_60 : decode cX11_ring 60 = .ok (.ireturn, 1) := by decide +kernel
theorem dX11_ring_61 : decode cX11_ring 61 = .ok (.aload_n 0, 1) := by decide +kernel
theorem dX11_ring_62 : decode cX11_ring 62 = .ok (.getfield 28, 3) := by decide +kernel
theorem dX11_ring_65 : decode cX11_ring 65 = .ok (.aload_n 0, 1) := by decide +kernel
theorem dX11_ring_66 : decode cX11_ring 66 = .ok (.getfield 19, 3) := by decide +kernel
theorem dX11_ring_69 : decode cX11_ring 69 = .ok (.getfield 204, 3) := by decide +kernel
theorem dX11_ring_72 : decode cX11_ring 72 = .ok (.iload_n 1, 1) := by decide +kernel
theorem dX11_ring_73 : decode cX11_ring 73 = .ok (.iaload, 1) := by decide +kernel
theorem dX11_ring_74 : decode cX11_ring 74 = .ok (.aload_n 0, 1) := by decide +kernel
theorem dX11_ring_75 : decode cX11_ring 75 = .ok (.getfield 61, 3) := by decide +kernel
theorem dX11_ring_78 : decode cX11_ring 78 = .ok (.getfield 216, 3) := by decide +kernel
theorem dX11_ring_81 : decode cX11_ring 81 = .ok (.invokevirtual 402, 3) := by decide +kernel
theorem dX11_ring_84 : decode cX11_ring 84 = .ok (.aload_n 0, 1) := by decide +kernel
theorem dX11_ring_85 : decode cX11_ring 85 = .ok (.getfield 81, 3) := by decide +kernel
theorem dX11_ring_88 : decode cX11_ring 88 = .ok (.invokevirtual 242, 3) := by decide +kernel
theorem dX11_ring_91 : decode cX11_ring 91 = .ok (.aload_n 0, 1) := by decide +kernel
theorem dX11_ring_92 : decode cX11_ring 92 = .ok (.getfield 81, 3) := by decide +kernel
theorem dX11_ring_95 : decode cX11_ring 95 = .ok (.iload_n 1, 1) := by decide +kernel
theorem dX11_ring_96 : decode cX11_ring 96 = .ok (.i2l, 1) := by decide +kernel
theorem dX11_ring_97 : decode cX11_ring 97 = .ok (.invokevirtual 248, 3) := by decide +kernel
theorem dX11_ring_100 : decode cX11_ring 100 = .ok (.aload_n 0, 1) := by decide +kernel
theorem dX11_ring_101 : decode cX11_ring 101 = .ok (.getfield 28, 3) := by decide +kernel
theorem dX11_ring_104 : decode cX11_ring 104 = .ok (.aload_n 0, 1) := by decide +kernel
theorem dX11_ring_105 : decode cX11_ring 105 = .ok (.getfield 19, 3) := by decide +kernel
theorem dX11_ring_108 : decode cX11_ring 108 = .ok (.getfield 207, 3) := by decide +kernel
theorem dX11_ring_111 : decode cX11_ring 111 = .ok (.iload_n 1, 1) := by decide +kernel
theorem dX11_ring_112 : decode cX11_ring 112 = .ok (.iaload, 1) := by decide +kernel
theorem dX11_ring_113 : decode cX11_ring 113 = .ok (.aload_n 0, 1) := by decide +kernel
theorem dX11_ring_114 : decode cX11_ring 114 = .ok (.getfield 61, 3) := by decide +kernel
theorem dX11_ring_117 : decode cX11_ring 117 = .ok (.getfield 216, 3) := by decide +kernel
theorem dX11_ring_120 : decode cX11_ring 120 = .ok (.aload_n 0, 1) := by decide +kernel
theorem dX11_ring_121 : decode cX11_ring 121 = .ok (.getfield 81, 3) := by decide +kernel
theorem dX11_ring_124 : decode cX11_ring 124 = .ok (.invokevirtual 409, 3) := by decide +kernel
theorem dX11_ring_127 : decode cX11_ring 127 = .ok (.iload_n 2, 1) := by decide +kernel
theorem dX11_ring_128 : decode cX11_ring 128 = .ok (.ireturn, 1) := by decide +kernel
def lb_X11_ring_8 (v0 : Nat) (s : Int32 × Int32 × Int32 × aH) : Option ((Int32 × Int32 × Int32 × aH) ⊕ ((Int32 × Int32 × aH))) :=
  (gR s.2.2.2 v0 10 1).bind fun a1 =>
  (gI s.2.2.2 a1 0 1).bind fun x2 =>
  if s.2.2.1 < x2 then
    (gR s.2.2.2 v0 10 2).bind fun a3 =>
    (gR s.2.2.2 v0 10 7).bind fun a4 =>
    (gI s.2.2.2 a4 6 3).bind fun x5 =>
    (ck s.2.2.2 a3 9).bind fun u6 =>
    (fn_X10_ringLength s.2.2.2 a3 s.2.2.1 x5).bind fun o7 =>
    if o7.1 < s.2.1 then
      (some (s.2.2.1 + 1)).bind fun x9 =>
      some (.inl (s.2.2.1, o7.1, x9, o7.2))
    else
      (some (s.2.2.1 + 1)).bind fun x8 =>
      some (.inl (s.1, s.2.1, x8, o7.2))
  else
    some (.inr (s.1, s.2.1, s.2.2.2))
def hd_X11_ring_8 (Γ : aC) (v0 : Nat) (s : Int32 × Int32 × Int32 × aH) : Prop := ∀ (j4 : Option Value), Jd Γ (0, 0) 8 [some (.ref v0), some (.int s.1), some (.int s.2.1), some (.int s.2.2.1), j4] [] s.2.2.2
def ex_X11_ring_8 (Γ : aC) (v0 : Nat) (r : (Int32 × Int32 × aH)) : Prop := (fun r => ∀ (j3 : Option Value) (j4 : Option Value), Jd Γ (0, 0) 53 [some (.ref v0), some (.int r.1), some (.int r.2.1), j3, j4] [] r.2.2) r
set_option maxRecDepth 20000 in
set_option maxHeartbeats 4000000 in
theorem lw_X11_ring_8 {Γ : aC} {d : Nat} (X : Cx Γ RX11 cX11_ring 5 (some .int) (d, 0, 0)) (hd : 3 ≤ d) (v0 : Nat) : ∀ n s o, lp (lb_X11_ring_8 v0) n s = some o → ex_X11_ring_8 Γ v0 o → hd_X11_ring_8 Γ v0 s := by
  have hd1 : 1 ≤ d := by omega
  refine J_lp _ _ _ ?_
  intro s o hf hk j4
  unfold lb_X11_ring_8 at hf
  refine r_iload_n (pc := 8) X dX11_ring_8 rfl ?_
  refine r_aload_n (pc := 9) X dX11_ring_9 rfl ?_
  obtain ⟨a1, ea1, hf⟩ := ob hf
  refine r_getR (pc := 10) X dX11_ring_10 fl_X11_19 rfl ea1 ?_
  obtain ⟨x2, ex2, hf⟩ := ob hf
  refine r_getI (pc := 13) X dX11_ring_13 fl_X11_132 rfl ex2 ?_
  refine r_icmp_ge (pc := 16) X 53 dX11_ring_16 (by decide) (fun c11 => ?_) (fun c11 => ?_)
  · rw [if_neg c11] at hf
    obtain rfl := Option.some.inj hf
    exact hk _ _
  · rw [if_pos c11] at hf
    refine r_aload_n (pc := 19) X dX11_ring_19 rfl ?_
    obtain ⟨a3, ea3, hf⟩ := ob hf
    refine r_getR (pc := 20) X dX11_ring_20 fl_X11_28 rfl ea3 ?_
    refine r_iload_n (pc := 23) X dX11_ring_23 rfl ?_
    refine r_aload_n (pc := 24) X dX11_ring_24 rfl ?_
    obtain ⟨a4, ea4, hf⟩ := ob hf
    refine r_getR (pc := 25) X dX11_ring_25 fl_X11_61 rfl ea4 ?_
    obtain ⟨x5, ex5, hf⟩ := ob hf
    refine r_getI (pc := 28) X dX11_ring_28 fl_X11_216 rfl ex5 ?_
    obtain ⟨u6, eu6, hf⟩ := ob hf
    obtain ⟨o7, eo7, hf⟩ := ob hf
    refine r_callVI (pc := 31) X [.int s.2.2.1, .int x5] dX11_ring_31 ml_X11_416 vo_X10_ringLength ⟨Nat.le_refl _, Nat.le_refl _⟩ eu6 (ev_X10_ringLength (d := d - 1) (by omega) _ _ _ _ _ eo7) hd1 rfl (Nat.le_of_ble_eq_true rfl) rfl ?_
    refine r_istore (pc := 34) X [some (.ref v0), some (.int s.1), some (.int s.2.1), some (.int s.2.2.1), some (.int o7.1)] dX11_ring_34 (by decide) rfl ?_
    refine r_iload (pc := 36) X dX11_ring_36 rfl ?_
    refine r_iload_n (pc := 38) X dX11_ring_38 rfl ?_
    refine r_icmp_ge (pc := 39) X 47 dX11_ring_39 (by decide) (fun c10 => ?_) (fun c10 => ?_)
    · rw [if_neg c10] at hf
      obtain ⟨x8, ex8, hf⟩ := ob hf
      refine r_iinc2 (pc := 47) X 1 [some (.ref v0), some (.int s.1), some (.int s.2.1), some (.int x8), some (.int o7.1)] dX11_ring_47 (by decide) rfl (by decide) ex8 rfl ?_
      refine r_goto (pc := 50) X 8 dX11_ring_50 (by decide) ?_
      obtain rfl := Option.some.inj hf
      exact hk _
    · rw [if_pos c10] at hf
      refine r_iload (pc := 42) X dX11_ring_42 rfl ?_
      refine r_istore_n (pc := 44) X [some (.ref v0), some (.int s.1), some (.int o7.1), some (.int s.2.2.1), some (.int o7.1)] dX11_ring_44 (by decide) rfl ?_
      refine r_iload_n (pc := 45) X dX11_ring_45 rfl ?_
      refine r_istore_n (pc := 46) X [some (.ref v0), some (.int s.2.2.1), some (.int o7.1), some (.int s.2.2.1), some (.int o7.1)] dX11_ring_46 (by decide) rfl ?_
      obtain ⟨x9, ex9, hf⟩ := ob hf
      refine r_iinc2 (pc := 47) X 1 [some (.ref v0), some (.int s.2.2.1), some (.int o7.1), some (.int x9), some (.int o7.1)] dX11_ring_47 (by decide) rfl (by decide) ex9 rfl ?_
      refine r_goto (pc := 50) X 8 dX11_ring_50 (by decide) ?_
      obtain rfl := Option.some.inj hf
      exact hk _
def fn_X11_ring (h : aH) (p0 : Nat) : Option (Int32 × aH) :=
  (lp (lb_X11_ring_8 p0) lpN ((-1), 1000, 0, h)).bind fun o12 =>
  if o12.1 = (-1) then
    some ((-2), o12.2.2)
  else
    (gR o12.2.2 p0 10 2).bind fun a15 =>
    (gR o12.2.2 p0 10 1).bind fun a16 =>
    (gR o12.2.2 a16 0 3).bind fun a17 =>
    (aI o12.2.2 a17 14 o12.1).bind fun x18 =>
    (gR o12.2.2 p0 10 7).bind fun a19 =>
    (gI o12.2.2 a19 6 3).bind fun x20 =>
    (ck o12.2.2 a15 9).bind fun u21 =>
    (fn_X10_measure o12.2.2 a15 x18 x20).bind fun h22 =>
    (gR h22 p0 10 11).bind fun a23 =>
    (ck h22 a23 2).bind fun u24 =>
    (fn_X3_begin h22 a23).bind fun h25 =>
    (gR h25 p0 10 11).bind fun a26 =>
    (ck h25 a26 2).bind fun u27 =>
    (fn_X3_add h25 a26 (Int32.toInt64 o12.1)).bind fun h28 =>
    (gR h28 p0 10 2).bind fun a29 =>
    (gR h28 p0 10 1).bind fun a30 =>
    (gR h28 a30 0 4).bind fun a31 =>
    (aI h28 a31 14 o12.1).bind fun x32 =>
    (gR h28 p0 10 7).bind fun a33 =>
    (gI h28 a33 6 3).bind fun x34 =>
    (gR h28 p0 10 11).bind fun a35 =>
    (ck h28 a29 9).bind fun u36 =>
    (fn_X10_walk h28 a29 x32 x34 a35).bind fun h37 =>
    some (o12.2.1, h37)
set_option maxRecDepth 20000 in
set_option maxHeartbeats 4000000 in
theorem ev_X11_ring {l : Launch} {g : aG} {d : Nat} (hd : 3 ≤ d) (h : aH) (p0 : Nat) (o : Int32 × aH) (hf : fn_X11_ring h p0 = some o) : EvM l g d yX11_ring cX11_ring 5 (some .int) [.ref p0] h (some (.int o.1), o.2) := by
  refine EvM.of mk_X11_ring (Nat.le_of_ble_eq_true rfl) ?_
  intro Γ hl hg hq X
  have hd1 : 1 ≤ d := by omega
  have hk : RqI Γ o := hq
  unfold fn_X11_ring at hf
  show Jd Γ (0, 0) 0 [some (.ref p0), none, none, none, none] [] h
  refine r_iconst (pc := 0) X (-1) dX11_ring_0 (by decide) ?_
  refine r_istore_n (pc := 1) X [some (.ref p0), some (.int (-1)), none, none, none] dX11_ring_1 (by decide) rfl ?_
  refine r_sipush (pc := 2) X 1000 dX11_ring_2 (by decide) ?_
  refine r_istore_n (pc := 5) X [some (.ref p0), some (.int (-1)), some (.int 1000), none, none] dX11_ring_5 (by decide) rfl ?_
  refine r_iconst (pc := 6) X 0 dX11_ring_6 (by decide) ?_
  refine r_istore_n (pc := 7) X [some (.ref p0), some (.int (-1)), some (.int 1000), some (.int 0), none] dX11_ring_7 (by decide) rfl ?_
  obtain ⟨o12, eo12, hf⟩ := ob hf
  refine (lw_X11_ring_8 X hd _ lpN _ o12 eo12 ?_) _
  intro j13 j14
  refine r_iload_n (pc := 53) X dX11_ring_53 rfl ?_
  refine r_iconst (pc := 54) X (-1) dX11_ring_54 (by decide) ?_
  refine r_icmp_ne (pc := 55) X 61 dX11_ring_55 (by decide) (fun c38 => ?_) (fun c38 => ?_)
  · rw [if_neg c38] at hf
    refine r_aload_n (pc := 61) X dX11_ring_61 rfl ?_
    obtain ⟨a15, ea15, hf⟩ := ob hf
    refine r_getR (pc := 62) X dX11_ring_62 fl_X11_28 rfl ea15 ?_
    refine r_aload_n (pc := 65) X dX11_ring_65 rfl ?_
    obtain ⟨a16, ea16, hf⟩ := ob hf
    refine r_getR (pc := 66) X dX11_ring_66 fl_X11_19 rfl ea16 ?_
    obtain ⟨a17, ea17, hf⟩ := ob hf
    refine r_getR (pc := 69) X dX11_ring_69 fl_X11_204 rfl ea17 ?_
    refine r_iload_n (pc := 72) X dX11_ring_72 rfl ?_
    obtain ⟨x18, ex18, hf⟩ := ob hf
    refine r_iald (pc := 73) X dX11_ring_73 ex18 ?_
    refine r_aload_n (pc := 74) X dX11_ring_74 rfl ?_
    obtain ⟨a19, ea19, hf⟩ := ob hf
    refine r_getR (pc := 75) X dX11_ring_75 fl_X11_61 rfl ea19 ?_
    obtain ⟨x20, ex20, hf⟩ := ob hf
    refine r_getI (pc := 78) X dX11_ring_78 fl_X11_216 rfl ex20 ?_
    obtain ⟨u21, eu21, hf⟩ := ob hf
    obtain ⟨h22, eh22, hf⟩ := ob hf
    refine r_callVV (pc := 81) X [.int x18, .int x20] dX11_ring_81 ml_X11_402 vo_X10_measure ⟨Nat.le_refl _, Nat.le_refl _⟩ eu21 (ev_X10_measure (d := d - 1) (by omega) _ _ _ _ _ eh22) hd1 rfl (Nat.le_of_ble_eq_true rfl) rfl ?_
    refine r_aload_n (pc := 84) X dX11_ring_84 rfl ?_
    obtain ⟨a23, ea23, hf⟩ := ob hf
    refine r_getR (pc := 85) X dX11_ring_85 fl_X11_81 rfl ea23 ?_
    obtain ⟨u24, eu24, hf⟩ := ob hf
    obtain ⟨h25, eh25, hf⟩ := ob hf
    refine r_callVV (pc := 88) X [] dX11_ring_88 ml_X11_242 vo_X3_begin ⟨Nat.le_refl _, Nat.le_refl _⟩ eu24 (ev_X3_begin (d := d - 1) (by omega) _ _ _ eh25) hd1 rfl (Nat.le_of_ble_eq_true rfl) rfl ?_
    refine r_aload_n (pc := 91) X dX11_ring_91 rfl ?_
    obtain ⟨a26, ea26, hf⟩ := ob hf
    refine r_getR (pc := 92) X dX11_ring_92 fl_X11_81 rfl ea26 ?_
    refine r_iload_n (pc := 95) X dX11_ring_95 rfl ?_
    refine r_i2l (pc := 96) X dX11_ring_96 ?_
    obtain ⟨u27, eu27, hf⟩ := ob hf
    obtain ⟨h28, eh28, hf⟩ := ob hf
    refine r_callVV (pc := 97) X [.long (Int32.toInt64 o12.1)] dX11_ring_97 ml_X11_248 vo_X3_add ⟨Nat.le_refl _, Nat.le_refl _⟩ eu27 (ev_X3_add (d := d - 1) (by omega) _ _ _ _ eh28) hd1 rfl (Nat.le_of_ble_eq_true rfl) rfl ?_
    refine r_aload_n (pc := 100) X dX11_ring_100 rfl ?_
    obtain ⟨a29, ea29, hf⟩ := ob hf
    refine r_getR (pc := 101) X dX11_ring_101 fl_X11_28 rfl ea29 ?_
    refine r_aload_n (pc := 104) X dX11_ring_104 rfl ?_
    obtain ⟨a30, ea30, hf⟩ := ob hf
    refine r_getR (pc := 105) X dX11_ring_105 fl_X11_19 rfl ea30 ?_
    obtain ⟨a31, ea31, hf⟩ := ob hf
    refine r_getR (pc := 108) X dX11_ring_108 fl_X11_207 rfl ea31 ?_
    refine r_iload_n (pc := 111) X dX11_ring_111 rfl ?_
    obtain ⟨x32, ex32, hf⟩ := ob hf
    refine r_iald (pc := 112) X dX11_ring_112 ex32 ?_
    refine r_aload_n (pc := 113) X dX11_ring_113 rfl ?_
    obtain ⟨a33, ea33, hf⟩ := ob hf
    refine r_getR (pc := 114) X dX11_ring_114 fl_X11_61 rfl ea33 ?_
    obtain ⟨x34, ex34, hf⟩ := ob hf
    refine r_getI (pc := 117) X dX11_ring_117 fl_X11_216 rfl ex34 ?_
    refine r_aload_n (pc := 120) X dX11_ring_120 rfl ?_
    obtain ⟨a35, ea35, hf⟩ := ob hf
    refine r_getR (pc := 121) X dX11_ring_121 fl_X11_81 rfl ea35 ?_
    obtain ⟨u36, eu36, hf⟩ := ob hf
    obtain ⟨h37, eh37, hf⟩ := ob hf
    refine r_callVV (pc := 124) X [.int x32, .int x34, .ref a35] dX11_ring_124 ml_X11_409 vo_X10_walk ⟨Nat.le_refl _, Nat.le_refl _⟩ eu36 (ev_X10_walk (d := d - 1) (by omega) _ _ _ _ _ _ eh37) hd1 rfl (Nat.le_of_ble_eq_true rfl) rfl ?_
    refine r_iload_n (pc := 127) X dX11_ring_127 rfl ?_
    obtain rfl := Option.some.inj hf
    exact r_iret (pc := 128) X dX11_ring_128 hk
  · rw [if_pos c38] at hf
    refine r_bipush (pc := 58) X (-2) dX11_ring_58 (by decide) ?_
    obtain rfl := Option.some.inj hf
    exact r_iret (pc := 60) X dX11_ring_60 hk

theorem dX11_boatsThatGo_0 : decode cX11_boatsThatGo 0 = .ok (.aload_n 0, 1) := by decide +kernel
theorem dX11_boatsThatGo_1 : decode cX11_boatsThatGo 1 = .ok (.getfield 68, 3) := by decide +kernel
theorem dX11_boatsThatGo_4 : decode cX11_boatsThatGo 4 = .ok (.aload_n 0, 1) := by decide +kernel
theorem dX11_boatsThatGo_5 : decode cX11_boatsThatGo 5 = .ok (.getfield 61, 3) := by decide +kernel
theorem dX11_boatsThatGo_8 : decode cX11_boatsThatGo 8 = .ok (.invokevirtual 255, 3) := by decide +kernel
theorem dX11_boatsThatGo_11 : decode cX11_boatsThatGo 11 = .ok (.iconst 0, 1) := by decide +kernel
theorem dX11_boatsThatGo_12 : decode cX11_boatsThatGo 12 = .ok (.istore_n 2, 1) := by decide +kernel
theorem dX11_boatsThatGo_13 : decode cX11_boatsThatGo 13 = .ok (.iconst 0, 1) := by decide +kernel
theorem dX11_boatsThatGo_14 : decode cX11_boatsThatGo 14 = .ok (.istore_n 3, 1) := by decide +kernel
theorem dX11_boatsThatGo_15 : decode cX11_boatsThatGo 15 = .ok (.iload_n 3, 1) := by decide +kernel
theorem dX11_boatsThatGo_16 : decode cX11_boatsThatGo 16 = .ok (.iload_n 1, 1) := by decide +kernel
theorem dX11_boatsThatGo_17 : decode cX11_boatsThatGo 17 = .ok (.if_icmp .ge 40, 3) := by decide +kernel
theorem dX11_boatsThatGo_20 : decode cX11_boatsThatGo 20 = .ok (.iload_n 2, 1) := by decide +kernel
theorem dX11_boatsThatGo_21 : decode cX11_boatsThatGo 21 = .ok (.aload_n 0, 1) := by decide +kernel
theorem dX11_boatsThatGo_22 : decode cX11_boatsThatGo 22 = .ok (.getfield 19, 3) := by decide +kernel
theorem dX11_boatsThatGo_25 : decode cX11_boatsThatGo 25 = .ok (.aload_n 0, 1) := by decide +kernel
theorem dX11_boatsThatGo_26 : decode cX11_boatsThatGo 26 = .ok (.getfield 68, 3) := by decide +kernel
theorem dX11_boatsThatGo_29 : decode cX11_boatsThatGo 29 = .ok (.aload_n 0, 1) := by decide +kernel
theorem dX11_boatsThatGo_30 : decode cX11_boatsThatGo 30 = .ok (.getfield 35, 3) := by decide +kernel
theorem dX11_boatsThatGo_33 : decode cX11_boatsThatGo 33 = .ok (.getfield 434, 3) := by decide +kernel
theorem dX11_boatsThatGo_36 : decode cX11_boatsThatGo 36 = .ok (.iload_n 3, 1) := by decide +kernel
theorem dX11_boatsThatGo_37 : decode cX11_boatsThatGo 37 = .ok (.iaload, 1) := by decide +kernel
theorem dX11_boatsThatGo_38 : decode cX11_boatsThatGo 38 = .ok (.invokevirtual 291, 3) := by decide +kernel
theorem dX11_boatsThatGo_41 : decode cX11_boatsThatGo 41 = .ok (.ifCond .eq 7, 3) := by decide +kernel
theorem dX11_boatsThatGo_44 : decode cX11_boatsThatGo 44 = .ok (.iconst 1, 1) := by decide +kernel
theorem dX11_boatsThatGo_45 : decode cX11_boatsThatGo 45 = .ok (.goto 4, 3) := by decide +kernel
theorem dX11_boatsThatGo_48 : decode cX11_boatsThatGo 48 = .ok (.iconst 0, 1) := by decide +kernel
theorem dX11_boatsThatGo_49 : decode cX11_boatsThatGo 49 = .ok (.iadd, 1) := by decide +kernel
theorem dX11_boatsThatGo_50 : decode cX11_boatsThatGo 50 = .ok (.istore_n 2, 1) := by decide +kernel
theorem dX11_boatsThatGo_51 : decode cX11_boatsThatGo 51 = .ok (.iinc 3 1, 3) := by decide +kernel
theorem dX11_boatsThatGo_54 : decode cX11_boatsThatGo 54 = .ok (.goto (-39), 3) := by decide +kernel
theorem dX11_boatsThatGo_57 : decode cX11_boatsThatGo 57 = .ok (.iload_n 2, 1) := by decide +kernel
theorem dX11_boatsThatGo_58 : decode cX11_boatsThatGo 58 = .ok (.ireturn, 1) := by decide +kernel
def lb_X11_boatsThatGo_15 (v0 : Nat) (v1 : Int32) (s : Int32 × Int32 × aH) : Option ((Int32 × Int32 × aH) ⊕ ((Int32 × aH))) :=
  if s.2.1 < v1 then
    (gR s.2.2 v0 10 1).bind fun a5 =>
    (gR s.2.2 v0 10 9).bind fun a6 =>
    (gR s.2.2 v0 10 3).bind fun a7 =>
    (gR s.2.2 a7 8 0).bind fun a8 =>
    (aI s.2.2 a8 14 s.2.1).bind fun x9 =>
    (ck s.2.2 a5 0).bind fun u10 =>
    (fn_X0_carry s.2.2 a5 a6 x9).bind fun o11 =>
    if o11.1 = 0 then
      (some (s.1 + 0)).bind fun x12 =>
      (some (s.2.1 + 1)).bind fun x13 =>
      some (.inl (x12, x13, o11.2))
    else
      (some (s.1 + 1)).bind fun x14 =>
      (some (s.2.1 + 1)).bind fun x15 =>
      some (.inl (x14, x15, o11.2))
  else
    some (.inr (s.1, s.2.2))
def hd_X11_boatsThatGo_15 (Γ : aC) (v0 : Nat) (v1 : Int32) (s : Int32 × Int32 × aH) : Prop := Jd Γ (0, 0) 15 [some (.ref v0), some (.int v1), some (.int s.1), some (.int s.2.1)] [] s.2.2
def ex_X11_boatsThatGo_15 (Γ : aC) (v0 : Nat) (v1 : Int32) (r : (Int32 × aH)) : Prop := (fun r => RqI Γ r) r
set_option maxRecDepth 20000 in
set_option maxHeartbeats 4000000 in
theorem lw_X11_boatsThatGo_15 {Γ : aC} {d : Nat} (X : Cx Γ RX11 cX11_boatsThatGo 4 (some .int) (d, 0, 0)) (hd : 2 ≤ d) (v0 : Nat) (v1 : Int32) : ∀ n s o, lp (lb_X11_boatsThatGo_15 v0 v1) n s = some o → ex_X11_boatsThatGo_15 Γ v0 v1 o → hd_X11_boatsThatGo_15 Γ v0 v1 s := by
  have hd1 : 1 ≤ d := by omega
  refine J_lp _ _ _ ?_
  intro s o hf hk
  unfold lb_X11_boatsThatGo_15 at hf
  refine r_iload_n (pc := 15) X dX11_boatsThatGo_15 rfl ?_
  refine r_iload_n (pc := 16) X dX11_boatsThatGo_16 rfl ?_
  refine r_icmp_ge (pc := 17) X 57 dX11_boatsThatGo_17 (by decide) (fun c17 => ?_) (fun c17 => ?_)
  · rw [if_neg c17] at hf
    refine r_iload_n (pc := 57) X dX11_boatsThatGo_57 rfl ?_
    obtain rfl := Option.some.inj hf
    exact r_iret (pc := 58) X dX11_boatsThatGo_58 hk
  · rw [if_pos c17] at hf
    refine r_iload_n (pc := 20) X dX11_boatsThatGo_20 rfl ?_
    refine r_aload_n (pc := 21) X dX11_boatsThatGo_21 rfl ?_
    obtain ⟨a5, ea5, hf⟩ := ob hf
    refine r_getR (pc := 22) X dX11_boatsThatGo_22 fl_X11_19 rfl ea5 ?_
    refine r_aload_n (pc := 25) X dX11_boatsThatGo_25 rfl ?_
    obtain ⟨a6, ea6, hf⟩ := ob hf
    refine r_getR (pc := 26) X dX11_boatsThatGo_26 fl_X11_68 rfl ea6 ?_
    refine r_aload_n (pc := 29) X dX11_boatsThatGo_29 rfl ?_
    obtain ⟨a7, ea7, hf⟩ := ob hf
    refine r_getR (pc := 30) X dX11_boatsThatGo_30 fl_X11_35 rfl ea7 ?_
    obtain ⟨a8, ea8, hf⟩ := ob hf
    refine r_getR (pc := 33) X dX11_boatsThatGo_33 fl_X11_434 rfl ea8 ?_
    refine r_iload_n (pc := 36) X dX11_boatsThatGo_36 rfl ?_
    obtain ⟨x9, ex9, hf⟩ := ob hf
    refine r_iald (pc := 37) X dX11_boatsThatGo_37 ex9 ?_
    obtain ⟨u10, eu10, hf⟩ := ob hf
    obtain ⟨o11, eo11, hf⟩ := ob hf
    refine r_callVI (pc := 38) X [.ref a6, .int x9] dX11_boatsThatGo_38 ml_X11_291 vo_X0_carry ⟨Nat.le_refl _, Nat.le_refl _⟩ eu10 (ev_X0_carry (d := d - 1) (by omega) _ _ _ _ _ eo11) hd1 rfl (Nat.le_of_ble_eq_true rfl) rfl ?_
    refine r_if_eq (pc := 41) X 48 dX11_boatsThatGo_41 (by decide) (fun c16 => ?_) (fun c16 => ?_)
    · rw [if_pos c16] at hf
      refine r_iconst (pc := 48) X 0 dX11_boatsThatGo_48 (by decide) ?_
      refine r_iadd (pc := 49) X dX11_boatsThatGo_49 ?_
      obtain ⟨x12, ex12, hf⟩ := ob hf
      refine r_nmI ex12 ?_
      refine r_istore_n (pc := 50) X [some (.ref v0), some (.int v1), some (.int x12), some (.int s.2.1)] dX11_boatsThatGo_50 (by decide) rfl ?_
      obtain ⟨x13, ex13, hf⟩ := ob hf
      refine r_iinc2 (pc := 51) X 1 [some (.ref v0), some (.int v1), some (.int x12), some (.int x13)] dX11_boatsThatGo_51 (by decide) rfl (by decide) ex13 rfl ?_
      refine r_goto (pc := 54) X 15 dX11_boatsThatGo_54 (by decide) ?_
      obtain rfl := Option.some.inj hf
      exact hk
    · rw [if_neg c16] at hf
      refine r_iconst (pc := 44) X 1 dX11_boatsThatGo_44 (by decide) ?_
      refine r_goto (pc := 45) X 49 dX11_boatsThatGo_45 (by decide) ?_
      refine r_iadd (pc := 49) X dX11_boatsThatGo_49 ?_
      obtain ⟨x14, ex14, hf⟩ := ob hf
      refine r_nmI ex14 ?_
      refine r_istore_n (pc := 50) X [some (.ref v0), some (.int v1), some (.int x14), some (.int s.2.1)] dX11_boatsThatGo_50 (by decide) rfl ?_
      obtain ⟨x15, ex15, hf⟩ := ob hf
      refine r_iinc2 (pc := 51) X 1 [some (.ref v0), some (.int v1), some (.int x14), some (.int x15)] dX11_boatsThatGo_51 (by decide) rfl (by decide) ex15 rfl ?_
      refine r_goto (pc := 54) X 15 dX11_boatsThatGo_54 (by decide) ?_
      obtain rfl := Option.some.inj hf
      exact hk
def fn_X11_boatsThatGo (h : aH) (p0 : Nat) (p1 : Int32) : Option (Int32 × aH) :=
  (gR h p0 10 9).bind fun a1 =>
  (gR h p0 10 7).bind fun a2 =>
  (ck h a1 6).bind fun u3 =>
  (fn_X7_takes h a1 a2).bind fun h4 =>
  (lp (lb_X11_boatsThatGo_15 p0 p1) lpN (0, 0, h4)).bind fun o18 =>
  some o18
set_option maxRecDepth 20000 in
set_option maxHeartbeats 4000000 in
theorem ev_X11_boatsThatGo {l : Launch} {g : aG} {d : Nat} (hd : 2 ≤ d) (h : aH) (p0 : Nat) (p1 : Int32) (o : Int32 × aH) (hf : fn_X11_boatsThatGo h p0 p1 = some o) : EvM l g d yX11_boatsThatGo cX11_boatsThatGo 4 (some .int) [.ref p0, .int p1] h (some (.int o.1), o.2) := by
  refine EvM.of mk_X11_boatsThatGo (Nat.le_of_ble_eq_true rfl) ?_
  intro Γ hl hg hq X
  have hd1 : 1 ≤ d := by omega
  have hk : RqI Γ o := hq
  unfold fn_X11_boatsThatGo at hf
  show Jd Γ (0, 0) 0 [some (.ref p0), some (.int p1), none, none] [] h
  refine r_aload_n (pc := 0) X dX11_boatsThatGo_0 rfl ?_
  obtain ⟨a1, ea1, hf⟩ := ob hf
  refine r_getR (pc := 1) X dX11_boatsThatGo_1 fl_X11_68 rfl ea1 ?_
  refine r_aload_n (pc := 4) X dX11_boatsThatGo_4 rfl ?_
  obtain ⟨a2, ea2, hf⟩ := ob hf
  refine r_getR (pc := 5) X dX11_boatsThatGo_5 fl_X11_61 rfl ea2 ?_
  obtain ⟨u3, eu3, hf⟩ := ob hf
  obtain ⟨h4, eh4, hf⟩ := ob hf
  refine r_callVV (pc := 8) X [.ref a2] dX11_boatsThatGo_8 ml_X11_255 vo_X7_takes ⟨Nat.le_refl _, Nat.le_refl _⟩ eu3 (ev_X7_takes (d := d - 1) (by omega) _ _ _ _ eh4) hd1 rfl (Nat.le_of_ble_eq_true rfl) rfl ?_
  refine r_iconst (pc := 11) X 0 dX11_boatsThatGo_11 (by decide) ?_
  refine r_istore_n (pc := 12) X [some (.ref p0), some (.int p1), some (.int 0), none] dX11_boatsThatGo_12 (by decide) rfl ?_
  refine r_iconst (pc := 13) X 0 dX11_boatsThatGo_13 (by decide) ?_
  refine r_istore_n (pc := 14) X [some (.ref p0), some (.int p1), some (.int 0), some (.int 0)] dX11_boatsThatGo_14 (by decide) rfl ?_
  obtain ⟨o18, eo18, hf⟩ := ob hf
  refine (lw_X11_boatsThatGo_15 X hd _ _ lpN _ o18 eo18 ?_)
  obtain rfl := Option.some.inj hf
  exact hk

theorem dX11_order_0 : decode cX11_order 0 = .ok (.aload_n 0, 1) := by decide +kernel
theorem dX11_order_1 : decode cX11_order 1 = .ok (.getfield 19, 3) := by decide +kernel
theorem dX11_order_4 : decode cX11_order 4 = .ok (.getfield 132, 3) := by decide +kernel
theorem dX11_order_7 : decode cX11_order 7 = .ok (.bipush 6, 2) := by decide +kernel
theorem dX11_order_9 : decode cX11_order 9 = .ok (.invokestatic 230, 3) := by decide +kernel
theorem dX11_order_12 : decode cX11_order 12 = .ok (.istore_n 1, 1) := by decide +kernel
theorem dX11_order_13 : decode cX11_order 13 = .ok (.aload_n 0, 1) := by decide +kernel
theorem dX11_order_14 : decode cX11_order 14 = .ok (.getfield 35, 3) := by decide +kernel
theorem dX11_order_17 : decode cX11_order 17 = .ok (.iload_n 1, 1) := by decide +kernel
theorem dX11_order_18 : decode cX11_order 18 = .ok (.invokevirtual 419, 3) := by decide +kernel
theorem dX11_order_21 : decode cX11_order 21 = .ok (.iconst (-1), 1) := by decide +kernel
theorem dX11_order_22 : decode cX11_order 22 = .ok (.istore_n 2, 1) := by decide +kernel
theorem dX11_order_23 : decode cX11_order 23 = .ok (.iconst 1, 1) := by decide +kernel
theorem dX11_order_24 : decode cX11_order 24 = .ok (.istore_n 3, 1) := by decide +kernel
theorem dX11_order_25 : decode cX11_order 25 = .ok (.iconst 0, 1) := by decide +kernel
theorem dX11_order_26 : decode cX11_order 26 = .ok (.istore 4, 2) := by decide +kernel
theorem dX11_order_28 : decode cX11_order 28 = .ok (.iload 4, 2) := by decide +kernel
theorem dX11_order_30 : decode cX11_order 30 = .ok (.sipush 720, 3) := by decide +kernel
theorem dX11_order_33 : decode cX11_order 33 = .ok (.if_icmp .ge 49, 3) := by decide +kernel
theorem dX11_order_36 : decode cX11_order 36 = .ok (.iload_n 3, 1) := by decide +kernel
theorem dX11_order_37 : decode cX11_order 37 = .ok (.ifCond .eq 45, 3) := by decide +kernel
theorem dX11_order_40 : decode cX11_order 40 = .ok (.iload_n 2, 1) := by decide +kernel
theorem dX11_order_41 : decode cX11_order 41 = .ok (.iload_n 1, 1) := by decide +kernel
theorem dX11_order_42 : decode cX11_order 42 = .ok (.if_icmp .ge 40, 3) := by decide +kernel
theorem dX11_order_45 : decode cX11_order 45 = .ok (.aload_n 0, 1) := by decide +kernel
theorem dX11_order_46 : decode cX11_order 46 = .ok (.iload_n 1, 1) := by decide +kernel
theorem dX11_order_47 : decode cX11_order 47 = .ok (.invokevirtual 421, 3) := by decide +kernel
theorem dX11_order_50 : decode cX11_order 50 = .ok (.istore 5, 2) := by decide +kernel
theorem dX11_order_52 : decode cX11_order 52 = .ok (.iload 5, 2) := by decide +kernel
theorem dX11_order_54 : decode cX11_order 54 = .ok (.iload_n 2, 1) := by decide +kernel
theorem dX11_order_55 : decode cX11_order 55 = .ok (.if_icmp .le 13, 3) := by decide +kernel
theorem dX11_order_58 : decode cX11_order 58 = .ok (.iload 5, 2) := by decide +kernel
theorem dX11_order_60 : decode cX11_order 60 = .ok (.istore_n 2, 1) := by decide +kernel
theorem dX11_order_61 : decode cX11_order 61 = .ok (.aload_n 0, 1) := by decide +kernel
theorem dX11_order_62 : decode cX11_order 62 = .ok (.getfield 35, 3) := by decide +kernel
theorem dX11_order_65 : decode cX11_order 65 = .ok (.invokevirtual 424, 3) := by decide +kernel
theorem dX11_order_68 : decode cX11_order 68 = .ok (.aload_n 0, 1) := by decide +kernel
theorem dX11_order_69 : decode cX11_order 69 = .ok (.getfield 35, 3) := by decide +kernel
theorem dX11_order_72 : decode cX11_order 72 = .ok (.invokevirtual 427, 3) := by decide +kernel
theorem dX11_order_75 : decode cX11_order 75 = .ok (.istore_n 3, 1) := by decide +kernel
theorem dX11_order_76 : decode cX11_order 76 = .ok (.iinc 4 1, 3) := by decide +kernel
theorem dX11_order_79 : decode cX11_order 79 = .ok (.goto (-51), 3) := by decide +kernel
theorem dX11_order_82 : decode cX11_order 82 = .ok (.aload_n 0, 1) := by decide +kernel
theorem dX11_order_83 : decode cX11_order 83 = .ok (.getfield 81, 3) := by decide +kernel
theorem dX11_order_86 : decode cX11_order 86 = .ok (.invokevirtual 242, 3) := by decide +kernel
theorem dX11_order_89 : decode cX11_order 89 = .ok (.iconst 0, 1) := by decide +kernel
theorem dX11_order_90 : decode cX11_order 90 = .ok (.istore 4, 2) := by decide +kernel
theorem dX11_order_92 : decode cX11_order 92 = .ok (.iload 4, 2) := by decide +kernel
theorem dX11_order_94 : decode cX11_order 94 = .ok (.iload_n 1, 1) := by decide +kernel
theorem dX11_order_95 : decode cX11_order 95 = .ok (.if_icmp .ge 27, 3) := by decide +kernel
theorem dX11_order_98 : decode cX11_order 98 = .ok (.aload_n 0, 1) := by decide +kernel
theorem dX11_order_99 : decode cX11_order 99 = .ok (.getfield 81, 3) := by decide +kernel
theorem dX11_order_102 : decode cX11_order 102 = .ok (.aload_n 0, 1) := by decide +kernel
theorem dX11_order_103 : decode cX11_order 103 = .ok (.getfield 35, 3) := by decide +kernel
theorem dX11_order_106 : decode cX11_order 106 = .ok (.getfield 431, 3) := by decide +kernel
theorem dX11_order_109 : decode cX11_order 109 = .ok (.iload 4, 2) := by decide +kernel
theorem dX11_order_111 : decode cX11_order 111 = .ok (.iaload, 1) := by decide +kernel
theorem dX11_order_112 : decode cX11_order 112 = .ok (.i2l, 1) := by decide +kernel
theorem dX11_order_113 : decode cX11_order 113 = .ok (.invokevirtual 248, 3) := by decide +kernel
theorem dX11_order_116 : decode cX11_order 116 = .ok (.iinc 4 1, 3) := by decide +kernel
theorem dX11_order_119 : decode cX11_order 119 = .ok (.goto (-27), 3) := by decide +kernel
theorem dX11_order_122 : decode cX11_order 122 = .ok (.iconst 0, 1) := by decide +kernel
theorem dX11_order_123 : decode cX11_order 123 = .ok (.iload_n 2, 1) := by decide +kernel
theorem dX11_order_124 : decode cX11_order 124 = .ok (.invokestatic 235, 3) := by decide +kernel
theorem dX11_order_127 : decode cX11_order 127 = .ok (.ireturn, 1) := by decide +kernel
def lb_X11_order_28 (v0 : Nat) (v1 : Int32) (s : Int32 × Int32 × Int32 × aH) : Option ((Int32 × Int32 × Int32 × aH) ⊕ ((Int32 × aH))) :=
  if s.2.2.1 < 720 then
    if s.2.1 = 0 then
      some (.inr (s.1, s.2.2.2))
    else
      if s.1 < v1 then
        (ck s.2.2.2 v0 10).bind fun u7 =>
        (fn_X11_boatsThatGo s.2.2.2 v0 v1).bind fun o8 =>
        ((
          if o8.1 ≤ s.1 then
            some (s.1, o8.2)
          else
            (gR o8.2 v0 10 3).bind fun a14 =>
            (ck o8.2 a14 8).bind fun u15 =>
            (fn_X9_holdBest o8.2 a14).bind fun h16 =>
            some (o8.1, h16)
        ) : Option (Int32 × aH)).bind fun t9 =>
        (gR t9.2 v0 10 3).bind fun a10 =>
        (ck t9.2 a10 8).bind fun u11 =>
        (fn_X9_next t9.2 a10).bind fun o12 =>
        (some (s.2.2.1 + 1)).bind fun x13 =>
        some (.inl (t9.1, o12.1, x13, o12.2))
      else
        some (.inr (s.1, s.2.2.2))
  else
    some (.inr (s.1, s.2.2.2))
def hd_X11_order_28 (Γ : aC) (v0 : Nat) (v1 : Int32) (s : Int32 × Int32 × Int32 × aH) : Prop := ∀ (j5 : Option Value), Jd Γ (0, 0) 28 [some (.ref v0), some (.int v1), some (.int s.1), some (.int s.2.1), some (.int s.2.2.1), j5] [] s.2.2.2
def ex_X11_order_28 (Γ : aC) (v0 : Nat) (v1 : Int32) (r : (Int32 × aH)) : Prop := (fun r => ∀ (j3 : Option Value) (j4 : Option Value) (j5 : Option Value), Jd Γ (0, 0) 82 [some (.ref v0), some (.int v1), some (.int r.1), j3, j4, j5] [] r.2) r
set_option maxRecDepth 20000 in
set_option maxHeartbeats 4000000 in
theorem lw_X11_order_28 {Γ : aC} {d : Nat} (X : Cx Γ RX11 cX11_order 6 (some .int) (d, 0, 0)) (hd : 3 ≤ d) (v0 : Nat) (v1 : Int32) : ∀ n s o, lp (lb_X11_order_28 v0 v1) n s = some o → ex_X11_order_28 Γ v0 v1 o → hd_X11_order_28 Γ v0 v1 s := by
  have hd1 : 1 ≤ d := by omega
  refine J_lp _ _ _ ?_
  intro s o hf hk j5
  unfold lb_X11_order_28 at hf
  refine r_iload (pc := 28) X dX11_order_28 rfl ?_
  refine r_sipush (pc := 30) X 720 dX11_order_30 (by decide) ?_
  refine r_icmp_ge (pc := 33) X 82 dX11_order_33 (by decide) (fun c20 => ?_) (fun c20 => ?_)
  · rw [if_neg c20] at hf
    obtain rfl := Option.some.inj hf
    exact hk _ _ _
  · rw [if_pos c20] at hf
    refine r_iload_n (pc := 36) X dX11_order_36 rfl ?_
    refine r_if_eq (pc := 37) X 82 dX11_order_37 (by decide) (fun c19 => ?_) (fun c19 => ?_)
    · rw [if_pos c19] at hf
      obtain rfl := Option.some.inj hf
      exact hk _ _ _
    · rw [if_neg c19] at hf
      refine r_iload_n (pc := 40) X dX11_order_40 rfl ?_
      refine r_iload_n (pc := 41) X dX11_order_41 rfl ?_
      refine r_icmp_ge (pc := 42) X 82 dX11_order_42 (by decide) (fun c18 => ?_) (fun c18 => ?_)
      · rw [if_neg c18] at hf
        obtain rfl := Option.some.inj hf
        exact hk _ _ _
      · rw [if_pos c18] at hf
        refine r_aload_n (pc := 45) X dX11_order_45 rfl ?_
        refine r_iload_n (pc := 46) X dX11_order_46 rfl ?_
        obtain ⟨u7, eu7, hf⟩ := ob hf
        obtain ⟨o8, eo8, hf⟩ := ob hf
        refine r_callVI (pc := 47) X [.int v1] dX11_order_47 ml_X11_421 vo_X11_boatsThatGo ⟨Nat.le_refl _, Nat.le_refl _⟩ eu7 (ev_X11_boatsThatGo (d := d - 1) (by omega) _ _ _ _ eo8) hd1 rfl (Nat.le_of_ble_eq_true rfl) rfl ?_
        refine r_istore (pc := 50) X [some (.ref v0), some (.int v1), some (.int s.1), some (.int s.2.1), some (.int s.2.2.1), some (.int o8.1)] dX11_order_50 (by decide) rfl ?_
        refine r_iload (pc := 52) X dX11_order_52 rfl ?_
        refine r_iload_n (pc := 54) X dX11_order_54 rfl ?_
        obtain ⟨t9, et9, hf⟩ := ob hf
        have Jt9 : Jd Γ (0, 0) 68 [some (.ref v0), some (.int v1), some (.int t9.1), some (.int s.2.1), some (.int s.2.2.1), some (.int o8.1)] [] t9.2 := by
          refine r_aload_n (pc := 68) X dX11_order_68 rfl ?_
          obtain ⟨a10, ea10, hf⟩ := ob hf
          refine r_getR (pc := 69) X dX11_order_69 fl_X11_35 rfl ea10 ?_
          obtain ⟨u11, eu11, hf⟩ := ob hf
          obtain ⟨o12, eo12, hf⟩ := ob hf
          refine r_callVI (pc := 72) X [] dX11_order_72 ml_X11_427 vo_X9_next ⟨Nat.le_refl _, Nat.le_refl _⟩ eu11 (ev_X9_next (d := d - 1) (by omega) _ _ _ eo12) hd1 rfl (Nat.le_of_ble_eq_true rfl) rfl ?_
          refine r_istore_n (pc := 75) X [some (.ref v0), some (.int v1), some (.int t9.1), some (.int o12.1), some (.int s.2.2.1), some (.int o8.1)] dX11_order_75 (by decide) rfl ?_
          obtain ⟨x13, ex13, hf⟩ := ob hf
          refine r_iinc2 (pc := 76) X 1 [some (.ref v0), some (.int v1), some (.int t9.1), some (.int o12.1), some (.int x13), some (.int o8.1)] dX11_order_76 (by decide) rfl (by decide) ex13 rfl ?_
          refine r_goto (pc := 79) X 28 dX11_order_79 (by decide) ?_
          obtain rfl := Option.some.inj hf
          exact hk _
        refine r_icmp_le (pc := 55) X 68 dX11_order_55 (by decide) (fun c17 => ?_) (fun c17 => ?_)
        · rw [if_pos c17] at et9
          obtain rfl := Option.some.inj et9
          exact Jt9
        · rw [if_neg c17] at et9
          refine r_iload (pc := 58) X dX11_order_58 rfl ?_
          refine r_istore_n (pc := 60) X [some (.ref v0), some (.int v1), some (.int o8.1), some (.int s.2.1), some (.int s.2.2.1), some (.int o8.1)] dX11_order_60 (by decide) rfl ?_
          refine r_aload_n (pc := 61) X dX11_order_61 rfl ?_
          obtain ⟨a14, ea14, et9⟩ := ob et9
          refine r_getR (pc := 62) X dX11_order_62 fl_X11_35 rfl ea14 ?_
          obtain ⟨u15, eu15, et9⟩ := ob et9
          obtain ⟨h16, eh16, et9⟩ := ob et9
          refine r_callVV (pc := 65) X [] dX11_order_65 ml_X11_424 vo_X9_holdBest ⟨Nat.le_refl _, Nat.le_refl _⟩ eu15 (ev_X9_holdBest (d := d - 1) (by omega) _ _ _ eh16) hd1 rfl (Nat.le_of_ble_eq_true rfl) rfl ?_
          obtain rfl := Option.some.inj et9
          exact Jt9
def lb_X11_order_92 (v0 : Nat) (v1 : Int32) (v2 : Int32) (s : Int32 × aH) : Option ((Int32 × aH) ⊕ ((aH))) :=
  if s.1 < v1 then
    (gR s.2 v0 10 11).bind fun a28 =>
    (gR s.2 v0 10 3).bind fun a29 =>
    (gR s.2 a29 8 1).bind fun a30 =>
    (aI s.2 a30 14 s.1).bind fun x31 =>
    (ck s.2 a28 2).bind fun u32 =>
    (fn_X3_add s.2 a28 (Int32.toInt64 x31)).bind fun h33 =>
    (some (s.1 + 1)).bind fun x34 =>
    some (.inl (x34, h33))
  else
    some (.inr s.2)
def hd_X11_order_92 (Γ : aC) (v0 : Nat) (v1 : Int32) (v2 : Int32) (s : Int32 × aH) : Prop := ∀ (j3 : Option Value) (j5 : Option Value), Jd Γ (0, 0) 92 [some (.ref v0), some (.int v1), some (.int v2), j3, some (.int s.1), j5] [] s.2
def ex_X11_order_92 (Γ : aC) (v0 : Nat) (v1 : Int32) (v2 : Int32) (r : (aH)) : Prop := (fun r => ∀ (j3 : Option Value) (j4 : Option Value) (j5 : Option Value), Jd Γ (0, 0) 122 [some (.ref v0), some (.int v1), some (.int v2), j3, j4, j5] [] r) r
set_option maxRecDepth 20000 in
set_option maxHeartbeats 4000000 in
theorem lw_X11_order_92 {Γ : aC} {d : Nat} (X : Cx Γ RX11 cX11_order 6 (some .int) (d, 0, 0)) (hd : 3 ≤ d) (v0 : Nat) (v1 : Int32) (v2 : Int32) : ∀ n s o, lp (lb_X11_order_92 v0 v1 v2) n s = some o → ex_X11_order_92 Γ v0 v1 v2 o → hd_X11_order_92 Γ v0 v1 v2 s := by
  have hd1 : 1 ≤ d := by omega
  refine J_lp _ _ _ ?_
  intro s o hf hk j3 j5
  unfold lb_X11_order_92 at hf
  refine r_iload (pc := 92) X dX11_order_92 rfl ?_
  refine r_iload_n (pc := 94) X dX11_order_94 rfl ?_
  refine r_icmp_ge (pc := 95) X 122 dX11_order_95 (by decide) (fun c35 => ?_) (fun c35 => ?_)
  · rw [if_neg c35] at hf
    obtain rfl := Option.some.inj hf
    exact hk _ _ _
  · rw [if_pos c35] at hf
    refine r_aload_n (pc := 98) X dX11_order_98 rfl ?_
    obtain ⟨a28, ea28, hf⟩ := ob hf
    refine r_getR (pc := 99) X dX11_order_99 fl_X11_81 rfl ea28 ?_
    refine r_aload_n (pc := 102) X dX11_order_102 rfl ?_
    obtain ⟨a29, ea29, hf⟩ := ob hf
    refine r_getR (pc := 103) X dX11_order_103 fl_X11_35 rfl ea29 ?_
    obtain ⟨a30, ea30, hf⟩ := ob hf
    refine r_getR (pc := 106) X dX11_order_106 fl_X11_431 rfl ea30 ?_
    refine r_iload (pc := 109) X dX11_order_109 rfl ?_
    obtain ⟨x31, ex31, hf⟩ := ob hf
    refine r_iald (pc := 111) X dX11_order_111 ex31 ?_
    refine r_i2l (pc := 112) X dX11_order_112 ?_
    obtain ⟨u32, eu32, hf⟩ := ob hf
    obtain ⟨h33, eh33, hf⟩ := ob hf
    refine r_callVV (pc := 113) X [.long (Int32.toInt64 x31)] dX11_order_113 ml_X11_248 vo_X3_add ⟨Nat.le_refl _, Nat.le_refl _⟩ eu32 (ev_X3_add (d := d - 1) (by omega) _ _ _ _ eh33) hd1 rfl (Nat.le_of_ble_eq_true rfl) rfl ?_
    obtain ⟨x34, ex34, hf⟩ := ob hf
    refine r_fg 3 [some (.ref v0), some (.int v1), some (.int v2), none, some (.int s.1), j5] rfl ?_
    refine r_iinc2 (pc := 116) X 1 [some (.ref v0), some (.int v1), some (.int v2), none, some (.int x34), j5] dX11_order_116 (by decide) rfl (by decide) ex34 rfl ?_
    refine r_goto (pc := 119) X 92 dX11_order_119 (by decide) ?_
    obtain rfl := Option.some.inj hf
    exact hk _ _
def fn_X11_order (h : aH) (p0 : Nat) : Option (Int32 × aH) :=
  (gR h p0 10 1).bind fun a1 =>
  (gI h a1 0 1).bind fun x2 =>
  (some (mn x2 6)).bind fun x3 =>
  (gR h p0 10 3).bind fun a4 =>
  (ck h a4 8).bind fun u5 =>
  (fn_X9_begin h a4 x3).bind fun h6 =>
  (lp (lb_X11_order_28 p0 x3) lpN ((-1), 1, 0, h6)).bind fun o21 =>
  (gR o21.2 p0 10 11).bind fun a25 =>
  (ck o21.2 a25 2).bind fun u26 =>
  (fn_X3_begin o21.2 a25).bind fun h27 =>
  (lp (lb_X11_order_92 p0 x3 o21.1) lpN (0, h27)).bind fun o36 =>
  some ((mx 0 o21.1), o36)
set_option maxRecDepth 20000 in
set_option maxHeartbeats 4000000 in
theorem ev_X11_order {l : Launch} {g : aG} {d : Nat} (hd : 3 ≤ d) (h : aH) (p0 : Nat) (o : Int32 × aH) (hf : fn_X11_order h p0 = some o) : EvM l g d yX11_order cX11_order 6 (some .int) [.ref p0] h (some (.int o.1), o.2) := by
  refine EvM.of mk_X11_order (Nat.le_of_ble_eq_true rfl) ?_
  intro Γ hl hg hq X
  have hd1 : 1 ≤ d := by omega
  have hk : RqI Γ o := hq
  unfold fn_X11_order at hf
  show Jd Γ (0, 0) 0 [some (.ref p0), none, none, none, none, none] [] h
  refine r_aload_n (pc := 0) X dX11_order_0 rfl ?_
  obtain ⟨a1, ea1, hf⟩ := ob hf
  refine r_getR (pc := 1) X dX11_order_1 fl_X11_19 rfl ea1 ?_
  obtain ⟨x2, ex2, hf⟩ := ob hf
  refine r_getI (pc := 4) X dX11_order_4 fl_X11_132 rfl ex2 ?_
  refine r_bipush (pc := 7) X 6 dX11_order_7 (by decide) ?_
  refine r_min (pc := 9) X dX11_order_9 ml_X11_230 ⟨Nat.le_refl _, Nat.le_refl _⟩ hd1 (Nat.le_of_ble_eq_true rfl) ?_
  obtain ⟨x3, ex3, hf⟩ := ob hf
  refine r_nmI ex3 ?_
  refine r_istore_n (pc := 12) X [some (.ref p0), some (.int x3), none, none, none, none] dX11_order_12 (by decide) rfl ?_
  refine r_aload_n (pc := 13) X dX11_order_13 rfl ?_
  obtain ⟨a4, ea4, hf⟩ := ob hf
  refine r_getR (pc := 14) X dX11_order_14 fl_X11_35 rfl ea4 ?_
  refine r_iload_n (pc := 17) X dX11_order_17 rfl ?_
  obtain ⟨u5, eu5, hf⟩ := ob hf
  obtain ⟨h6, eh6, hf⟩ := ob hf
  refine r_callVV (pc := 18) X [.int x3] dX11_order_18 ml_X11_419 vo_X9_begin ⟨Nat.le_refl _, Nat.le_refl _⟩ eu5 (ev_X9_begin (d := d - 1) (by omega) _ _ _ _ eh6) hd1 rfl (Nat.le_of_ble_eq_true rfl) rfl ?_
  refine r_iconst (pc := 21) X (-1) dX11_order_21 (by decide) ?_
  refine r_istore_n (pc := 22) X [some (.ref p0), some (.int x3), some (.int (-1)), none, none, none] dX11_order_22 (by decide) rfl ?_
  refine r_iconst (pc := 23) X 1 dX11_order_23 (by decide) ?_
  refine r_istore_n (pc := 24) X [some (.ref p0), some (.int x3), some (.int (-1)), some (.int 1), none, none] dX11_order_24 (by decide) rfl ?_
  refine r_iconst (pc := 25) X 0 dX11_order_25 (by decide) ?_
  refine r_istore (pc := 26) X [some (.ref p0), some (.int x3), some (.int (-1)), some (.int 1), some (.int 0), none] dX11_order_26 (by decide) rfl ?_
  obtain ⟨o21, eo21, hf⟩ := ob hf
  refine (lw_X11_order_28 X hd _ _ lpN _ o21 eo21 ?_) _
  intro j22 j23 j24
  refine r_aload_n (pc := 82) X dX11_order_82 rfl ?_
  obtain ⟨a25, ea25, hf⟩ := ob hf
  refine r_getR (pc := 83) X dX11_order_83 fl_X11_81 rfl ea25 ?_
  obtain ⟨u26, eu26, hf⟩ := ob hf
  obtain ⟨h27, eh27, hf⟩ := ob hf
  refine r_callVV (pc := 86) X [] dX11_order_86 ml_X11_242 vo_X3_begin ⟨Nat.le_refl _, Nat.le_refl _⟩ eu26 (ev_X3_begin (d := d - 1) (by omega) _ _ _ eh27) hd1 rfl (Nat.le_of_ble_eq_true rfl) rfl ?_
  refine r_iconst (pc := 89) X 0 dX11_order_89 (by decide) ?_
  refine r_fg 3 [some (.ref p0), some (.int x3), some (.int o21.1), none, j23, j24] rfl ?_
  refine r_istore (pc := 90) X [some (.ref p0), some (.int x3), some (.int o21.1), none, some (.int 0), j24] dX11_order_90 (by decide) rfl ?_
  obtain ⟨o36, eo36, hf⟩ := ob hf
  refine (lw_X11_order_92 X hd _ _ _ lpN _ o36 eo36 ?_) _ _
  intro j37 j38 j39
  refine r_iconst (pc := 122) X 0 dX11_order_122 (by decide) ?_
  refine r_iload_n (pc := 123) X dX11_order_123 rfl ?_
  refine r_max (pc := 124) X dX11_order_124 ml_X11_235 ⟨Nat.le_refl _, Nat.le_refl _⟩ hd1 (Nat.le_of_ble_eq_true rfl) ?_
  obtain rfl := Option.some.inj hf
  exact r_iret (pc := 127) X dX11_order_127 hk

theorem dX11_locks_0 : decode cX11_locks 0 = .ok (.iload_n 1, 1) := by decide +kernel
theorem dX11_locks_1 : decode cX11_locks 1 = .ok (.ifCond .lt 19, 3) := by decide +kernel
theorem dX11_locks_4 : decode cX11_locks 4 = .ok (.iload_n 1, 1) := by decide +kernel
theorem dX11_locks_5 : decode cX11_locks 5 = .ok (.bipush 20, 2) := by decide +kernel
theorem dX11_locks_7 : decode cX11_locks 7 = .ok (.if_icmp .gt 13, 3) := by decide +kernel
theorem dX11_locks_10 : decode cX11_locks 10 = .ok (.iload_n 2, 1) := by decide +kernel
theorem dX11_locks_11 : decode cX11_locks 11 = .ok (.ifCond .lt 9, 3) := by decide +kernel
theorem dX11_locks_14 : decode cX11_locks 14 = .ok (.iload_n 2, 1) := by decide +kernel
theorem dX11_locks_15 : decode cX11_locks 15 = .ok (.bipush 20, 2) := by decide +kernel
theorem dX11_locks_17 : decode cX11_locks 17 = .ok (.if_icmp .le 5, 3) := by decide +kernel
theorem dX11_locks_20 : decode cX11_locks 20 = .ok (.iconst (-1), 1) := by decide +kernel
theorem dX11_locks_21 : decode cX11_locks 21 = .ok (.ireturn, 1) := by decide +kernel
theorem dX11_locks_22 : decode cX11_locks 22 = .ok (.aload_n 0, 1) := by decide +kernel
theorem dX11_locks_23 : decode cX11_locks 23 = .ok (.getfield 102, 3) := by decide +kernel
theorem dX11_locks_26 : decode cX11_locks 26 = .ok (.iload_n 1, 1) := by decide +kernel
theorem dX11_locks_27 : decode cX11_locks 27 = .ok (.iload_n 2, 1) := by decide +kernel
theorem dX11_locks_28 : decode cX11_locks 28 = .ok (.invokestatic 437, 3) := by decide +kernel
theorem dX11_locks_31 : decode cX11_locks 31 = .ok (.aload_n 0, 1) := by decide +kernel
theorem dX11_locks_32 : decode cX11_locks 32 = .ok (.getfield 102, 3) := by decide +kernel
theorem dX11_locks_35 : decode cX11_locks 35 = .ok (.iload_n 1, 1) := by decide +kernel
theorem dX11_locks_36 : decode cX11_locks 36 = .ok (.iload_n 2, 1) := by decide +kernel
theorem dX11_locks_37 : decode cX11_locks 37 = .ok (.invokestatic 441, 3) := by decide +kernel
theorem dX11_locks_40 : decode cX11_locks 40 = .ok (.istore_n 3, 1) := by decide +kernel
theorem dX11_locks_41 : decode cX11_locks 41 = .ok (.aload_n 0, 1) := by decide +kernel
theorem dX11_locks_42 : decode cX11_locks 42 = .ok (.getfield 81, 3) := by decide +kernel
theorem dX11_locks_45 : decode cX11_locks 45 = .ok (.invokevirtual 242, 3) := by decide +kernel
theorem dX11_locks_48 : decode cX11_locks 48 = .ok (.iload_n 3, 1) := by decide +kernel
theorem dX11_locks_49 : decode cX11_locks 49 = .ok (.iconst (-1), 1) := by decide +kernel
theorem dX11_locks_50 : decode cX11_locks 50 = .ok (.if_icmp .ne 5, 3) := by decide +kernel
theorem dX11_locks_53 : decode cX11_locks 53 = .ok (.iconst 0, 1) := by decide +kernel
theorem dX11_locks_54 : decode cX11_locks 54 = .ok (.ireturn, 1) := by decide +kernel
theorem dX11_locks_55 : decode cX11_locks 55 = .ok (.aload_n 0, 1) := by decide +kernel
theorem dX11_locks_56 : decode cX11_locks 56 = .ok (.getfield 81, 3) := by decide +kernel
theorem dX11_locks_59 : decode cX11_locks 59 = .ok (.iload_n 3, 1) := by decide +kernel
theorem dX11_locks_60 : decode cX11_locks 60 = .ok (.i2l, 1) := by decide +kernel
theorem dX11_locks_61 : decode cX11_locks 61 = .ok (.invokevirtual 248, 3) := by decide +kernel
theorem dX11_locks_64 : decode cX11_locks 64 = .ok (.aload_n 0, 1) := by decide +kernel
theorem dX11_locks_65 : decode cX11_locks 65 = .ok (.getfield 81, 3) := by decide +kernel
theorem dX11_locks_68 : decode cX11_locks 68 = .ok (.iconst 2, 1) := by decide +kernel
theorem dX11_locks_69 : decode cX11_locks 69 = .ok (.iload_n 3, 1) := by decide +kernel
theorem dX11_locks_70 : decode cX11_locks 70 = .ok (.isub, 1) := by decide +kernel
theorem dX11_locks_71 : decode cX11_locks 71 = .ok (.i2l, 1) := by decide +kernel
theorem dX11_locks_72 : decode cX11_locks 72 = .ok (.invokevirtual 248, 3) := by decide +kernel
theorem dX11_locks_75 : decode cX11_locks 75 = .ok (.iconst 1, 1) := by decide +kernel
theorem dX11_locks_76 : decode cX11_locks 76 = .ok (.ireturn, 1) := by decide +kernel
def fn_X11_locks (h : aH) (p0 : Nat) (p1 : Int32) (p2 : Int32) : Option (Int32 × aH) :=
  if p1 < 0 then
    some ((-1), h)
  else
    if p1 ≤ 20 then
      if p2 < 0 then
        some ((-1), h)
      else
        if p2 ≤ 20 then
          (gR h p0 10 15).bind fun a1 =>
          (fn_X1_fillWon h a1 p1 p2).bind fun h2 =>
          (gR h2 p0 10 15).bind fun a3 =>
          (fn_X1_leastWinningMove h2 a3 p1 p2).bind fun x4 =>
          (gR h2 p0 10 11).bind fun a5 =>
          (ck h2 a5 2).bind fun u6 =>
          (fn_X3_begin h2 a5).bind fun h7 =>
          if x4 = (-1) then
            some (0, h7)
          else
            (gR h7 p0 10 11).bind fun a8 =>
            (ck h7 a8 2).bind fun u9 =>
            (fn_X3_add h7 a8 (Int32.toInt64 x4)).bind fun h10 =>
            (gR h10 p0 10 11).bind fun a11 =>
            (ck h10 a11 2).bind fun u12 =>
            (fn_X3_add h10 a11 (Int32.toInt64 (2 - x4))).bind fun h13 =>
            some (1, h13)
        else
          some ((-1), h)
    else
      some ((-1), h)
set_option maxRecDepth 20000 in
set_option maxHeartbeats 4000000 in
theorem ev_X11_locks {l : Launch} {g : aG} {d : Nat} (hd : 2 ≤ d) (h : aH) (p0 : Nat) (p1 : Int32) (p2 : Int32) (o : Int32 × aH) (hf : fn_X11_locks h p0 p1 p2 = some o) : EvM l g d yX11_locks cX11_locks 4 (some .int) [.ref p0, .int p1, .int p2] h (some (.int o.1), o.2) := by
  refine EvM.of mk_X11_locks (Nat.le_of_ble_eq_true rfl) ?_
  intro Γ hl hg hq X
  have hd1 : 1 ≤ d := by omega
  have hk : RqI Γ o := hq
  unfold fn_X11_locks at hf
  show Jd Γ (0, 0) 0 [some (.ref p0), some (.int p1), some (.int p2), none] [] h
  refine r_iload_n (pc := 0) X dX11_locks_0 rfl ?_
  refine r_if_lt (pc := 1) X 20 dX11_locks_1 (by decide) (fun c18 => ?_) (fun c18 => ?_)
  · rw [if_pos c18] at hf
    refine r_iconst (pc := 20) X (-1) dX11_locks_20 (by decide) ?_
    obtain rfl := Option.some.inj hf
    exact r_iret (pc := 21) X dX11_locks_21 hk
  · rw [if_neg c18] at hf
    refine r_iload_n (pc := 4) X dX11_locks_4 rfl ?_
    refine r_bipush (pc := 5) X 20 dX11_locks_5 (by decide) ?_
    refine r_icmp_gt (pc := 7) X 20 dX11_locks_7 (by decide) (fun c17 => ?_) (fun c17 => ?_)
    · rw [if_neg c17] at hf
      refine r_iconst (pc := 20) X (-1) dX11_locks_20 (by decide) ?_
      obtain rfl := Option.some.inj hf
      exact r_iret (pc := 21) X dX11_locks_21 hk
    · rw [if_pos c17] at hf
      refine r_iload_n (pc := 10) X dX11_locks_10 rfl ?_
      refine r_if_lt (pc := 11) X 20 dX11_locks_11 (by decide) (fun c16 => ?_) (fun c16 => ?_)
      · rw [if_pos c16] at hf
        refine r_iconst (pc := 20) X (-1) dX11_locks_20 (by decide) ?_
        obtain rfl := Option.some.inj hf
        exact r_iret (pc := 21) X dX11_locks_21 hk
      · rw [if_neg c16] at hf
        refine r_iload_n (pc := 14) X dX11_locks_14 rfl ?_
        refine r_bipush (pc := 15) X 20 dX11_locks_15 (by decide) ?_
        refine r_icmp_le (pc := 17) X 22 dX11_locks_17 (by decide) (fun c15 => ?_) (fun c15 => ?_)
        · rw [if_pos c15] at hf
          refine r_aload_n (pc := 22) X dX11_locks_22 rfl ?_
          obtain ⟨a1, ea1, hf⟩ := ob hf
          refine r_getR (pc := 23) X dX11_locks_23 fl_X11_102 rfl ea1 ?_
          refine r_iload_n (pc := 26) X dX11_locks_26 rfl ?_
          refine r_iload_n (pc := 27) X dX11_locks_27 rfl ?_
          obtain ⟨h2, eh2, hf⟩ := ob hf
          refine r_callSV (pc := 28) X [.ref a1, .int p1, .int p2] dX11_locks_28 ml_X11_437 so_X1_fillWon ⟨Nat.le_refl _, Nat.le_refl _⟩ (ev_X1_fillWon (d := d - 1) (by omega) _ _ _ _ _ eh2) hd1 rfl (Nat.le_of_ble_eq_true rfl) rfl ?_
          refine r_aload_n (pc := 31) X dX11_locks_31 rfl ?_
          obtain ⟨a3, ea3, hf⟩ := ob hf
          refine r_getR (pc := 32) X dX11_locks_32 fl_X11_102 rfl ea3 ?_
          refine r_iload_n (pc := 35) X dX11_locks_35 rfl ?_
          refine r_iload_n (pc := 36) X dX11_locks_36 rfl ?_
          obtain ⟨x4, ex4, hf⟩ := ob hf
          refine r_callSI (pc := 37) X [.ref a3, .int p1, .int p2] dX11_locks_37 ml_X11_441 so_X1_leastWinningMove ⟨Nat.le_refl _, Nat.le_refl _⟩ (ev_X1_leastWinningMove (d := d - 1) (by omega) _ _ _ _ _ ex4) hd1 rfl (Nat.le_of_ble_eq_true rfl) rfl ?_
          refine r_istore_n (pc := 40) X [some (.ref p0), some (.int p1), some (.int p2), some (.int x4)] dX11_locks_40 (by decide) rfl ?_
          refine r_aload_n (pc := 41) X dX11_locks_41 rfl ?_
          obtain ⟨a5, ea5, hf⟩ := ob hf
          refine r_getR (pc := 42) X dX11_locks_42 fl_X11_81 rfl ea5 ?_
          obtain ⟨u6, eu6, hf⟩ := ob hf
          obtain ⟨h7, eh7, hf⟩ := ob hf
          refine r_callVV (pc := 45) X [] dX11_locks_45 ml_X11_242 vo_X3_begin ⟨Nat.le_refl _, Nat.le_refl _⟩ eu6 (ev_X3_begin (d := d - 1) (by omega) _ _ _ eh7) hd1 rfl (Nat.le_of_ble_eq_true rfl) rfl ?_
          refine r_iload_n (pc := 48) X dX11_locks_48 rfl ?_
          refine r_iconst (pc := 49) X (-1) dX11_locks_49 (by decide) ?_
          refine r_icmp_ne (pc := 50) X 55 dX11_locks_50 (by decide) (fun c14 => ?_) (fun c14 => ?_)
          · rw [if_neg c14] at hf
            refine r_aload_n (pc := 55) X dX11_locks_55 rfl ?_
            obtain ⟨a8, ea8, hf⟩ := ob hf
            refine r_getR (pc := 56) X dX11_locks_56 fl_X11_81 rfl ea8 ?_
            refine r_iload_n (pc := 59) X dX11_locks_59 rfl ?_
            refine r_i2l (pc := 60) X dX11_locks_60 ?_
            obtain ⟨u9, eu9, hf⟩ := ob hf
            obtain ⟨h10, eh10, hf⟩ := ob hf
            refine r_callVV (pc := 61) X [.long (Int32.toInt64 x4)] dX11_locks_61 ml_X11_248 vo_X3_add ⟨Nat.le_refl _, Nat.le_refl _⟩ eu9 (ev_X3_add (d := d - 1) (by omega) _ _ _ _ eh10) hd1 rfl (Nat.le_of_ble_eq_true rfl) rfl ?_
            refine r_aload_n (pc := 64) X dX11_locks_64 rfl ?_
            obtain ⟨a11, ea11, hf⟩ := ob hf
            refine r_getR (pc := 65) X dX11_locks_65 fl_X11_81 rfl ea11 ?_
            refine r_iconst (pc := 68) X 2 dX11_locks_68 (by decide) ?_
            refine r_iload_n (pc := 69) X dX11_locks_69 rfl ?_
            refine r_isub (pc := 70) X dX11_locks_70 ?_
            refine r_i2l (pc := 71) X dX11_locks_71 ?_
            obtain ⟨u12, eu12, hf⟩ := ob hf
            obtain ⟨h13, eh13, hf⟩ := ob hf
            refine r_callVV (pc := 72) X [.long (Int32.toInt64 (2 - x4))] dX11_locks_72 ml_X11_248 vo_X3_add ⟨Nat.le_refl _, Nat.le_refl _⟩ eu12 (ev_X3_add (d := d - 1) (by omega) _ _ _ _ eh13) hd1 rfl (Nat.le_of_ble_eq_true rfl) rfl ?_
            refine r_iconst (pc := 75) X 1 dX11_locks_75 (by decide) ?_
            obtain rfl := Option.some.inj hf
            exact r_iret (pc := 76) X dX11_locks_76 hk
          · rw [if_pos c14] at hf
            refine r_iconst (pc := 53) X 0 dX11_locks_53 (by decide) ?_
            obtain rfl := Option.some.inj hf
            exact r_iret (pc := 54) X dX11_locks_54 hk
        · rw [if_neg c15] at hf
          refine r_iconst (pc := 20) X (-1) dX11_locks_20 (by decide) ?_
          obtain rfl := Option.some.inj hf
          exact r_iret (pc := 21) X dX11_locks_21 hk

theorem dX11_spoils_0 : decode cX11_spoils 0 = .ok (.iload_n 1, 1) := by decide +kernel
theorem dX11_spoils_1 : decode cX11_spoils 1 = .ok (.iconst 1, 1) := by decide +kernel
theorem dX11_spoils_2 : decode cX11_spoils 2 = .ok (.if_icmp .lt 30, 3) := by decide +kernel
theorem dX11_spoils_5 : decode cX11_spoils 5 = .ok (.iload_n 1, 1) := by decide +kernel
theorem dX11_spoils_6 : decode cX11_spoils 6 = .ok (.bipush 12, 2) := by decide +kernel
theorem dX11_spoils_8 : decode cX11_spoils 8 = .ok (.if_icmp .gt 24, 3) := by decide +kernel
theorem dX11_spoils_11 : decode cX11_spoils 11 = .ok (.iload_n 2, 1) := by decide +kernel
theorem dX11_spoils_12 : decode cX11_spoils 12 = .ok (.iconst 1, 1) := by decide +kernel
theorem dX11_spoils_13 : decode cX11_spoils 13 = .ok (.if_icmp .lt 19, 3) := by decide +kernel
theorem dX11_spoils_16 : decode cX11_spoils 16 = .ok (.iload_n 2, 1) := by decide +kernel
theorem dX11_spoils_17 : decode cX11_spoils 17 = .ok (.bipush 12, 2) := by decide +kernel
theorem dX11_spoils_19 : decode cX11_spoils 19 = .ok (.if_icmp .gt 13, 3) := by decide +kernel
theorem dX11_spoils_22 : decode cX11_spoils 22 = .ok (.iload_n 3, 1) := by decide +kernel
theorem dX11_spoils_23 : decode cX11_spoils 23 = .ok (.ifCond .lt 9, 3) := by decide +kernel
theorem dX11_spoils_26 : decode cX11_spoils 26 = .ok (.iload_n 3, 1) := by decide +kernel
theorem dX11_spoils_27 : decode cX11_spoils 27 = .ok (.bipush 10, 2) := by decide +kernel
theorem dX11_spoils_29 : decode cX11_spoils 29 = .ok (.if_icmp .le 5, 3) := by decide +kernel
theorem dX11_spoils_32 : decode cX11_spoils 32 = .ok (.iconst (-1), 1) := by decide +kernel
theorem dX11_spoils_33 : decode cX11_spoils 33 = .ok (.ireturn, 1) := by decide +kernel
theorem dX11_spoils_34 : decode cX11_spoils 34 = .ok (.iload_n 1, 1) := by decide +kernel
theorem dX11_spoils_35 : decode cX11_spoils 35 = .ok (.iconst 1, 1) := by decide +kernel
theorem dX11_spoils_36 : decode cX11_spoils 36 = .ok (.isub, 1) := by decide +kernel
theorem dX11_spoils_37 : decode cX11_spoils 37 = .ok (.iload_n 2, 1) := by decide +kernel
theorem dX11_spoils_38 : decode cX11_spoils 38 = .ok (.iconst 1, 1) := by decide +kernel
theorem dX11_spoils_39 : decode cX11_spoils 39 = .ok (.isub, 1) := by decide +kernel
theorem dX11_spoils_40 : decode cX11_spoils 40 = .ok (.invokestatic 445, 3) := by decide +kernel
theorem dX11_spoils_43 : decode cX11_spoils 43 = .ok (.iload_n 3, 1) := by decide +kernel
theorem dX11_spoils_44 : decode cX11_spoils 44 = .ok (.i2l, 1) := by decide +kernel
theorem dX11_spoils_45 : decode cX11_spoils 45 = .ok (.iload_n 2, 1) := by decide +kernel
theorem dX11_spoils_46 : decode cX11_spoils 46 = .ok (.invokestatic 449, 3) := by decide +kernel
theorem dX11_spoils_49 : decode cX11_spoils 49 = .ok (.lmul, 1) := by decide +kernel
theorem dX11_spoils_50 : decode cX11_spoils 50 = .ok (.bipush 10, 2) := by decide +kernel
theorem dX11_spoils_52 : decode cX11_spoils 52 = .ok (.iload_n 3, 1) := by decide +kernel
theorem dX11_spoils_53 : decode cX11_spoils 53 = .ok (.isub, 1) := by decide +kernel
theorem dX11_spoils_54 : decode cX11_spoils 54 = .ok (.i2l, 1) := by decide +kernel
theorem dX11_spoils_55 : decode cX11_spoils 55 = .ok (.iload_n 1, 1) := by decide +kernel
theorem dX11_spoils_56 : decode cX11_spoils 56 = .ok (.iload_n 2, 1) := by decide +kernel
theorem dX11_spoils_57 : decode cX11_spoils 57 = .ok (.isub, 1) := by decide +kernel
theorem dX11_spoils_58 : decode cX11_spoils 58 = .ok (.invokestatic 449, 3) := by decide +kernel
theorem dX11_spoils_61 : decode cX11_spoils 61 = .ok (.lmul, 1) := by decide +kernel
theorem dX11_spoils_62 : decode cX11_spoils 62 = .ok (.lstore 4, 2) := by decide +kernel
theorem dX11_spoils_64 : decode cX11_spoils 64 = .ok (.ldc2_w 453, 3) := by decide +kernel
theorem dX11_spoils_67 : decode cX11_spoils 67 = .ok (.iload_n 1, 1) := by decide +kernel
theorem dX11_spoils_68 : decode cX11_spoils 68 = .ok (.invokestatic 449, 3) := by decide +kernel
theorem dX11_spoils_71 : decode cX11_spoils 71 = .ok (.lstore 6, 2) := by decide +kernel
theorem dX11_spoils_73 : decode cX11_spoils 73 = .ok (.lload 4, 2) := by decide +kernel
theorem dX11_spoils_75 : decode cX11_spoils 75 = .ok (.lload 6, 2) := by decide +kernel
theorem dX11_spoils_77 : decode cX11_spoils 77 = .ok (.invokestatic 455, 3) := by decide +kernel
theorem dX11_spoils_80 : decode cX11_spoils 80 = .ok (.lstore 8, 2) := by decide +kernel
theorem dX11_spoils_82 : decode cX11_spoils 82 = .ok (.aload_n 0, 1) := by decide +kernel
theorem dX11_spoils_83 : decode cX11_spoils 83 = .ok (.getfield 81, 3) := by decide +kernel
theorem dX11_spoils_86 : decode cX11_spoils 86 = .ok (.invokevirtual 242, 3) := by decide +kernel
theorem dX11_spoils_89 : decode cX11_spoils 89 = .ok (.aload_n 0, 1) := by decide +kernel
theorem dX11_spoils_90 : decode cX11_spoils 90 = .ok (.getfield 81, 3) := by decide +kernel
theorem dX11_spoils_93 : decode cX11_spoils 93 = .ok (.lload 8, 2) := by decide +kernel
theorem dX11_spoils_95 : decode cX11_spoils 95 = .ok (.lconst 0, 1) := by decide +kernel
theorem dX11_spoils_96 : decode cX11_spoils 96 = .ok (.lcmp, 1) := by decide +kernel
theorem dX11_spoils_97 : decode cX11_spoils 97 = .ok (.ifCond .le 11, 3) := by decide +kernel
theorem dX11_spoils_100 : decode cX11_spoils 100 = .ok (.lload 4, 2) := by decide +kernel
theorem dX11_spoils_102 : decode cX11_spoils 102 = .ok (.lload 8, 2) := by decide +kernel
theorem dX11_spoils_104 : decode cX11_spoils 104 = .ok (.ldiv, 1) := by decide +kernel
theorem dX11_spoils_105 : decode cX11_spoils 105 = .ok (.goto 5, 3) := by decide +kernel
theorem dX11_spoils_108 : decode cX11_spoils 108 = .ok (.lload 4, 2) := by decide +kernel
theorem dX11_spoils_110 : decode cX11_spoils 110 = .ok (.invokevirtual 248, 3) := by decide +kernel
theorem dX11_spoils_113 : decode cX11_spoils 113 = .ok (.aload_n 0, 1) := by decide +kernel
theorem dX11_spoils_114 : decode cX11_spoils 114 = .ok (.getfield 81, 3) := by decide +kernel
theorem dX11_spoils_117 : decode cX11_spoils 117 = .ok (.lload 8, 2) := by decide +kernel
theorem dX11_spoils_119 : decode cX11_spoils 119 = .ok (.lconst 0, 1) := by decide +kernel
theorem dX11_spoils_120 : decode cX11_spoils 120 = .ok (.lcmp, 1) := by decide +kernel
theorem dX11_spoils_121 : decode cX11_spoils 121 = .ok (.ifCond .le 11, 3) := by decide +kernel
theorem dX11_spoils_124 : decode cX11_spoils 124 = .ok (.lload 6, 2) := by decide +kernel
theorem dX11_spoils_126 : decode cX11_spoils 126 = .ok (.lload 8, 2) := by decide +kernel
theorem dX11_spoils_128 : decode cX11_spoils 128 = .ok (.ldiv, 1) := by decide +kernel
theorem dX11_spoils_129 : decode cX11_spoils 129 = .ok (.goto 5, 3) := by decide +kernel
theorem dX11_spoils_132 : decode cX11_spoils 132 = .ok (.lload 6, 2) := by decide +kernel
theorem dX11_spoils_134 : decode cX11_spoils 134 = .ok (.invokevirtual 248, 3) := by decide +kernel
theorem dX11_spoils_137 : decode cX11_spoils 137 = .ok (.iconst 0, 1) := by decide +kernel
theorem dX11_spoils_138 : decode cX11_spoils 138 = .ok (.ireturn, 1) := by decide +kernel
def fn_X11_spoils (h : aH) (p0 : Nat) (p1 : Int32) (p2 : Int32) (p3 : Int32) : Option (Int32 × aH) :=
  if p1 < 1 then
    some ((-1), h)
  else
    if p1 ≤ 12 then
      if p2 < 1 then
        some ((-1), h)
      else
        if p2 ≤ 12 then
          if p3 < 0 then
            some ((-1), h)
          else
            if p3 ≤ 10 then
              (fn_X1_choices h (p1 - 1) (p2 - 1)).bind fun y1 =>
              (fn_X1_power h (Int32.toInt64 p3) p2).bind fun y2 =>
              (fn_X1_power h (Int32.toInt64 (10 - p3)) (p1 - p2)).bind fun y3 =>
              (some ((y1 * y2) * y3)).bind fun y4 =>
              (fn_X1_power h 10 p1).bind fun y5 =>
              (fn_X1_greatestShared h y4 y5).bind fun y6 =>
              (gR h p0 10 11).bind fun a7 =>
              (ck h a7 2).bind fun u8 =>
              (fn_X3_begin h a7).bind fun h9 =>
              (gR h9 p0 10 11).bind fun a10 =>
              ((
                if (lg_cmp y6 0) ≤ 0 then
                  some y4
                else
                  (ldv y4 y6).bind fun y20 =>
                  some y20
              ) : Option (Int64)).bind fun t11 =>
              (ck h9 a10 2).bind fun u12 =>
              (fn_X3_add h9 a10 t11).bind fun h13 =>
              (gR h13 p0 10 11).bind fun a14 =>
              ((
                if (lg_cmp y6 0) ≤ 0 then
                  some y5
                else
                  (ldv y5 y6).bind fun y18 =>
                  some y18
              ) : Option (Int64)).bind fun t15 =>
              (ck h13 a14 2).bind fun u16 =>
              (fn_X3_add h13 a14 t15).bind fun h17 =>
              some (0, h17)
            else
              some ((-1), h)
        else
          some ((-1), h)
    else
      some ((-1), h)
set_option maxRecDepth 20000 in
set_option maxHeartbeats 4000000 in
theorem ev_X11_spoils {l : Launch} {g : aG} {d : Nat} (hd : 1 ≤ d) (h : aH) (p0 : Nat) (p1 : Int32) (p2 : Int32) (p3 : Int32) (o : Int32 × aH) (hf : fn_X11_spoils h p0 p1 p2 p3 = some o) : EvM l g d yX11_spoils cX11_spoils 10 (some .int) [.ref p0, .int p1, .int p2, .int p3] h (some (.int o.1), o.2) := by
  refine EvM.of mk_X11_spoils (Nat.le_of_ble_eq_true rfl) ?_
  intro Γ hl hg hq X
  have hd1 : 1 ≤ d := by omega
  have hk : RqI Γ o := hq
  unfold fn_X11_spoils at hf
  show Jd Γ (0, 0) 0 [some (.ref p0), some (.int p1), some (.int p2), some (.int p3), none, none, none, none, none, none] [] h
  refine r_iload_n (pc := 0) X dX11_spoils_0 rfl ?_
  refine r_iconst (pc := 1) X 1 dX11_spoils_1 (by decide) ?_
  refine r_icmp_lt (pc := 2) X 32 dX11_spoils_2 (by decide) (fun c27 => ?_) (fun c27 => ?_)
  · rw [if_pos c27] at hf
    refine r_iconst (pc := 32) X (-1) dX11_spoils_32 (by decide) ?_
    obtain rfl := Option.some.inj hf
    exact r_iret (pc := 33) X dX11_spoils_33 hk
  · rw [if_neg c27] at hf
    refine r_iload_n (pc := 5) X dX11_spoils_5 rfl ?_
    refine r_bipush (pc := 6) X 12 dX11_spoils_6 (by decide) ?_
    refine r_icmp_gt (pc := 8) X 32 dX11_spoils_8 (by decide) (fun c26 => ?_) (fun c26 => ?_)
    · rw [if_neg c26] at hf
      refine r_iconst (pc := 32) X (-1) dX11_spoils_32 (by decide) ?_
      obtain rfl := Option.some.inj hf
      exact r_iret (pc := 33) X dX11_spoils_33 hk
    · rw [if_pos c26] at hf
      refine r_iload_n (pc := 11) X dX11_spoils_11 rfl ?_
      refine r_iconst (pc := 12) X 1 dX11_spoils_12 (by decide) ?_
      refine r_icmp_lt (pc := 13) X 32 dX11_spoils_13 (by decide) (fun c25 => ?_) (fun c25 => ?_)
      · rw [if_pos c25] at hf
        refine r_iconst (pc := 32) X (-1) dX11_spoils_32 (by decide) ?_
        obtain rfl := Option.some.inj hf
        exact r_iret (pc := 33) X dX11_spoils_33 hk
      · rw [if_neg c25] at hf
        refine r_iload_n (pc := 16) X dX11_spoils_16 rfl ?_
        refine r_bipush (pc := 17) X 12 dX11_spoils_17 (by decide) ?_
        refine r_icmp_gt (pc := 19) X 32 dX11_spoils_19 (by decide) (fun c24 => ?_) (fun c24 => ?_)
        · rw [if_neg c24] at hf
          refine r_iconst (pc := 32) X (-1) dX11_spoils_32 (by decide) ?_
          obtain rfl := Option.some.inj hf
          exact r_iret (pc := 33) X dX11_spoils_33 hk
        · rw [if_pos c24] at hf
          refine r_iload_n (pc := 22) X dX11_spoils_22 rfl ?_
          refine r_if_lt (pc := 23) X 32 dX11_spoils_23 (by decide) (fun c23 => ?_) (fun c23 => ?_)
          · rw [if_pos c23] at hf
            refine r_iconst (pc := 32) X (-1) dX11_spoils_32 (by decide) ?_
            obtain rfl := Option.some.inj hf
            exact r_iret (pc := 33) X dX11_spoils_33 hk
          · rw [if_neg c23] at hf
            refine r_iload_n (pc := 26) X dX11_spoils_26 rfl ?_
            refine r_bipush (pc := 27) X 10 dX11_spoils_27 (by decide) ?_
            refine r_icmp_le (pc := 29) X 34 dX11_spoils_29 (by decide) (fun c22 => ?_) (fun c22 => ?_)
            · rw [if_pos c22] at hf
              refine r_iload_n (pc := 34) X dX11_spoils_34 rfl ?_
              refine r_iconst (pc := 35) X 1 dX11_spoils_35 (by decide) ?_
              refine r_isub (pc := 36) X dX11_spoils_36 ?_
              refine r_iload_n (pc := 37) X dX11_spoils_37 rfl ?_
              refine r_iconst (pc := 38) X 1 dX11_spoils_38 (by decide) ?_
              refine r_isub (pc := 39) X dX11_spoils_39 ?_
              obtain ⟨y1, ey1, hf⟩ := ob hf
              refine r_callSJ (pc := 40) X [.int (p1 - 1), .int (p2 - 1)] dX11_spoils_40 ml_X11_445 so_X1_choices ⟨Nat.le_refl _, Nat.le_refl _⟩ (ev_X1_choices (d := d - 1) (by omega) _ _ _ _ ey1) hd1 rfl (Nat.le_of_ble_eq_true rfl) rfl ?_
              refine r_iload_n (pc := 43) X dX11_spoils_43 rfl ?_
              refine r_i2l (pc := 44) X dX11_spoils_44 ?_
              refine r_iload_n (pc := 45) X dX11_spoils_45 rfl ?_
              obtain ⟨y2, ey2, hf⟩ := ob hf
              refine r_callSJ (pc := 46) X [.long (Int32.toInt64 p3), .int p2] dX11_spoils_46 ml_X11_449 so_X1_power ⟨Nat.le_refl _, Nat.le_refl _⟩ (ev_X1_power (d := d - 1) (by omega) _ _ _ _ ey2) hd1 rfl (Nat.le_of_ble_eq_true rfl) rfl ?_
              refine r_lmul (pc := 49) X dX11_spoils_49 ?_
              refine r_bipush (pc := 50) X 10 dX11_spoils_50 (by decide) ?_
              refine r_iload_n (pc := 52) X dX11_spoils_52 rfl ?_
              refine r_isub (pc := 53) X dX11_spoils_53 ?_
              refine r_i2l (pc := 54) X dX11_spoils_54 ?_
              refine r_iload_n (pc := 55) X dX11_spoils_55 rfl ?_
              refine r_iload_n (pc := 56) X dX11_spoils_56 rfl ?_
              refine r_isub (pc := 57) X dX11_spoils_57 ?_
              obtain ⟨y3, ey3, hf⟩ := ob hf
              refine r_callSJ (pc := 58) X [.long (Int32.toInt64 (10 - p3)), .int (p1 - p2)] dX11_spoils_58 ml_X11_449 so_X1_power ⟨Nat.le_refl _, Nat.le_refl _⟩ (ev_X1_power (d := d - 1) (by omega) _ _ _ _ ey3) hd1 rfl (Nat.le_of_ble_eq_true rfl) rfl ?_
              refine r_lmul (pc := 61) X dX11_spoils_61 ?_
              obtain ⟨y4, ey4, hf⟩ := ob hf
              refine r_nmJ ey4 ?_
              refine r_lstore (pc := 62) X [some (.ref p0), some (.int p1), some (.int p2), some (.int p3), some (.long y4), none, none, none, none, none] dX11_spoils_62 (by decide) rfl ?_
              refine r_ldc2 (pc := 64) X 10 dX11_spoils_64 kl_X11_453 ?_
              refine r_iload_n (pc := 67) X dX11_spoils_67 rfl ?_
              obtain ⟨y5, ey5, hf⟩ := ob hf
              refine r_callSJ (pc := 68) X [.long 10, .int p1] dX11_spoils_68 ml_X11_449 so_X1_power ⟨Nat.le_refl _, Nat.le_refl _⟩ (ev_X1_power (d := d - 1) (by omega) _ _ _ _ ey5) hd1 rfl (Nat.le_of_ble_eq_true rfl) rfl ?_
              refine r_lstore (pc := 71) X [some (.ref p0), some (.int p1), some (.int p2), some (.int p3), some (.long y4), none, some (.long y5), none, none, none] dX11_spoils_71 (by decide) rfl ?_
              refine r_lload (pc := 73) X dX11_spoils_73 rfl ?_
              refine r_lload (pc := 75) X dX11_spoils_75 rfl ?_
              obtain ⟨y6, ey6, hf⟩ := ob hf
              refine r_callSJ (pc := 77) X [.long y4, .long y5] dX11_spoils_77 ml_X11_455 so_X1_greatestShared ⟨Nat.le_refl _, Nat.le_refl _⟩ (ev_X1_greatestShared (d := d - 1) (by omega) _ _ _ _ ey6) hd1 rfl (Nat.le_of_ble_eq_true rfl) rfl ?_
              refine r_lstore (pc := 80) X [some (.ref p0), some (.int p1), some (.int p2), some (.int p3), some (.long y4), none, some (.long y5), none, some (.long y6), none] dX11_spoils_80 (by decide) rfl ?_
              refine r_aload_n (pc := 82) X dX11_spoils_82 rfl ?_
              obtain ⟨a7, ea7, hf⟩ := ob hf
              refine r_getR (pc := 83) X dX11_spoils_83 fl_X11_81 rfl ea7 ?_
              obtain ⟨u8, eu8, hf⟩ := ob hf
              obtain ⟨h9, eh9, hf⟩ := ob hf
              refine r_callVV (pc := 86) X [] dX11_spoils_86 ml_X11_242 vo_X3_begin ⟨Nat.le_refl _, Nat.le_refl _⟩ eu8 (ev_X3_begin (d := d - 1) (by omega) _ _ _ eh9) hd1 rfl (Nat.le_of_ble_eq_true rfl) rfl ?_
              refine r_aload_n (pc := 89) X dX11_spoils_89 rfl ?_
              obtain ⟨a10, ea10, hf⟩ := ob hf
              refine r_getR (pc := 90) X dX11_spoils_90 fl_X11_81 rfl ea10 ?_
              refine r_lload (pc := 93) X dX11_spoils_93 rfl ?_
              refine r_lconst (pc := 95) X 0 dX11_spoils_95 (by decide) ?_
              refine r_lcmp (pc := 96) X dX11_spoils_96 ?_
              obtain ⟨t11, et11, hf⟩ := ob hf
              have Jt11 : Jd Γ (0, 0) 110 [some (.ref p0), some (.int p1), some (.int p2), some (.int p3), some (.long y4), none, some (.long y5), none, some (.long y6), none] [.long t11, .ref a10] h9 := by
                obtain ⟨u12, eu12, hf⟩ := ob hf
                obtain ⟨h13, eh13, hf⟩ := ob hf
                refine r_callVV (pc := 110) X [.long t11] dX11_spoils_110 ml_X11_248 vo_X3_add ⟨Nat.le_refl _, Nat.le_refl _⟩ eu12 (ev_X3_add (d := d - 1) (by omega) _ _ _ _ eh13) hd1 rfl (Nat.le_of_ble_eq_true rfl) rfl ?_
                refine r_aload_n (pc := 113) X dX11_spoils_113 rfl ?_
                obtain ⟨a14, ea14, hf⟩ := ob hf
                refine r_getR (pc := 114) X dX11_spoils_114 fl_X11_81 rfl ea14 ?_
                refine r_lload (pc := 117) X dX11_spoils_117 rfl ?_
                refine r_lconst (pc := 119) X 0 dX11_spoils_119 (by decide) ?_
                refine r_lcmp (pc := 120) X dX11_spoils_120 ?_
                obtain ⟨t15, et15, hf⟩ := ob hf
                have Jt15 : Jd Γ (0, 0) 134 [some (.ref p0), some (.int p1), some (.int p2), some (.int p3), some (.long y4), none, some (.long y5), none, some (.long y6), none] [.long t15, .ref a14] h13 := by
                  obtain ⟨u16, eu16, hf⟩ := ob hf
                  obtain ⟨h17, eh17, hf⟩ := ob hf
                  refine r_callVV (pc := 134) X [.long t15] dX11_spoils_134 ml_X11_248 vo_X3_add ⟨Nat.le_refl _, Nat.le_refl _⟩ eu16 (ev_X3_add (d := d - 1) (by omega) _ _ _ _ eh17) hd1 rfl (Nat.le_of_ble_eq_true rfl) rfl ?_
                  refine r_iconst (pc := 137) X 0 dX11_spoils_137 (by decide) ?_
                  obtain rfl := Option.some.inj hf
                  exact r_iret (pc := 138) X dX11_spoils_138 hk
                refine r_if_le (pc := 121) X 132 dX11_spoils_121 (by decide) (fun c19 => ?_) (fun c19 => ?_)
                · rw [if_pos c19] at et15
                  refine r_lload (pc := 132) X dX11_spoils_132 rfl ?_
                  obtain rfl := Option.some.inj et15
                  exact Jt15
                · rw [if_neg c19] at et15
                  refine r_lload (pc := 124) X dX11_spoils_124 rfl ?_
                  refine r_lload (pc := 126) X dX11_spoils_126 rfl ?_
                  obtain ⟨y18, ey18, et15⟩ := ob et15
                  refine r_ldiv (pc := 128) X dX11_spoils_128 ey18 ?_
                  refine r_goto (pc := 129) X 134 dX11_spoils_129 (by decide) ?_
                  obtain rfl := Option.some.inj et15
                  exact Jt15
              refine r_if_le (pc := 97) X 108 dX11_spoils_97 (by decide) (fun c21 => ?_) (fun c21 => ?_)
              · rw [if_pos c21] at et11
                refine r_lload (pc := 108) X dX11_spoils_108 rfl ?_
                obtain rfl := Option.some.inj et11
                exact Jt11
              · rw [if_neg c21] at et11
                refine r_lload (pc := 100) X dX11_spoils_100 rfl ?_
                refine r_lload (pc := 102) X dX11_spoils_102 rfl ?_
                obtain ⟨y20, ey20, et11⟩ := ob et11
                refine r_ldiv (pc := 104) X dX11_spoils_104 ey20 ?_
                refine r_goto (pc := 105) X 110 dX11_spoils_105 (by decide) ?_
                obtain rfl := Option.some.inj et11
                exact Jt11
            · rw [if_neg c22] at hf
              refine r_iconst (pc := 32) X (-1) dX11_spoils_32 (by decide) ?_
              obtain rfl := Option.some.inj hf
              exact r_iret (pc := 33) X dX11_spoils_33 hk

theorem dX11_rests_0 : decode cX11_rests 0 = .ok (.iload_n 1, 1) := by decide +kernel
theorem dX11_rests_1 : decode cX11_rests 1 = .ok (.ifCond .lt 9, 3) := by decide +kernel
theorem dX11_rests_4 : decode cX11_rests 4 = .ok (.iload_n 1, 1) := by decide +kernel
theorem dX11_rests_5 : decode cX11_rests 5 = .ok (.bipush 20, 2) := by decide +kernel
theorem dX11_rests_7 : decode cX11_rests 7 = .ok (.if_icmp .le 5, 3) := by decide +kernel
theorem dX11_rests_10 : decode cX11_rests 10 = .ok (.iconst (-1), 1) := by decide +kernel
theorem dX11_rests_11 : decode cX11_rests 11 = .ok (.ireturn, 1) := by decide +kernel
theorem dX11_rests_12 : decode cX11_rests 12 = .ok (.aload_n 0, 1) := by decide +kernel
theorem dX11_rests_13 : decode cX11_rests 13 = .ok (.getfield 81, 3) := by decide +kernel
theorem dX11_rests_16 : decode cX11_rests 16 = .ok (.invokevirtual 242, 3) := by decide +kernel
theorem dX11_rests_19 : decode cX11_rests 19 = .ok (.iconst 0, 1) := by decide +kernel
theorem dX11_rests_20 : decode cX11_rests 20 = .ok (.istore_n 2, 1) := by decide +kernel
theorem dX11_rests_21 : decode cX11_rests 21 = .ok (.iconst 0, 1) := by decide +kernel
theorem dX11_rests_22 : decode cX11_rests 22 = .ok (.istore_n 3, 1) := by decide +kernel
theorem dX11_rests_23 : decode cX11_rests 23 = .ok (.iload_n 3, 1) := by decide +kernel
theorem dX11_rests_24 : decode cX11_rests 24 = .ok (.bipush 9, 2) := by decide +kernel
theorem dX11_rests_26 : decode cX11_rests 26 = .ok (.if_icmp .gt 71, 3) := by decide +kernel
theorem dX11_rests_29 : decode cX11_rests 29 = .ok (.iconst 0, 1) := by decide +kernel
theorem dX11_rests_30 : decode cX11_rests 30 = .ok (.istore 4, 2) := by decide +kernel
theorem dX11_rests_32 : decode cX11_rests 32 = .ok (.iload 4, 2) := by decide +kernel
theorem dX11_rests_34 : decode cX11_rests 34 = .ok (.bipush 9, 2) := by decide +kernel
theorem dX11_rests_36 : decode cX11_rests 36 = .ok (.if_icmp .gt 55, 3) := by decide +kernel
theorem dX11_rests_39 : decode cX11_rests 39 = .ok (.iload_n 1, 1) := by decide +kernel
theorem dX11_rests_40 : decode cX11_rests 40 = .ok (.iload_n 3, 1) := by decide +kernel
theorem dX11_rests_41 : decode cX11_rests 41 = .ok (.iload 4, 2) := by decide +kernel
theorem dX11_rests_43 : decode cX11_rests 43 = .ok (.invokestatic 459, 3) := by decide +kernel
theorem dX11_rests_46 : decode cX11_rests 46 = .ok (.ifCond .eq 39, 3) := by decide +kernel
theorem dX11_rests_49 : decode cX11_rests 49 = .ok (.iload_n 1, 1) := by decide +kernel
theorem dX11_rests_50 : decode cX11_rests 50 = .ok (.iload 4, 2) := by decide +kernel
theorem dX11_rests_52 : decode cX11_rests 52 = .ok (.iload_n 3, 1) := by decide +kernel
theorem dX11_rests_53 : decode cX11_rests 53 = .ok (.invokestatic 459, 3) := by decide +kernel
theorem dX11_rests_56 : decode cX11_rests 56 = .ok (.ifCond .eq 29, 3) := by decide +kernel
theorem dX11_rests_59 : decode cX11_rests 59 = .ok (.iload_n 2, 1) := by decide +kernel
theorem dX11_rests_60 : decode cX11_rests 60 = .ok (.ifCond .ne 22, 3) := by decide +kernel
theorem dX11_rests_63 : decode cX11_rests 63 = .ok (.aload_n 0, 1) := by decide +kernel
theorem dX11_rests_64 : decode cX11_rests 64 = .ok (.getfield 81, 3) := by decide +kernel
theorem dX11_rests_67 : decode cX11_rests 67 = .ok (.iload_n 3, 1) := by decide +kernel
theorem dX11_rests_68 : decode cX11_rests 68 = .ok (.i2l, 1) := by decide +kernel
theorem dX11_rests_69 : decode cX11_rests 69 = .ok (.invokevirtual 248, 3) := by decide +kernel
theorem dX11_rests_72 : decode cX11_rests 72 = .ok (.aload_n 0, 1) := by decide +kernel
theorem dX11_rests_73 : decode cX11_rests 73 = .ok (.getfield 81, 3) := by decide +kernel
theorem dX11_rests_76 : decode cX11_rests 76 = .ok (.iload 4, 2) := by decide +kernel
theorem dX11_rests_78 : decode cX11_rests 78 = .ok (.i2l, 1) := by decide +kernel
theorem dX11_rests_79 : decode cX11_rests 79 = .ok (.invokevirtual 248, 3) := by decide +kernel
theorem dX11_rests_82 : decode cX11_rests 82 = .ok (.iinc 2 1, 3) := by decide +kernel
theorem dX11_rests_85 : decode cX11_rests 85 = .ok (.iinc 4 1, 3) := by decide +kernel
theorem dX11_rests_88 : decode cX11_rests 88 = .ok (.goto (-56), 3) := by decide +kernel
theorem dX11_rests_91 : decode cX11_rests 91 = .ok (.iinc 3 1, 3) := by decide +kernel
theorem dX11_rests_94 : decode cX11_rests 94 = .ok (.goto (-71), 3) := by decide +kernel
theorem dX11_rests_97 : decode cX11_rests 97 = .ok (.iload_n 2, 1) := by decide +kernel
theorem dX11_rests_98 : decode cX11_rests 98 = .ok (.ireturn, 1) := by decide +kernel
def lb_X11_rests_32 (v0 : Nat) (v1 : Int32) (v3 : Int32) (s : Int32 × Int32 × aH) : Option ((Int32 × Int32 × aH) ⊕ ((Int32 × aH))) :=
  if s.2.1 ≤ 9 then
    (fn_X1_isBestAgainst s.2.2 v1 v3 s.2.1).bind fun x4 =>
    if x4 = 0 then
      (some (s.2.1 + 1)).bind fun x5 =>
      some (.inl (s.1, x5, s.2.2))
    else
      (fn_X1_isBestAgainst s.2.2 v1 s.2.1 v3).bind fun x6 =>
      if x6 = 0 then
        (some (s.2.1 + 1)).bind fun x7 =>
        some (.inl (s.1, x7, s.2.2))
      else
        if s.1 = 0 then
          (gR s.2.2 v0 10 11).bind fun a10 =>
          (ck s.2.2 a10 2).bind fun u11 =>
          (fn_X3_add s.2.2 a10 (Int32.toInt64 v3)).bind fun h12 =>
          (gR h12 v0 10 11).bind fun a13 =>
          (ck h12 a13 2).bind fun u14 =>
          (fn_X3_add h12 a13 (Int32.toInt64 s.2.1)).bind fun h15 =>
          (some (s.1 + 1)).bind fun x16 =>
          (some (s.2.1 + 1)).bind fun x17 =>
          some (.inl (x16, x17, h15))
        else
          (some (s.1 + 1)).bind fun x8 =>
          (some (s.2.1 + 1)).bind fun x9 =>
          some (.inl (x8, x9, s.2.2))
  else
    some (.inr (s.1, s.2.2))
def hd_X11_rests_32 (Γ : aC) (v0 : Nat) (v1 : Int32) (v3 : Int32) (s : Int32 × Int32 × aH) : Prop := Jd Γ (0, 0) 32 [some (.ref v0), some (.int v1), some (.int s.1), some (.int v3), some (.int s.2.1)] [] s.2.2
def ex_X11_rests_32 (Γ : aC) (v0 : Nat) (v1 : Int32) (v3 : Int32) (r : (Int32 × aH)) : Prop := (fun r => ∀ (j4 : Option Value), Jd Γ (0, 0) 91 [some (.ref v0), some (.int v1), some (.int r.1), some (.int v3), j4] [] r.2) r
set_option maxRecDepth 20000 in
set_option maxHeartbeats 4000000 in
theorem lw_X11_rests_32 {Γ : aC} {d : Nat} (X : Cx Γ RX11 cX11_rests 5 (some .int) (d, 0, 0)) (hd : 2 ≤ d) (v0 : Nat) (v1 : Int32) (v3 : Int32) : ∀ n s o, lp (lb_X11_rests_32 v0 v1 v3) n s = some o → ex_X11_rests_32 Γ v0 v1 v3 o → hd_X11_rests_32 Γ v0 v1 v3 s := by
  have hd1 : 1 ≤ d := by omega
  refine J_lp _ _ _ ?_
  intro s o hf hk
  unfold lb_X11_rests_32 at hf
  refine r_iload (pc := 32) X dX11_rests_32 rfl ?_
  refine r_bipush (pc := 34) X 9 dX11_rests_34 (by decide) ?_
  refine r_icmp_gt (pc := 36) X 91 dX11_rests_36 (by decide) (fun c21 => ?_) (fun c21 => ?_)
  · rw [if_neg c21] at hf
    obtain rfl := Option.some.inj hf
    exact hk _
  · rw [if_pos c21] at hf
    refine r_iload_n (pc := 39) X dX11_rests_39 rfl ?_
    refine r_iload_n (pc := 40) X dX11_rests_40 rfl ?_
    refine r_iload (pc := 41) X dX11_rests_41 rfl ?_
    obtain ⟨x4, ex4, hf⟩ := ob hf
    refine r_callSI (pc := 43) X [.int v1, .int v3, .int s.2.1] dX11_rests_43 ml_X11_459 so_X1_isBestAgainst ⟨Nat.le_refl _, Nat.le_refl _⟩ (ev_X1_isBestAgainst (d := d - 1) (by omega) _ _ _ _ _ ex4) hd1 rfl (Nat.le_of_ble_eq_true rfl) rfl ?_
    refine r_if_eq (pc := 46) X 85 dX11_rests_46 (by decide) (fun c20 => ?_) (fun c20 => ?_)
    · rw [if_pos c20] at hf
      obtain ⟨x5, ex5, hf⟩ := ob hf
      refine r_iinc2 (pc := 85) X 1 [some (.ref v0), some (.int v1), some (.int s.1), some (.int v3), some (.int x5)] dX11_rests_85 (by decide) rfl (by decide) ex5 rfl ?_
      refine r_goto (pc := 88) X 32 dX11_rests_88 (by decide) ?_
      obtain rfl := Option.some.inj hf
      exact hk
    · rw [if_neg c20] at hf
      refine r_iload_n (pc := 49) X dX11_rests_49 rfl ?_
      refine r_iload (pc := 50) X dX11_rests_50 rfl ?_
      refine r_iload_n (pc := 52) X dX11_rests_52 rfl ?_
      obtain ⟨x6, ex6, hf⟩ := ob hf
      refine r_callSI (pc := 53) X [.int v1, .int s.2.1, .int v3] dX11_rests_53 ml_X11_459 so_X1_isBestAgainst ⟨Nat.le_refl _, Nat.le_refl _⟩ (ev_X1_isBestAgainst (d := d - 1) (by omega) _ _ _ _ _ ex6) hd1 rfl (Nat.le_of_ble_eq_true rfl) rfl ?_
      refine r_if_eq (pc := 56) X 85 dX11_rests_56 (by decide) (fun c19 => ?_) (fun c19 => ?_)
      · rw [if_pos c19] at hf
        obtain ⟨x7, ex7, hf⟩ := ob hf
        refine r_iinc2 (pc := 85) X 1 [some (.ref v0), some (.int v1), some (.int s.1), some (.int v3), some (.int x7)] dX11_rests_85 (by decide) rfl (by decide) ex7 rfl ?_
        refine r_goto (pc := 88) X 32 dX11_rests_88 (by decide) ?_
        obtain rfl := Option.some.inj hf
        exact hk
      · rw [if_neg c19] at hf
        refine r_iload_n (pc := 59) X dX11_rests_59 rfl ?_
        refine r_if_ne (pc := 60) X 82 dX11_rests_60 (by decide) (fun c18 => ?_) (fun c18 => ?_)
        · rw [if_neg c18] at hf
          obtain ⟨x8, ex8, hf⟩ := ob hf
          refine r_iinc2 (pc := 82) X 1 [some (.ref v0), some (.int v1), some (.int x8), some (.int v3), some (.int s.2.1)] dX11_rests_82 (by decide) rfl (by decide) ex8 rfl ?_
          obtain ⟨x9, ex9, hf⟩ := ob hf
          refine r_iinc2 (pc := 85) X 1 [some (.ref v0), some (.int v1), some (.int x8), some (.int v3), some (.int x9)] dX11_rests_85 (by decide) rfl (by decide) ex9 rfl ?_
          refine r_goto (pc := 88) X 32 dX11_rests_88 (by decide) ?_
          obtain rfl := Option.some.inj hf
          exact hk
        · rw [if_pos c18] at hf
          refine r_aload_n (pc := 63) X dX11_rests_63 rfl ?_
          obtain ⟨a10, ea10, hf⟩ := ob hf
          refine r_getR (pc := 64) X dX11_rests_64 fl_X11_81 rfl ea10 ?_
          refine r_iload_n (pc := 67) X dX11_rests_67 rfl ?_
          refine r_i2l (pc := 68) X dX11_rests_68 ?_
          obtain ⟨u11, eu11, hf⟩ := ob hf
          obtain ⟨h12, eh12, hf⟩ := ob hf
          refine r_callVV (pc := 69) X [.long (Int32.toInt64 v3)] dX11_rests_69 ml_X11_248 vo_X3_add ⟨Nat.le_refl _, Nat.le_refl _⟩ eu11 (ev_X3_add (d := d - 1) (by omega) _ _ _ _ eh12) hd1 rfl (Nat.le_of_ble_eq_true rfl) rfl ?_
          refine r_aload_n (pc := 72) X dX11_rests_72 rfl ?_
          obtain ⟨a13, ea13, hf⟩ := ob hf
          refine r_getR (pc := 73) X dX11_rests_73 fl_X11_81 rfl ea13 ?_
          refine r_iload (pc := 76) X dX11_rests_76 rfl ?_
          refine r_i2l (pc := 78) X dX11_rests_78 ?_
          obtain ⟨u14, eu14, hf⟩ := ob hf
          obtain ⟨h15, eh15, hf⟩ := ob hf
          refine r_callVV (pc := 79) X [.long (Int32.toInt64 s.2.1)] dX11_rests_79 ml_X11_248 vo_X3_add ⟨Nat.le_refl _, Nat.le_refl _⟩ eu14 (ev_X3_add (d := d - 1) (by omega) _ _ _ _ eh15) hd1 rfl (Nat.le_of_ble_eq_true rfl) rfl ?_
          obtain ⟨x16, ex16, hf⟩ := ob hf
          refine r_iinc2 (pc := 82) X 1 [some (.ref v0), some (.int v1), some (.int x16), some (.int v3), some (.int s.2.1)] dX11_rests_82 (by decide) rfl (by decide) ex16 rfl ?_
          obtain ⟨x17, ex17, hf⟩ := ob hf
          refine r_iinc2 (pc := 85) X 1 [some (.ref v0), some (.int v1), some (.int x16), some (.int v3), some (.int x17)] dX11_rests_85 (by decide) rfl (by decide) ex17 rfl ?_
          refine r_goto (pc := 88) X 32 dX11_rests_88 (by decide) ?_
          obtain rfl := Option.some.inj hf
          exact hk
def lb_X11_rests_23 (v0 : Nat) (v1 : Int32) (s : Int32 × Int32 × aH) : Option ((Int32 × Int32 × aH) ⊕ ((Int32 × aH))) :=
  if s.2.1 ≤ 9 then
    (lp (lb_X11_rests_32 v0 v1 s.2.1) lpN (s.1, 0, s.2.2)).bind fun o22 =>
    (some (s.2.1 + 1)).bind fun x24 =>
    some (.inl (o22.1, x24, o22.2))
  else
    some (.inr (s.1, s.2.2))
def hd_X11_rests_23 (Γ : aC) (v0 : Nat) (v1 : Int32) (s : Int32 × Int32 × aH) : Prop := ∀ (j4 : Option Value), Jd Γ (0, 0) 23 [some (.ref v0), some (.int v1), some (.int s.1), some (.int s.2.1), j4] [] s.2.2
def ex_X11_rests_23 (Γ : aC) (v0 : Nat) (v1 : Int32) (r : (Int32 × aH)) : Prop := (fun r => RqI Γ r) r
set_option maxRecDepth 20000 in
set_option maxHeartbeats 4000000 in
theorem lw_X11_rests_23 {Γ : aC} {d : Nat} (X : Cx Γ RX11 cX11_rests 5 (some .int) (d, 0, 0)) (hd : 2 ≤ d) (v0 : Nat) (v1 : Int32) : ∀ n s o, lp (lb_X11_rests_23 v0 v1) n s = some o → ex_X11_rests_23 Γ v0 v1 o → hd_X11_rests_23 Γ v0 v1 s := by
  have hd1 : 1 ≤ d := by omega
  refine J_lp _ _ _ ?_
  intro s o hf hk j4
  unfold lb_X11_rests_23 at hf
  refine r_iload_n (pc := 23) X dX11_rests_23 rfl ?_
  refine r_bipush (pc := 24) X 9 dX11_rests_24 (by decide) ?_
  refine r_icmp_gt (pc := 26) X 97 dX11_rests_26 (by decide) (fun c25 => ?_) (fun c25 => ?_)
  · rw [if_neg c25] at hf
    refine r_iload_n (pc := 97) X dX11_rests_97 rfl ?_
    obtain rfl := Option.some.inj hf
    exact r_iret (pc := 98) X dX11_rests_98 hk
  · rw [if_pos c25] at hf
    refine r_iconst (pc := 29) X 0 dX11_rests_29 (by decide) ?_
    refine r_istore (pc := 30) X [some (.ref v0), some (.int v1), some (.int s.1), some (.int s.2.1), some (.int 0)] dX11_rests_30 (by decide) rfl ?_
    obtain ⟨o22, eo22, hf⟩ := ob hf
    refine (lw_X11_rests_32 X hd _ _ _ lpN _ o22 eo22 ?_)
    intro j23
    obtain ⟨x24, ex24, hf⟩ := ob hf
    refine r_iinc2 (pc := 91) X 1 [some (.ref v0), some (.int v1), some (.int o22.1), some (.int x24), j23] dX11_rests_91 (by decide) rfl (by decide) ex24 rfl ?_
    refine r_goto (pc := 94) X 23 dX11_rests_94 (by decide) ?_
    obtain rfl := Option.some.inj hf
    exact hk _
def fn_X11_rests (h : aH) (p0 : Nat) (p1 : Int32) : Option (Int32 × aH) :=
  if p1 < 0 then
    some ((-1), h)
  else
    if p1 ≤ 20 then
      (gR h p0 10 11).bind fun a1 =>
      (ck h a1 2).bind fun u2 =>
      (fn_X3_begin h a1).bind fun h3 =>
      (lp (lb_X11_rests_23 p0 p1) lpN (0, 0, h3)).bind fun o26 =>
      some o26
    else
      some ((-1), h)
set_option maxRecDepth 20000 in
set_option maxHeartbeats 4000000 in
theorem ev_X11_rests {l : Launch} {g : aG} {d : Nat} (hd : 2 ≤ d) (h : aH) (p0 : Nat) (p1 : Int32) (o : Int32 × aH) (hf : fn_X11_rests h p0 p1 = some o) : EvM l g d yX11_rests cX11_rests 5 (some .int) [.ref p0, .int p1] h (some (.int o.1), o.2) := by
  refine EvM.of mk_X11_rests (Nat.le_of_ble_eq_true rfl) ?_
  intro Γ hl hg hq X
  have hd1 : 1 ≤ d := by omega
  have hk : RqI Γ o := hq
  unfold fn_X11_rests at hf
  show Jd Γ (0, 0) 0 [some (.ref p0), some (.int p1), none, none, none] [] h
  refine r_iload_n (pc := 0) X dX11_rests_0 rfl ?_
  refine r_if_lt (pc := 1) X 10 dX11_rests_1 (by decide) (fun c28 => ?_) (fun c28 => ?_)
  · rw [if_pos c28] at hf
    refine r_iconst (pc := 10) X (-1) dX11_rests_10 (by decide) ?_
    obtain rfl := Option.some.inj hf
    exact r_iret (pc := 11) X dX11_rests_11 hk
  · rw [if_neg c28] at hf
    refine r_iload_n (pc := 4) X dX11_rests_4 rfl ?_
    refine r_bipush (pc := 5) X 20 dX11_rests_5 (by decide) ?_
    refine r_icmp_le (pc := 7) X 12 dX11_rests_7 (by decide) (fun c27 => ?_) (fun c27 => ?_)
    · rw [if_pos c27] at hf
      refine r_aload_n (pc := 12) X dX11_rests_12 rfl ?_
      obtain ⟨a1, ea1, hf⟩ := ob hf
      refine r_getR (pc := 13) X dX11_rests_13 fl_X11_81 rfl ea1 ?_
      obtain ⟨u2, eu2, hf⟩ := ob hf
      obtain ⟨h3, eh3, hf⟩ := ob hf
      refine r_callVV (pc := 16) X [] dX11_rests_16 ml_X11_242 vo_X3_begin ⟨Nat.le_refl _, Nat.le_refl _⟩ eu2 (ev_X3_begin (d := d - 1) (by omega) _ _ _ eh3) hd1 rfl (Nat.le_of_ble_eq_true rfl) rfl ?_
      refine r_iconst (pc := 19) X 0 dX11_rests_19 (by decide) ?_
      refine r_istore_n (pc := 20) X [some (.ref p0), some (.int p1), some (.int 0), none, none] dX11_rests_20 (by decide) rfl ?_
      refine r_iconst (pc := 21) X 0 dX11_rests_21 (by decide) ?_
      refine r_istore_n (pc := 22) X [some (.ref p0), some (.int p1), some (.int 0), some (.int 0), none] dX11_rests_22 (by decide) rfl ?_
      obtain ⟨o26, eo26, hf⟩ := ob hf
      refine (lw_X11_rests_23 X hd _ _ lpN _ o26 eo26 ?_) _
      obtain rfl := Option.some.inj hf
      exact hk
    · rw [if_neg c27] at hf
      refine r_iconst (pc := 10) X (-1) dX11_rests_10 (by decide) ?_
      obtain rfl := Option.some.inj hf
      exact r_iret (pc := 11) X dX11_rests_11 hk

theorem dX11_law_0 : decode cX11_law 0 = .ok (.aload_n 0, 1) := by decide +kernel
theorem dX11_law_1 : decode cX11_law 1 = .ok (.getfield 54, 3) := by decide +kernel
theorem dX11_law_4 : decode cX11_law 4 = .ok (.aload_n 0, 1) := by decide +kernel
theorem dX11_law_5 : decode cX11_law 5 = .ok (.getfield 46, 3) := by decide +kernel
theorem dX11_law_8 : decode cX11_law 8 = .ok (.invokevirtual 175, 3) := by decide +kernel
theorem dX11_law_11 : decode cX11_law 11 = .ok (.istore_n 1, 1) := by decide +kernel
theorem dX11_law_12 : decode cX11_law 12 = .ok (.aload_n 0, 1) := by decide +kernel
theorem dX11_law_13 : decode cX11_law 13 = .ok (.getfield 12, 3) := by decide +kernel
theorem dX11_law_16 : decode cX11_law 16 = .ok (.invokevirtual 148, 3) := by decide +kernel
theorem dX11_law_19 : decode cX11_law 19 = .ok (.iload_n 1, 1) := by decide +kernel
theorem dX11_law_20 : decode cX11_law 20 = .ok (.iconst (-1), 1) := by decide +kernel
theorem dX11_law_21 : decode cX11_law 21 = .ok (.if_icmp .eq 9, 3) := by decide +kernel
theorem dX11_law_24 : decode cX11_law 24 = .ok (.sipush (-10000), 3) := by decide +kernel
theorem dX11_law_27 : decode cX11_law 27 = .ok (.iload_n 1, 1) := by decide +kernel
theorem dX11_law_28 : decode cX11_law 28 = .ok (.isub, 1) := by decide +kernel
theorem dX11_law_29 : decode cX11_law 29 = .ok (.ireturn, 1) := by decide +kernel
theorem dX11_law_30 : decode cX11_law 30 = .ok (.aload_n 0, 1) := by decide +kernel
theorem dX11_law_31 : decode cX11_law 31 = .ok (.invokevirtual 309, 3) := by decide +kernel
theorem dX11_law_34 : decode cX11_law 34 = .ok (.aload_n 0, 1) := by decide +kernel
theorem dX11_law_35 : decode cX11_law 35 = .ok (.getfield 19, 3) := by decide +kernel
theorem dX11_law_38 : decode cX11_law 38 = .ok (.aload_n 0, 1) := by decide +kernel
theorem dX11_law_39 : decode cX11_law 39 = .ok (.getfield 68, 3) := by decide +kernel
theorem dX11_law_42 : decode cX11_law 42 = .ok (.aload_n 0, 1) := by decide +kernel
theorem dX11_law_43 : decode cX11_law 43 = .ok (.getfield 42, 3) := by decide +kernel
theorem dX11_law_46 : decode cX11_law 46 = .ok (.bipush 10, 2) := by decide +kernel
theorem dX11_law_48 : decode cX11_law 48 = .ok (.invokevirtual 312, 3) := by decide +kernel
theorem dX11_law_51 : decode cX11_law 51 = .ok (.aload_n 0, 1) := by decide +kernel
theorem dX11_law_52 : decode cX11_law 52 = .ok (.getfield 19, 3) := by decide +kernel
theorem dX11_law_55 : decode cX11_law 55 = .ok (.getfield 245, 3) := by decide +kernel
theorem dX11_law_58 : decode cX11_law 58 = .ok (.istore_n 2, 1) := by decide +kernel
theorem dX11_law_59 : decode cX11_law 59 = .ok (.aload_n 0, 1) := by decide +kernel
theorem dX11_law_60 : decode cX11_law 60 = .ok (.invokevirtual 309, 3) := by decide +kernel
theorem dX11_law_63 : decode cX11_law 63 = .ok (.aload_n 0, 1) := by decide +kernel
theorem dX11_law_64 : decode cX11_law 64 = .ok (.getfield 19, 3) := by decide +kernel
theorem dX11_law_67 : decode cX11_law 67 = .ok (.aload_n 0, 1) := by decide +kernel
theorem dX11_law_68 : decode cX11_law 68 = .ok (.getfield 68, 3) := by decide +kernel
theorem dX11_law_71 : decode cX11_law 71 = .ok (.aload_n 0, 1) := by decide +kernel
theorem dX11_law_72 : decode cX11_law 72 = .ok (.getfield 46, 3) := by decide +kernel
theorem dX11_law_75 : decode cX11_law 75 = .ok (.bipush 10, 2) := by decide +kernel
theorem dX11_law_77 : decode cX11_law 77 = .ok (.invokevirtual 312, 3) := by decide +kernel
theorem dX11_law_80 : decode cX11_law 80 = .ok (.aload_n 0, 1) := by decide +kernel
theorem dX11_law_81 : decode cX11_law 81 = .ok (.getfield 19, 3) := by decide +kernel
theorem dX11_law_84 : decode cX11_law 84 = .ok (.getfield 245, 3) := by decide +kernel
theorem dX11_law_87 : decode cX11_law 87 = .ok (.istore_n 3, 1) := by decide +kernel
theorem dX11_law_88 : decode cX11_law 88 = .ok (.aload_n 0, 1) := by decide +kernel
theorem dX11_law_89 : decode cX11_law 89 = .ok (.getfield 81, 3) := by decide +kernel
theorem dX11_law_92 : decode cX11_law 92 = .ok (.invokevirtual 242, 3) := by decide +kernel
theorem dX11_law_95 : decode cX11_law 95 = .ok (.aload_n 0, 1) := by decide +kernel
theorem dX11_law_96 : decode cX11_law 96 = .ok (.getfield 81, 3) := by decide +kernel
theorem dX11_law_99 : decode cX11_law 99 = .ok (.iload_n 3, 1) := by decide +kernel
theorem dX11_law_100 : decode cX11_law 100 = .ok (.i2l, 1) := by decide +kernel
theorem dX11_law_101 : decode cX11_law 101 = .ok (.invokevirtual 248, 3) := by decide +kernel
theorem dX11_law_104 : decode cX11_law 104 = .ok (.aload_n 0, 1) := by decide +kernel
theorem dX11_law_105 : decode cX11_law 105 = .ok (.getfield 81, 3) := by decide +kernel
theorem dX11_law_108 : decode cX11_law 108 = .ok (.iload_n 2, 1) := by decide +kernel
theorem dX11_law_109 : decode cX11_law 109 = .ok (.i2l, 1) := by decide +kernel
theorem dX11_law_110 : decode cX11_law 110 = .ok (.invokevirtual 248, 3) := by decide +kernel
theorem dX11_law_113 : decode cX11_law 113 = .ok (.iconst 0, 1) := by decide +kernel
theorem dX11_law_114 : decode cX11_law 114 = .ok (.istore 4, 2) := by decide +kernel
theorem dX11_law_116 : decode cX11_law 116 = .ok (.iload 4, 2) := by decide +kernel
theorem dX11_law_118 : decode cX11_law 118 = .ok (.aload_n 0, 1) := by decide +kernel
theorem dX11_law_119 : decode cX11_law 119 = .ok (.getfield 19, 3) := by decide +kernel
theorem dX11_law_122 : decode cX11_law 122 = .ok (.getfield 113, 3) := by decide +kernel
theorem dX11_law_125 : decode cX11_law 125 = .ok (.if_icmp .ge 27, 3) := by decide +kernel
theorem dX11_law_128 : decode cX11_law 128 = .ok (.aload_n 0, 1) := by decide +kernel
theorem dX11_law_129 : decode cX11_law 129 = .ok (.getfield 81, 3) := by decide +kernel
theorem dX11_law_132 : decode cX11_law 132 = .ok (.aload_n 0, 1) := by decide +kernel
theorem dX11_law_133 : decode cX11_law 133 = .ok (.getfield 68, 3) := by decide +kernel
theorem dX11_law_136 : decode cX11_law 136 = .ok (.getfield 154, 3) := by decide +kernel
theorem dX11_law_139 : decode cX11_law 139 = .ok (.iload 4, 2) := by decide +kernel
theorem dX11_law_141 : decode cX11_law 141 = .ok (.iaload, 1) := by decide +kernel
theorem dX11_law_142 : decode cX11_law 142 = .ok (.i2l, 1) := by decide +kernel
theorem dX11_law_143 : decode cX11_law 143 = .ok (.invokevirtual 248, 3) := by decide +kernel
theorem dX11_law_146 : decode cX11_law 146 = .ok (.iinc 4 1, 3) := by decide +kernel
theorem dX11_law_149 : decode cX11_law 149 = .ok (.goto (-33), 3) := by decide +kernel
theorem dX11_law_152 : decode cX11_law 152 = .ok (.iload_n 3, 1) := by decide +kernel
theorem dX11_law_153 : decode cX11_law 153 = .ok (.iload_n 2, 1) := by decide +kernel
theorem dX11_law_154 : decode cX11_law 154 = .ok (.isub, 1) := by decide +kernel
theorem dX11_law_155 : decode cX11_law 155 = .ok (.ireturn, 1) := by decide +kernel
def lb_X11_law_116 (v0 : Nat) (v2 : Int32) (v3 : Int32) (s : Int32 × aH) : Option ((Int32 × aH) ⊕ ((Int32 × aH))) :=
  (gR s.2 v0 10 1).bind fun a35 =>
  (gI s.2 a35 0 0).bind fun x36 =>
  if s.1 < x36 then
    (gR s.2 v0 10 11).bind fun a37 =>
    (gR s.2 v0 10 9).bind fun a38 =>
    (gR s.2 a38 6 0).bind fun a39 =>
    (aI s.2 a39 14 s.1).bind fun x40 =>
    (ck s.2 a37 2).bind fun u41 =>
    (fn_X3_add s.2 a37 (Int32.toInt64 x40)).bind fun h42 =>
    (some (s.1 + 1)).bind fun x43 =>
    some (.inl (x43, h42))
  else
    some (.inr ((v3 - v2), s.2))
def hd_X11_law_116 (Γ : aC) (v0 : Nat) (v2 : Int32) (v3 : Int32) (s : Int32 × aH) : Prop := ∀ (j1 : Option Value), Jd Γ (0, 0) 116 [some (.ref v0), j1, some (.int v2), some (.int v3), some (.int s.1)] [] s.2
def ex_X11_law_116 (Γ : aC) (v0 : Nat) (v2 : Int32) (v3 : Int32) (r : (Int32 × aH)) : Prop := (fun r => RqI Γ r) r
set_option maxRecDepth 20000 in
set_option maxHeartbeats 4000000 in
theorem lw_X11_law_116 {Γ : aC} {d : Nat} (X : Cx Γ RX11 cX11_law 5 (some .int) (d, 0, 0)) (hd : 6 ≤ d) (v0 : Nat) (v2 : Int32) (v3 : Int32) : ∀ n s o, lp (lb_X11_law_116 v0 v2 v3) n s = some o → ex_X11_law_116 Γ v0 v2 v3 o → hd_X11_law_116 Γ v0 v2 v3 s := by
  have hd1 : 1 ≤ d := by omega
  refine J_lp _ _ _ ?_
  intro s o hf hk j1
  unfold lb_X11_law_116 at hf
  refine r_iload (pc := 116) X dX11_law_116 rfl ?_
  refine r_aload_n (pc := 118) X dX11_law_118 rfl ?_
  obtain ⟨a35, ea35, hf⟩ := ob hf
  refine r_getR (pc := 119) X dX11_law_119 fl_X11_19 rfl ea35 ?_
  obtain ⟨x36, ex36, hf⟩ := ob hf
  refine r_getI (pc := 122) X dX11_law_122 fl_X11_113 rfl ex36 ?_
  refine r_icmp_ge (pc := 125) X 152 dX11_law_125 (by decide) (fun c44 => ?_) (fun c44 => ?_)
  · rw [if_neg c44] at hf
    refine r_iload_n (pc := 152) X dX11_law_152 rfl ?_
    refine r_iload_n (pc := 153) X dX11_law_153 rfl ?_
    refine r_isub (pc := 154) X dX11_law_154 ?_
    obtain rfl := Option.some.inj hf
    exact r_iret (pc := 155) X dX11_law_155 hk
  · rw [if_pos c44] at hf
    refine r_aload_n (pc := 128) X dX11_law_128 rfl ?_
    obtain ⟨a37, ea37, hf⟩ := ob hf
    refine r_getR (pc := 129) X dX11_law_129 fl_X11_81 rfl ea37 ?_
    refine r_aload_n (pc := 132) X dX11_law_132 rfl ?_
    obtain ⟨a38, ea38, hf⟩ := ob hf
    refine r_getR (pc := 133) X dX11_law_133 fl_X11_68 rfl ea38 ?_
    obtain ⟨a39, ea39, hf⟩ := ob hf
    refine r_getR (pc := 136) X dX11_law_136 fl_X11_154 rfl ea39 ?_
    refine r_iload (pc := 139) X dX11_law_139 rfl ?_
    obtain ⟨x40, ex40, hf⟩ := ob hf
    refine r_iald (pc := 141) X dX11_law_141 ex40 ?_
    refine r_i2l (pc := 142) X dX11_law_142 ?_
    obtain ⟨u41, eu41, hf⟩ := ob hf
    obtain ⟨h42, eh42, hf⟩ := ob hf
    refine r_callVV (pc := 143) X [.long (Int32.toInt64 x40)] dX11_law_143 ml_X11_248 vo_X3_add ⟨Nat.le_refl _, Nat.le_refl _⟩ eu41 (ev_X3_add (d := d - 1) (by omega) _ _ _ _ eh42) hd1 rfl (Nat.le_of_ble_eq_true rfl) rfl ?_
    obtain ⟨x43, ex43, hf⟩ := ob hf
    refine r_iinc2 (pc := 146) X 1 [some (.ref v0), j1, some (.int v2), some (.int v3), some (.int x43)] dX11_law_146 (by decide) rfl (by decide) ex43 rfl ?_
    refine r_goto (pc := 149) X 116 dX11_law_149 (by decide) ?_
    obtain rfl := Option.some.inj hf
    exact hk _
def fn_X11_law (h : aH) (p0 : Nat) : Option (Int32 × aH) :=
  (gR h p0 10 6).bind fun a1 =>
  (gR h p0 10 5).bind fun a2 =>
  (ck h a1 4).bind fun u3 =>
  (fn_X5_read h a1 a2).bind fun o4 =>
  (gR o4.2 p0 10 0).bind fun a5 =>
  (ck o4.2 a5 7).bind fun u6 =>
  (fn_X8_clear o4.2 a5).bind fun h7 =>
  if o4.1 = (-1) then
    (ck h7 p0 10).bind fun u8 =>
    (fn_X11_startTrial h7 p0).bind fun h9 =>
    (gR h9 p0 10 1).bind fun a10 =>
    (gR h9 p0 10 9).bind fun a11 =>
    (gR h9 p0 10 4).bind fun a12 =>
    (ck h9 a10 0).bind fun u13 =>
    (fn_X0_run h9 a10 a11 a12 10).bind fun h14 =>
    (gR h14 p0 10 1).bind fun a15 =>
    (gI h14 a15 0 8).bind fun x16 =>
    (ck h14 p0 10).bind fun u17 =>
    (fn_X11_startTrial h14 p0).bind fun h18 =>
    (gR h18 p0 10 1).bind fun a19 =>
    (gR h18 p0 10 9).bind fun a20 =>
    (gR h18 p0 10 5).bind fun a21 =>
    (ck h18 a19 0).bind fun u22 =>
    (fn_X0_run h18 a19 a20 a21 10).bind fun h23 =>
    (gR h23 p0 10 1).bind fun a24 =>
    (gI h23 a24 0 8).bind fun x25 =>
    (gR h23 p0 10 11).bind fun a26 =>
    (ck h23 a26 2).bind fun u27 =>
    (fn_X3_begin h23 a26).bind fun h28 =>
    (gR h28 p0 10 11).bind fun a29 =>
    (ck h28 a29 2).bind fun u30 =>
    (fn_X3_add h28 a29 (Int32.toInt64 x25)).bind fun h31 =>
    (gR h31 p0 10 11).bind fun a32 =>
    (ck h31 a32 2).bind fun u33 =>
    (fn_X3_add h31 a32 (Int32.toInt64 x16)).bind fun h34 =>
    (lp (lb_X11_law_116 p0 x16 x25) lpN (0, h34)).bind fun o45 =>
    some o45
  else
    some (((-10000) - o4.1), h7)
set_option maxRecDepth 20000 in
set_option maxHeartbeats 4000000 in
theorem ev_X11_law {l : Launch} {g : aG} {d : Nat} (hd : 6 ≤ d) (h : aH) (p0 : Nat) (o : Int32 × aH) (hf : fn_X11_law h p0 = some o) : EvM l g d yX11_law cX11_law 5 (some .int) [.ref p0] h (some (.int o.1), o.2) := by
  refine EvM.of mk_X11_law (Nat.le_of_ble_eq_true rfl) ?_
  intro Γ hl hg hq X
  have hd1 : 1 ≤ d := by omega
  have hk : RqI Γ o := hq
  unfold fn_X11_law at hf
  show Jd Γ (0, 0) 0 [some (.ref p0), none, none, none, none] [] h
  refine r_aload_n (pc := 0) X dX11_law_0 rfl ?_
  obtain ⟨a1, ea1, hf⟩ := ob hf
  refine r_getR (pc := 1) X dX11_law_1 fl_X11_54 rfl ea1 ?_
  refine r_aload_n (pc := 4) X dX11_law_4 rfl ?_
  obtain ⟨a2, ea2, hf⟩ := ob hf
  refine r_getR (pc := 5) X dX11_law_5 fl_X11_46 rfl ea2 ?_
  obtain ⟨u3, eu3, hf⟩ := ob hf
  obtain ⟨o4, eo4, hf⟩ := ob hf
  refine r_callVI (pc := 8) X [.ref a2] dX11_law_8 ml_X11_175 vo_X5_read ⟨Nat.le_refl _, Nat.le_refl _⟩ eu3 (ev_X5_read (d := d - 1) (by omega) _ _ _ _ eo4) hd1 rfl (Nat.le_of_ble_eq_true rfl) rfl ?_
  refine r_istore_n (pc := 11) X [some (.ref p0), some (.int o4.1), none, none, none] dX11_law_11 (by decide) rfl ?_
  refine r_aload_n (pc := 12) X dX11_law_12 rfl ?_
  obtain ⟨a5, ea5, hf⟩ := ob hf
  refine r_getR (pc := 13) X dX11_law_13 fl_X11_12 rfl ea5 ?_
  obtain ⟨u6, eu6, hf⟩ := ob hf
  obtain ⟨h7, eh7, hf⟩ := ob hf
  refine r_callVV (pc := 16) X [] dX11_law_16 ml_X11_148 vo_X8_clear ⟨Nat.le_refl _, Nat.le_refl _⟩ eu6 (ev_X8_clear (d := d - 1) (by omega) _ _ _ eh7) hd1 rfl (Nat.le_of_ble_eq_true rfl) rfl ?_
  refine r_iload_n (pc := 19) X dX11_law_19 rfl ?_
  refine r_iconst (pc := 20) X (-1) dX11_law_20 (by decide) ?_
  refine r_icmp_eq (pc := 21) X 30 dX11_law_21 (by decide) (fun c46 => ?_) (fun c46 => ?_)
  · rw [if_pos c46] at hf
    refine r_aload_n (pc := 30) X dX11_law_30 rfl ?_
    obtain ⟨u8, eu8, hf⟩ := ob hf
    obtain ⟨h9, eh9, hf⟩ := ob hf
    refine r_callVV (pc := 31) X [] dX11_law_31 ml_X11_309 vo_X11_startTrial ⟨Nat.le_refl _, Nat.le_refl _⟩ eu8 (ev_X11_startTrial (d := d - 1) (by omega) _ _ _ eh9) hd1 rfl (Nat.le_of_ble_eq_true rfl) rfl ?_
    refine r_aload_n (pc := 34) X dX11_law_34 rfl ?_
    obtain ⟨a10, ea10, hf⟩ := ob hf
    refine r_getR (pc := 35) X dX11_law_35 fl_X11_19 rfl ea10 ?_
    refine r_aload_n (pc := 38) X dX11_law_38 rfl ?_
    obtain ⟨a11, ea11, hf⟩ := ob hf
    refine r_getR (pc := 39) X dX11_law_39 fl_X11_68 rfl ea11 ?_
    refine r_aload_n (pc := 42) X dX11_law_42 rfl ?_
    obtain ⟨a12, ea12, hf⟩ := ob hf
    refine r_getR (pc := 43) X dX11_law_43 fl_X11_42 rfl ea12 ?_
    refine r_bipush (pc := 46) X 10 dX11_law_46 (by decide) ?_
    obtain ⟨u13, eu13, hf⟩ := ob hf
    obtain ⟨h14, eh14, hf⟩ := ob hf
    refine r_callVV (pc := 48) X [.ref a11, .ref a12, .int 10] dX11_law_48 ml_X11_312 vo_X0_run ⟨Nat.le_refl _, Nat.le_refl _⟩ eu13 (ev_X0_run (d := d - 1) (by omega) _ _ _ _ _ _ eh14) hd1 rfl (Nat.le_of_ble_eq_true rfl) rfl ?_
    refine r_aload_n (pc := 51) X dX11_law_51 rfl ?_
    obtain ⟨a15, ea15, hf⟩ := ob hf
    refine r_getR (pc := 52) X dX11_law_52 fl_X11_19 rfl ea15 ?_
    obtain ⟨x16, ex16, hf⟩ := ob hf
    refine r_getI (pc := 55) X dX11_law_55 fl_X11_245 rfl ex16 ?_
    refine r_istore_n (pc := 58) X [some (.ref p0), some (.int o4.1), some (.int x16), none, none] dX11_law_58 (by decide) rfl ?_
    refine r_aload_n (pc := 59) X dX11_law_59 rfl ?_
    obtain ⟨u17, eu17, hf⟩ := ob hf
    obtain ⟨h18, eh18, hf⟩ := ob hf
    refine r_callVV (pc := 60) X [] dX11_law_60 ml_X11_309 vo_X11_startTrial ⟨Nat.le_refl _, Nat.le_refl _⟩ eu17 (ev_X11_startTrial (d := d - 1) (by omega) _ _ _ eh18) hd1 rfl (Nat.le_of_ble_eq_true rfl) rfl ?_
    refine r_aload_n (pc := 63) X dX11_law_63 rfl ?_
    obtain ⟨a19, ea19, hf⟩ := ob hf
    refine r_getR (pc := 64) X dX11_law_64 fl_X11_19 rfl ea19 ?_
    refine r_aload_n (pc := 67) X dX11_law_67 rfl ?_
    obtain ⟨a20, ea20, hf⟩ := ob hf
    refine r_getR (pc := 68) X dX11_law_68 fl_X11_68 rfl ea20 ?_
    refine r_aload_n (pc := 71) X dX11_law_71 rfl ?_
    obtain ⟨a21, ea21, hf⟩ := ob hf
    refine r_getR (pc := 72) X dX11_law_72 fl_X11_46 rfl ea21 ?_
    refine r_bipush (pc := 75) X 10 dX11_law_75 (by decide) ?_
    obtain ⟨u22, eu22, hf⟩ := ob hf
    obtain ⟨h23, eh23, hf⟩ := ob hf
    refine r_callVV (pc := 77) X [.ref a20, .ref a21, .int 10] dX11_law_77 ml_X11_312 vo_X0_run ⟨Nat.le_refl _, Nat.le_refl _⟩ eu22 (ev_X0_run (d := d - 1) (by omega) _ _ _ _ _ _ eh23) hd1 rfl (Nat.le_of_ble_eq_true rfl) rfl ?_
    refine r_aload_n (pc := 80) X dX11_law_80 rfl ?_
    obtain ⟨a24, ea24, hf⟩ := ob hf
    refine r_getR (pc := 81) X dX11_law_81 fl_X11_19 rfl ea24 ?_
    obtain ⟨x25, ex25, hf⟩ := ob hf
    refine r_getI (pc := 84) X dX11_law_84 fl_X11_245 rfl ex25 ?_
    refine r_istore_n (pc := 87) X [some (.ref p0), some (.int o4.1), some (.int x16), some (.int x25), none] dX11_law_87 (by decide) rfl ?_
    refine r_aload_n (pc := 88) X dX11_law_88 rfl ?_
    obtain ⟨a26, ea26, hf⟩ := ob hf
    refine r_getR (pc := 89) X dX11_law_89 fl_X11_81 rfl ea26 ?_
    obtain ⟨u27, eu27, hf⟩ := ob hf
    obtain ⟨h28, eh28, hf⟩ := ob hf
    refine r_callVV (pc := 92) X [] dX11_law_92 ml_X11_242 vo_X3_begin ⟨Nat.le_refl _, Nat.le_refl _⟩ eu27 (ev_X3_begin (d := d - 1) (by omega) _ _ _ eh28) hd1 rfl (Nat.le_of_ble_eq_true rfl) rfl ?_
    refine r_aload_n (pc := 95) X dX11_law_95 rfl ?_
    obtain ⟨a29, ea29, hf⟩ := ob hf
    refine r_getR (pc := 96) X dX11_law_96 fl_X11_81 rfl ea29 ?_
    refine r_iload_n (pc := 99) X dX11_law_99 rfl ?_
    refine r_i2l (pc := 100) X dX11_law_100 ?_
    obtain ⟨u30, eu30, hf⟩ := ob hf
    obtain ⟨h31, eh31, hf⟩ := ob hf
    refine r_callVV (pc := 101) X [.long (Int32.toInt64 x25)] dX11_law_101 ml_X11_248 vo_X3_add ⟨Nat.le_refl _, Nat.le_refl _⟩ eu30 (ev_X3_add (d := d - 1) (by omega) _ _ _ _ eh31) hd1 rfl (Nat.le_of_ble_eq_true rfl) rfl ?_
    refine r_aload_n (pc := 104) X dX11_law_104 rfl ?_
    obtain ⟨a32, ea32, hf⟩ := ob hf
    refine r_getR (pc := 105) X dX11_law_105 fl_X11_81 rfl ea32 ?_
    refine r_iload_n (pc := 108) X dX11_law_108 rfl ?_
    refine r_i2l (pc := 109) X dX11_law_109 ?_
    obtain ⟨u33, eu33, hf⟩ := ob hf
    obtain ⟨h34, eh34, hf⟩ := ob hf
    refine r_callVV (pc := 110) X [.long (Int32.toInt64 x16)] dX11_law_110 ml_X11_248 vo_X3_add ⟨Nat.le_refl _, Nat.le_refl _⟩ eu33 (ev_X3_add (d := d - 1) (by omega) _ _ _ _ eh34) hd1 rfl (Nat.le_of_ble_eq_true rfl) rfl ?_
    refine r_iconst (pc := 113) X 0 dX11_law_113 (by decide) ?_
    refine r_istore (pc := 114) X [some (.ref p0), some (.int o4.1), some (.int x16), some (.int x25), some (.int 0)] dX11_law_114 (by decide) rfl ?_
    obtain ⟨o45, eo45, hf⟩ := ob hf
    refine (lw_X11_law_116 X hd _ _ _ lpN _ o45 eo45 ?_) _
    obtain rfl := Option.some.inj hf
    exact hk
  · rw [if_neg c46] at hf
    refine r_sipush (pc := 24) X (-10000) dX11_law_24 (by decide) ?_
    refine r_iload_n (pc := 27) X dX11_law_27 rfl ?_
    refine r_isub (pc := 28) X dX11_law_28 ?_
    obtain rfl := Option.some.inj hf
    exact r_iret (pc := 29) X dX11_law_29 hk

theorem dX11_drawn_0 : decode cX11_drawn 0 = .ok (.iload_n 0, 1) := by decide +kernel
theorem dX11_drawn_1 : decode cX11_drawn 1 = .ok (.ldc_w 468, 3) := by decide +kernel
theorem dX11_drawn_4 : decode cX11_drawn 4 = .ok (.imul, 1) := by decide +kernel
theorem dX11_drawn_5 : decode cX11_drawn 5 = .ok (.sipush 12345, 3) := by decide +kernel
theorem dX11_drawn_8 : decode cX11_drawn 8 = .ok (.iadd, 1) := by decide +kernel
theorem dX11_drawn_9 : decode cX11_drawn 9 = .ok (.ireturn, 1) := by decide +kernel
def fn_X11_drawn (h : aH) (p0 : Int32) : Option (Int32) :=
  some ((p0 * 1103515245) + 12345)
set_option maxRecDepth 20000 in
set_option maxHeartbeats 4000000 in
theorem ev_X11_drawn {l : Launch} {g : aG} {d : Nat} (hd : 0 ≤ d) (h : aH) (p0 : Int32) (o : Int32) (hf : fn_X11_drawn h p0 = some o) : EvM l g d yX11_drawn cX11_drawn 1 (some .int) [.int p0] h (some (.int o), h) := by
  refine EvM.of mk_X11_drawn (Nat.le_of_ble_eq_true rfl) ?_
  intro Γ hl hg hq X
  have hd1 : 0 ≤ d := by omega
  have hk : RpI h Γ o := hq
  unfold fn_X11_drawn at hf
  show Jd Γ (0, 0) 0 [some (.int p0)] [] h
  refine r_iload_n (pc := 0) X dX11_drawn_0 rfl ?_
  refine r_ldcw (pc := 1) X 1103515245 dX11_drawn_1 kc_X11_468 ?_
  refine r_imul (pc := 4) X dX11_drawn_4 ?_
  refine r_sipush (pc := 5) X 12345 dX11_drawn_5 (by decide) ?_
  refine r_iadd (pc := 8) X dX11_drawn_8 ?_
  obtain rfl := Option.some.inj hf
  exact r_iret (pc := 9) X dX11_drawn_9 hk

theorem dX11_picked_0 : decode cX11_picked 0 = .ok (.iload_n 1, 1) := by decide +kernel
theorem dX11_picked_1 : decode cX11_picked 1 = .ok (.ifCond .le 12, 3) := by decide +kernel
theorem dX11_picked_4 : decode cX11_picked 4 = .ok (.iload_n 0, 1) := by decide +kernel
theorem dX11_picked_5 : decode cX11_picked 5 = .ok (.bipush 16, 2) := by decide +kernel
theorem dX11_picked_7 : decode cX11_picked 7 = .ok (.iushr, 1) := by decide +kernel
theorem dX11_picked_8 : decode cX11_picked 8 = .ok (.iload_n 1, 1) := by decide +kernel
theorem dX11_picked_9 : decode cX11_picked 9 = .ok (.irem, 1) := by decide +kernel
theorem dX11_picked_10 : decode cX11_picked 10 = .ok (.goto 4, 3) := by decide +kernel
theorem dX11_picked_13 : decode cX11_picked 13 = .ok (.iconst 0, 1) := by decide +kernel
theorem dX11_picked_14 : decode cX11_picked 14 = .ok (.ireturn, 1) := by decide +kernel
def fn_X11_picked (h : aH) (p0 : Int32) (p1 : Int32) : Option (Int32) :=
  if p1 ≤ 0 then
    some 0
  else
    (irm (ius p0 16) p1).bind fun x1 =>
    some x1
set_option maxRecDepth 20000 in
set_option maxHeartbeats 4000000 in
theorem ev_X11_picked {l : Launch} {g : aG} {d : Nat} (hd : 0 ≤ d) (h : aH) (p0 : Int32) (p1 : Int32) (o : Int32) (hf : fn_X11_picked h p0 p1 = some o) : EvM l g d yX11_picked cX11_picked 2 (some .int) [.int p0, .int p1] h (some (.int o), h) := by
  refine EvM.of mk_X11_picked (Nat.le_of_ble_eq_true rfl) ?_
  intro Γ hl hg hq X
  have hd1 : 0 ≤ d := by omega
  have hk : RpI h Γ o := hq
  unfold fn_X11_picked at hf
  show Jd Γ (0, 0) 0 [some (.int p0), some (.int p1)] [] h
  refine r_iload_n (pc := 0) X dX11_picked_0 rfl ?_
  refine r_if_le (pc := 1) X 13 dX11_picked_1 (by decide) (fun c2 => ?_) (fun c2 => ?_)
  · rw [if_pos c2] at hf
    refine r_iconst (pc := 13) X 0 dX11_picked_13 (by decide) ?_
    obtain rfl := Option.some.inj hf
    exact r_iret (pc := 14) X dX11_picked_14 hk
  · rw [if_neg c2] at hf
    refine r_iload_n (pc := 4) X dX11_picked_4 rfl ?_
    refine r_bipush (pc := 5) X 16 dX11_picked_5 (by decide) ?_
    refine r_iushr (pc := 7) X dX11_picked_7 ?_
    refine r_iload_n (pc := 8) X dX11_picked_8 rfl ?_
    obtain ⟨x1, ex1, hf⟩ := ob hf
    refine r_irem (pc := 9) X dX11_picked_9 ex1 ?_
    refine r_goto (pc := 10) X 14 dX11_picked_10 (by decide) ?_
    obtain rfl := Option.some.inj hf
    exact r_iret (pc := 14) X dX11_picked_14 hk

theorem dX11_years_0 : decode cX11_years 0 = .ok (.iload_n 2, 1) := by decide +kernel
theorem dX11_years_1 : decode cX11_years 1 = .ok (.iconst 1, 1) := by decide +kernel
theorem dX11_years_2 : decode cX11_years 2 = .ok (.if_icmp .lt 9, 3) := by decide +kernel
theorem dX11_years_5 : decode cX11_years 5 = .ok (.iload_n 2, 1) := by decide +kernel
theorem dX11_years_6 : decode cX11_years 6 = .ok (.bipush 60, 2) := by decide +kernel
theorem dX11_years_8 : decode cX11_years 8 = .ok (.if_icmp .le 5, 3) := by decide +kernel
theorem dX11_years_11 : decode cX11_years 11 = .ok (.iconst (-1), 1) := by decide +kernel
theorem dX11_years_12 : decode cX11_years 12 = .ok (.ireturn, 1) := by decide +kernel
theorem dX11_years_13 : decode cX11_years 13 = .ok (.aload_n 0, 1) := by decide +kernel
theorem dX11_years_14 : decode cX11_years 14 = .ok (.invokevirtual 309, 3) := by decide +kernel
theorem dX11_years_17 : decode cX11_years 17 = .ok (.iload_n 1, 1) := by decide +kernel
theorem dX11_years_18 : decode cX11_years 18 = .ok (.istore_n 3, 1) := by decide +kernel
theorem dX11_years_19 : decode cX11_years 19 = .ok (.iconst 0, 1) := by decide +kernel
theorem dX11_years_20 : decode cX11_years 20 = .ok (.istore 4, 2) := by decide +kernel
theorem dX11_years_22 : decode cX11_years 22 = .ok (.iload 4, 2) := by decide +kernel
theorem dX11_years_24 : decode cX11_years 24 = .ok (.iload_n 2, 1) := by decide +kernel
theorem dX11_years_25 : decode cX11_years 25 = .ok (.if_icmp .ge 152, 3) := by decide +kernel
theorem dX11_years_28 : decode cX11_years 28 = .ok (.iload_n 3, 1) := by decide +kernel
theorem dX11_years_29 : decode cX11_years 29 = .ok (.invokestatic 462, 3) := by decide +kernel
theorem dX11_years_32 : decode cX11_years 32 = .ok (.istore_n 3, 1) := by decide +kernel
theorem dX11_years_33 : decode cX11_years 33 = .ok (.iload_n 3, 1) := by decide +kernel
theorem dX11_years_34 : decode cX11_years 34 = .ok (.iconst 4, 1) := by decide +kernel
theorem dX11_years_35 : decode cX11_years 35 = .ok (.invokestatic 465, 3) := by decide +kernel
theorem dX11_years_38 : decode cX11_years 38 = .ok (.istore 5, 2) := by decide +kernel
theorem dX11_years_40 : decode cX11_years 40 = .ok (.iload 5, 2) := by decide +kernel
theorem dX11_years_42 : decode cX11_years 42 = .ok (.iconst 2, 1) := by decide +kernel
theorem dX11_years_43 : decode cX11_years 43 = .ok (.if_icmp .ge 21, 3) := by decide +kernel
theorem dX11_years_46 : decode cX11_years 46 = .ok (.aload_n 0, 1) := by decide +kernel
theorem dX11_years_47 : decode cX11_years 47 = .ok (.getfield 19, 3) := by decide +kernel
theorem dX11_years_50 : decode cX11_years 50 = .ok (.aload_n 0, 1) := by decide +kernel
theorem dX11_years_51 : decode cX11_years 51 = .ok (.getfield 68, 3) := by decide +kernel
theorem dX11_years_54 : decode cX11_years 54 = .ok (.aload_n 0, 1) := by decide +kernel
theorem dX11_years_55 : decode cX11_years 55 = .ok (.getfield 42, 3) := by decide +kernel
theorem dX11_years_58 : decode cX11_years 58 = .ok (.invokevirtual 283, 3) := by decide +kernel
theorem dX11_years_61 : decode cX11_years 61 = .ok (.goto 110, 3) := by decide +kernel
theorem dX11_years_64 : decode cX11_years 64 = .ok (.iload 5, 2) := by decide +kernel
theorem dX11_years_66 : decode cX11_years 66 = .ok (.iconst 2, 1) := by decide +kernel
theorem dX11_years_67 : decode cX11_years 67 = .ok (.if_icmp .ne 60, 3) := by decide +kernel
theorem dX11_years_70 : decode cX11_years 70 = .ok (.aload_n 0, 1) := by decide +kernel
theorem dX11_years_71 : decode cX11_years 71 = .ok (.getfield 19, 3) := by decide +kernel
theorem dX11_years_74 : decode cX11_years 74 = .ok (.getfield 113, 3) := by decide +kernel
theorem dX11_years_77 : decode cX11_years 77 = .ok (.ifCond .le 50, 3) := by decide +kernel
theorem dX11_years_80 : decode cX11_years 80 = .ok (.iload_n 3, 1) := by decide +kernel
theorem dX11_years_81 : decode cX11_years 81 = .ok (.invokestatic 462, 3) := by decide +kernel
theorem dX11_years_84 : decode cX11_years 84 = .ok (.istore_n 3, 1) := by decide +kernel
theorem dX11_years_85 : decode cX11_years 85 = .ok (.iload_n 3, 1) := by decide +kernel
theorem dX11_years_86 : decode cX11_years 86 = .ok (.aload_n 0, 1) := by decide +kernel
theorem dX11_years_87 : decode cX11_years 87 = .ok (.getfield 19, 3) := by decide +kernel
theorem dX11_years_90 : decode cX11_years 90 = .ok (.getfield 113, 3) := by decide +kernel
theorem dX11_years_93 : decode cX11_years 93 = .ok (.invokestatic 465, 3) := by decide +kernel
theorem dX11_years_96 : decode cX11_years 96 = .ok (.istore 6, 2) := by decide +kernel
theorem dX11_years_98 : decode cX11_years 98 = .ok (.iload_n 3, 1) := by decide +kernel
theorem dX11_years_99 : decode cX11_years 99 = .ok (.invokestatic 462, 3) := by decide +kernel
theorem dX11_years_102 : decode cX11_years 102 = .ok (.istore_n 3, 1) := by decide +kernel
theorem dX11_years_103 : decode cX11_years 103 = .ok (.aload_n 0, 1) := by decide +kernel
theorem dX11_years_104 : decode cX11_years 104 = .ok (.getfield 19, 3) := by decide +kernel
theorem dX11_years_107 : decode cX11_years 107 = .ok (.aload_n 0, 1) := by decide +kernel
theorem dX11_years_108 : decode cX11_years 108 = .ok (.getfield 68, 3) := by decide +kernel
theorem dX11_years_111 : decode cX11_years 111 = .ok (.iload 6, 2) := by decide +kernel
theorem dX11_years_113 : decode cX11_years 113 = .ok (.iload_n 3, 1) := by decide +kernel
theorem dX11_years_114 : decode cX11_years 114 = .ok (.iconst 3, 1) := by decide +kernel
theorem dX11_years_115 : decode cX11_years 115 = .ok (.invokestatic 465, 3) := by decide +kernel
theorem dX11_years_118 : decode cX11_years 118 = .ok (.iconst 1, 1) := by decide +kernel
theorem dX11_years_119 : decode cX11_years 119 = .ok (.iadd, 1) := by decide +kernel
theorem dX11_years_120 : decode cX11_years 120 = .ok (.invokevirtual 287, 3) := by decide +kernel
theorem dX11_years_123 : decode cX11_years 123 = .ok (.pop, 1) := by decide +kernel
theorem dX11_years_124 : decode cX11_years 124 = .ok (.goto 47, 3) := by decide +kernel
theorem dX11_years_127 : decode cX11_years 127 = .ok (.iload 5, 2) := by decide +kernel
theorem dX11_years_129 : decode cX11_years 129 = .ok (.iconst 3, 1) := by decide +kernel
theorem dX11_years_130 : decode cX11_years 130 = .ok (.if_icmp .ne 41, 3) := by decide +kernel
theorem dX11_years_133 : decode cX11_years 133 = .ok (.aload_n 0, 1) := by decide +kernel
theorem dX11_years_134 : decode cX11_years 134 = .ok (.getfield 19, 3) := by decide +kernel
theorem dX11_years_137 : decode cX11_years 137 = .ok (.getfield 132, 3) := by decide +kernel
theorem dX11_years_140 : decode cX11_years 140 = .ok (.ifCond .le 31, 3) := by decide +kernel
theorem dX11_years_143 : decode cX11_years 143 = .ok (.iload_n 3, 1) := by decide +kernel
theorem dX11_years_144 : decode cX11_years 144 = .ok (.invokestatic 462, 3) := by decide +kernel
theorem dX11_years_147 : decode cX11_years 147 = .ok (.istore_n 3, 1) := by decide +kernel
theorem dX11_years_148 : decode cX11_years 148 = .ok (.aload_n 0, 1) := by decide +kernel
theorem dX11_years_149 : decode cX11_years 149 = .ok (.getfield 19, 3) := by decide +kernel
theorem dX11_years_152 : decode cX11_years 152 = .ok (.aload_n 0, 1) := by decide +kernel
theorem dX11_years_153 : decode cX11_years 153 = .ok (.getfield 68, 3) := by decide +kernel
theorem dX11_years_156 : decode cX11_years 156 = .ok (.iload_n 3, 1) := by decide +kernel
theorem dX11_years_157 : decode cX11_years 157 = .ok (.aload_n 0, 1) := by decide +kernel
theorem dX11_years_158 : decode cX11_years 158 = .ok (.getfield 19, 3) := by decide +kernel
theorem dX11_years_161 : decode cX11_years 161 = .ok (.getfield 132, 3) := by decide +kernel
theorem dX11_years_164 : decode cX11_years 164 = .ok (.invokestatic 465, 3) := by decide +kernel
theorem dX11_years_167 : decode cX11_years 167 = .ok (.invokevirtual 291, 3) := by decide +kernel
theorem dX11_years_170 : decode cX11_years 170 = .ok (.pop, 1) := by decide +kernel
theorem dX11_years_171 : decode cX11_years 171 = .ok (.iinc 4 1, 3) := by decide +kernel
theorem dX11_years_174 : decode cX11_years 174 = .ok (.goto (-152), 3) := by decide +kernel
theorem dX11_years_177 : decode cX11_years 177 = .ok (.aload_n 0, 1) := by decide +kernel
theorem dX11_years_178 : decode cX11_years 178 = .ok (.getfield 81, 3) := by decide +kernel
theorem dX11_years_181 : decode cX11_years 181 = .ok (.invokevirtual 242, 3) := by decide +kernel
theorem dX11_years_184 : decode cX11_years 184 = .ok (.aload_n 0, 1) := by decide +kernel
theorem dX11_years_185 : decode cX11_years 185 = .ok (.getfield 81, 3) := by decide +kernel
theorem dX11_years_188 : decode cX11_years 188 = .ok (.aload_n 0, 1) := by decide +kernel
theorem dX11_years_189 : decode cX11_years 189 = .ok (.getfield 19, 3) := by decide +kernel
theorem dX11_years_192 : decode cX11_years 192 = .ok (.getfield 245, 3) := by decide +kernel
theorem dX11_years_195 : decode cX11_years 195 = .ok (.i2l, 1) := by decide +kernel
theorem dX11_years_196 : decode cX11_years 196 = .ok (.invokevirtual 248, 3) := by decide +kernel
theorem dX11_years_199 : decode cX11_years 199 = .ok (.aload_n 0, 1) := by decide +kernel
theorem dX11_years_200 : decode cX11_years 200 = .ok (.getfield 81, 3) := by decide +kernel
theorem dX11_years_203 : decode cX11_years 203 = .ok (.aload_n 0, 1) := by decide +kernel
theorem dX11_years_204 : decode cX11_years 204 = .ok (.getfield 19, 3) := by decide +kernel
theorem dX11_years_207 : decode cX11_years 207 = .ok (.getfield 252, 3) := by decide +kernel
theorem dX11_years_210 : decode cX11_years 210 = .ok (.i2l, 1) := by decide +kernel
theorem dX11_years_211 : decode cX11_years 211 = .ok (.invokevirtual 248, 3) := by decide +kernel
theorem dX11_years_214 : decode cX11_years 214 = .ok (.aload_n 0, 1) := by decide +kernel
theorem dX11_years_215 : decode cX11_years 215 = .ok (.aload_n 0, 1) := by decide +kernel
theorem dX11_years_216 : decode cX11_years 216 = .ok (.getfield 68, 3) := by decide +kernel
theorem dX11_years_219 : decode cX11_years 219 = .ok (.invokevirtual 226, 3) := by decide +kernel
theorem dX11_years_222 : decode cX11_years 222 = .ok (.ireturn, 1) := by decide +kernel
def lb_X11_years_22 (v0 : Nat) (v2 : Int32) (s : Int32 × Int32 × aH) : Option ((Int32 × Int32 × aH) ⊕ ((aH))) :=
  if s.2.1 < v2 then
    (fn_X11_drawn s.2.2 s.1).bind fun x3 =>
    (fn_X11_picked s.2.2 x3 4).bind fun x4 =>
    if x4 < 2 then
      (gR s.2.2 v0 10 1).bind fun a50 =>
      (gR s.2.2 v0 10 9).bind fun a51 =>
      (gR s.2.2 v0 10 4).bind fun a52 =>
      (ck s.2.2 a50 0).bind fun u53 =>
      (fn_X0_pass s.2.2 a50 a51 a52).bind fun h54 =>
      (some (s.2.1 + 1)).bind fun x55 =>
      some (.inl (x3, x55, h54))
    else
      if x4 = 2 then
        (gR s.2.2 v0 10 1).bind fun a20 =>
        (gI s.2.2 a20 0 0).bind fun x21 =>
        if x21 ≤ 0 then
          if x4 = 3 then
            (gR s.2.2 v0 10 1).bind fun a23 =>
            (gI s.2.2 a23 0 1).bind fun x24 =>
            if x24 ≤ 0 then
              (some (s.2.1 + 1)).bind fun x25 =>
              some (.inl (x3, x25, s.2.2))
            else
              (fn_X11_drawn s.2.2 x3).bind fun x26 =>
              (gR s.2.2 v0 10 1).bind fun a27 =>
              (gR s.2.2 v0 10 9).bind fun a28 =>
              (gR s.2.2 v0 10 1).bind fun a29 =>
              (gI s.2.2 a29 0 1).bind fun x30 =>
              (fn_X11_picked s.2.2 x26 x30).bind fun x31 =>
              (ck s.2.2 a27 0).bind fun u32 =>
              (fn_X0_carry s.2.2 a27 a28 x31).bind fun o33 =>
              (some (s.2.1 + 1)).bind fun x34 =>
              some (.inl (x26, x34, o33.2))
          else
            (some (s.2.1 + 1)).bind fun x22 =>
            some (.inl (x3, x22, s.2.2))
        else
          (fn_X11_drawn s.2.2 x3).bind fun x37 =>
          (gR s.2.2 v0 10 1).bind fun a38 =>
          (gI s.2.2 a38 0 0).bind fun x39 =>
          (fn_X11_picked s.2.2 x37 x39).bind fun x40 =>
          (fn_X11_drawn s.2.2 x37).bind fun x41 =>
          (gR s.2.2 v0 10 1).bind fun a42 =>
          (gR s.2.2 v0 10 9).bind fun a43 =>
          (fn_X11_picked s.2.2 x41 3).bind fun x44 =>
          (ck s.2.2 a42 0).bind fun u45 =>
          (fn_X0_fill s.2.2 a42 a43 x40 (x44 + 1)).bind fun o46 =>
          (some (s.2.1 + 1)).bind fun x47 =>
          some (.inl (x41, x47, o46.2))
      else
        if x4 = 3 then
          (gR s.2.2 v0 10 1).bind fun a6 =>
          (gI s.2.2 a6 0 1).bind fun x7 =>
          if x7 ≤ 0 then
            (some (s.2.1 + 1)).bind fun x8 =>
            some (.inl (x3, x8, s.2.2))
          else
            (fn_X11_drawn s.2.2 x3).bind fun x9 =>
            (gR s.2.2 v0 10 1).bind fun a10 =>
            (gR s.2.2 v0 10 9).bind fun a11 =>
            (gR s.2.2 v0 10 1).bind fun a12 =>
            (gI s.2.2 a12 0 1).bind fun x13 =>
            (fn_X11_picked s.2.2 x9 x13).bind fun x14 =>
            (ck s.2.2 a10 0).bind fun u15 =>
            (fn_X0_carry s.2.2 a10 a11 x14).bind fun o16 =>
            (some (s.2.1 + 1)).bind fun x17 =>
            some (.inl (x9, x17, o16.2))
        else
          (some (s.2.1 + 1)).bind fun x5 =>
          some (.inl (x3, x5, s.2.2))
  else
    some (.inr s.2.2)
def hd_X11_years_22 (Γ : aC) (v0 : Nat) (v2 : Int32) (s : Int32 × Int32 × aH) : Prop := ∀ (j1 : Option Value) (j5 : Option Value) (j6 : Option Value), Jd Γ (0, 0) 22 [some (.ref v0), j1, some (.int v2), some (.int s.1), some (.int s.2.1), j5, j6] [] s.2.2
def ex_X11_years_22 (Γ : aC) (v0 : Nat) (v2 : Int32) (r : (aH)) : Prop := (fun r => ∀ (j1 : Option Value) (j3 : Option Value) (j4 : Option Value) (j5 : Option Value) (j6 : Option Value), Jd Γ (0, 0) 177 [some (.ref v0), j1, some (.int v2), j3, j4, j5, j6] [] r) r
set_option maxRecDepth 20000 in
set_option maxHeartbeats 4000000 in
theorem lw_X11_years_22 {Γ : aC} {d : Nat} (X : Cx Γ RX11 cX11_years 7 (some .int) (d, 0, 0)) (hd : 4 ≤ d) (v0 : Nat) (v2 : Int32) : ∀ n s o, lp (lb_X11_years_22 v0 v2) n s = some o → ex_X11_years_22 Γ v0 v2 o → hd_X11_years_22 Γ v0 v2 s := by
  have hd1 : 1 ≤ d := by omega
  refine J_lp _ _ _ ?_
  intro s o hf hk j1 j5 j6
  unfold lb_X11_years_22 at hf
  refine r_iload (pc := 22) X dX11_years_22 rfl ?_
  refine r_iload_n (pc := 24) X dX11_years_24 rfl ?_
  refine r_icmp_ge (pc := 25) X 177 dX11_years_25 (by decide) (fun c57 => ?_) (fun c57 => ?_)
  · rw [if_neg c57] at hf
    obtain rfl := Option.some.inj hf
    exact hk _ _ _ _ _
  · rw [if_pos c57] at hf
    refine r_iload_n (pc := 28) X dX11_years_28 rfl ?_
    obtain ⟨x3, ex3, hf⟩ := ob hf
    refine r_callSI (pc := 29) X [.int s.1] dX11_years_29 ml_X11_462 so_X11_drawn ⟨Nat.le_refl _, Nat.le_refl _⟩ (ev_X11_drawn (d := d - 1) (by omega) _ _ _ ex3) hd1 rfl (Nat.le_of_ble_eq_true rfl) rfl ?_
    refine r_istore_n (pc := 32) X [some (.ref v0), j1, some (.int v2), some (.int x3), some (.int s.2.1), j5, j6] dX11_years_32 (by decide) rfl ?_
    refine r_iload_n (pc := 33) X dX11_years_33 rfl ?_
    refine r_iconst (pc := 34) X 4 dX11_years_34 (by decide) ?_
    obtain ⟨x4, ex4, hf⟩ := ob hf
    refine r_callSI (pc := 35) X [.int x3, .int 4] dX11_years_35 ml_X11_465 so_X11_picked ⟨Nat.le_refl _, Nat.le_refl _⟩ (ev_X11_picked (d := d - 1) (by omega) _ _ _ _ ex4) hd1 rfl (Nat.le_of_ble_eq_true rfl) rfl ?_
    refine r_istore (pc := 38) X [some (.ref v0), j1, some (.int v2), some (.int x3), some (.int s.2.1), some (.int x4), j6] dX11_years_38 (by decide) rfl ?_
    refine r_iload (pc := 40) X dX11_years_40 rfl ?_
    refine r_iconst (pc := 42) X 2 dX11_years_42 (by decide) ?_
    refine r_icmp_ge (pc := 43) X 64 dX11_years_43 (by decide) (fun c56 => ?_) (fun c56 => ?_)
    · rw [if_neg c56] at hf
      refine r_iload (pc := 64) X dX11_years_64 rfl ?_
      refine r_iconst (pc := 66) X 2 dX11_years_66 (by decide) ?_
      refine r_icmp_ne (pc := 67) X 127 dX11_years_67 (by decide) (fun c49 => ?_) (fun c49 => ?_)
      · rw [if_neg c49] at hf
        refine r_iload (pc := 127) X dX11_years_127 rfl ?_
        refine r_iconst (pc := 129) X 3 dX11_years_129 (by decide) ?_
        refine r_icmp_ne (pc := 130) X 171 dX11_years_130 (by decide) (fun c19 => ?_) (fun c19 => ?_)
        · rw [if_neg c19] at hf
          obtain ⟨x5, ex5, hf⟩ := ob hf
          refine r_iinc2 (pc := 171) X 1 [some (.ref v0), j1, some (.int v2), some (.int x3), some (.int x5), some (.int x4), j6] dX11_years_171 (by decide) rfl (by decide) ex5 rfl ?_
          refine r_goto (pc := 174) X 22 dX11_years_174 (by decide) ?_
          obtain rfl := Option.some.inj hf
          exact hk _ _ _
        · rw [if_pos c19] at hf
          refine r_aload_n (pc := 133) X dX11_years_133 rfl ?_
          obtain ⟨a6, ea6, hf⟩ := ob hf
          refine r_getR (pc := 134) X dX11_years_134 fl_X11_19 rfl ea6 ?_
          obtain ⟨x7, ex7, hf⟩ := ob hf
          refine r_getI (pc := 137) X dX11_years_137 fl_X11_132 rfl ex7 ?_
          refine r_if_le (pc := 140) X 171 dX11_years_140 (by decide) (fun c18 => ?_) (fun c18 => ?_)
          · rw [if_pos c18] at hf
            obtain ⟨x8, ex8, hf⟩ := ob hf
            refine r_iinc2 (pc := 171) X 1 [some (.ref v0), j1, some (.int v2), some (.int x3), some (.int x8), some (.int x4), j6] dX11_years_171 (by decide) rfl (by decide) ex8 rfl ?_
            refine r_goto (pc := 174) X 22 dX11_years_174 (by decide) ?_
            obtain rfl := Option.some.inj hf
            exact hk _ _ _
          · rw [if_neg c18] at hf
            refine r_iload_n (pc := 143) X dX11_years_143 rfl ?_
            obtain ⟨x9, ex9, hf⟩ := ob hf
            refine r_callSI (pc := 144) X [.int x3] dX11_years_144 ml_X11_462 so_X11_drawn ⟨Nat.le_refl _, Nat.le_refl _⟩ (ev_X11_drawn (d := d - 1) (by omega) _ _ _ ex9) hd1 rfl (Nat.le_of_ble_eq_true rfl) rfl ?_
            refine r_istore_n (pc := 147) X [some (.ref v0), j1, some (.int v2), some (.int x9), some (.int s.2.1), some (.int x4), j6] dX11_years_147 (by decide) rfl ?_
            refine r_aload_n (pc := 148) X dX11_years_148 rfl ?_
            obtain ⟨a10, ea10, hf⟩ := ob hf
            refine r_getR (pc := 149) X dX11_years_149 fl_X11_19 rfl ea10 ?_
            refine r_aload_n (pc := 152) X dX11_years_152 rfl ?_
            obtain ⟨a11, ea11, hf⟩ := ob hf
            refine r_getR (pc := 153) X dX11_years_153 fl_X11_68 rfl ea11 ?_
            refine r_iload_n (pc := 156) X dX11_years_156 rfl ?_
            refine r_aload_n (pc := 157) X dX11_years_157 rfl ?_
            obtain ⟨a12, ea12, hf⟩ := ob hf
            refine r_getR (pc := 158) X dX11_years_158 fl_X11_19 rfl ea12 ?_
            obtain ⟨x13, ex13, hf⟩ := ob hf
            refine r_getI (pc := 161) X dX11_years_161 fl_X11_132 rfl ex13 ?_
            obtain ⟨x14, ex14, hf⟩ := ob hf
            refine r_callSI (pc := 164) X [.int x9, .int x13] dX11_years_164 ml_X11_465 so_X11_picked ⟨Nat.le_refl _, Nat.le_refl _⟩ (ev_X11_picked (d := d - 1) (by omega) _ _ _ _ ex14) hd1 rfl (Nat.le_of_ble_eq_true rfl) rfl ?_
            obtain ⟨u15, eu15, hf⟩ := ob hf
            obtain ⟨o16, eo16, hf⟩ := ob hf
            refine r_callVI (pc := 167) X [.ref a11, .int x14] dX11_years_167 ml_X11_291 vo_X0_carry ⟨Nat.le_refl _, Nat.le_refl _⟩ eu15 (ev_X0_carry (d := d - 1) (by omega) _ _ _ _ _ eo16) hd1 rfl (Nat.le_of_ble_eq_true rfl) rfl ?_
            refine r_pop (pc := 170) X dX11_years_170 rfl ?_
            obtain ⟨x17, ex17, hf⟩ := ob hf
            refine r_iinc2 (pc := 171) X 1 [some (.ref v0), j1, some (.int v2), some (.int x9), some (.int x17), some (.int x4), j6] dX11_years_171 (by decide) rfl (by decide) ex17 rfl ?_
            refine r_goto (pc := 174) X 22 dX11_years_174 (by decide) ?_
            obtain rfl := Option.some.inj hf
            exact hk _ _ _
      · rw [if_pos c49] at hf
        refine r_aload_n (pc := 70) X dX11_years_70 rfl ?_
        obtain ⟨a20, ea20, hf⟩ := ob hf
        refine r_getR (pc := 71) X dX11_years_71 fl_X11_19 rfl ea20 ?_
        obtain ⟨x21, ex21, hf⟩ := ob hf
        refine r_getI (pc := 74) X dX11_years_74 fl_X11_113 rfl ex21 ?_
        refine r_if_le (pc := 77) X 127 dX11_years_77 (by decide) (fun c48 => ?_) (fun c48 => ?_)
        · rw [if_pos c48] at hf
          refine r_iload (pc := 127) X dX11_years_127 rfl ?_
          refine r_iconst (pc := 129) X 3 dX11_years_129 (by decide) ?_
          refine r_icmp_ne (pc := 130) X 171 dX11_years_130 (by decide) (fun c36 => ?_) (fun c36 => ?_)
          · rw [if_neg c36] at hf
            obtain ⟨x22, ex22, hf⟩ := ob hf
            refine r_iinc2 (pc := 171) X 1 [some (.ref v0), j1, some (.int v2), some (.int x3), some (.int x22), some (.int x4), j6] dX11_years_171 (by decide) rfl (by decide) ex22 rfl ?_
            refine r_goto (pc := 174) X 22 dX11_years_174 (by decide) ?_
            obtain rfl := Option.some.inj hf
            exact hk _ _ _
          · rw [if_pos c36] at hf
            refine r_aload_n (pc := 133) X dX11_years_133 rfl ?_
            obtain ⟨a23, ea23, hf⟩ := ob hf
            refine r_getR (pc := 134) X dX11_years_134 fl_X11_19 rfl ea23 ?_
            obtain ⟨x24, ex24, hf⟩ := ob hf
            refine r_getI (pc := 137) X dX11_years_137 fl_X11_132 rfl ex24 ?_
            refine r_if_le (pc := 140) X 171 dX11_years_140 (by decide) (fun c35 => ?_) (fun c35 => ?_)
            · rw [if_pos c35] at hf
              obtain ⟨x25, ex25, hf⟩ := ob hf
              refine r_iinc2 (pc := 171) X 1 [some (.ref v0), j1, some (.int v2), some (.int x3), some (.int x25), some (.int x4), j6] dX11_years_171 (by decide) rfl (by decide) ex25 rfl ?_
              refine r_goto (pc := 174) X 22 dX11_years_174 (by decide) ?_
              obtain rfl := Option.some.inj hf
              exact hk _ _ _
            · rw [if_neg c35] at hf
              refine r_iload_n (pc := 143) X dX11_years_143 rfl ?_
              obtain ⟨x26, ex26, hf⟩ := ob hf
              refine r_callSI (pc := 144) X [.int x3] dX11_years_144 ml_X11_462 so_X11_drawn ⟨Nat.le_refl _, Nat.le_refl _⟩ (ev_X11_drawn (d := d - 1) (by omega) _ _ _ ex26) hd1 rfl (Nat.le_of_ble_eq_true rfl) rfl ?_
              refine r_istore_n (pc := 147) X [some (.ref v0), j1, some (.int v2), some (.int x26), some (.int s.2.1), some (.int x4), j6] dX11_years_147 (by decide) rfl ?_
              refine r_aload_n (pc := 148) X dX11_years_148 rfl ?_
              obtain ⟨a27, ea27, hf⟩ := ob hf
              refine r_getR (pc := 149) X dX11_years_149 fl_X11_19 rfl ea27 ?_
              refine r_aload_n (pc := 152) X dX11_years_152 rfl ?_
              obtain ⟨a28, ea28, hf⟩ := ob hf
              refine r_getR (pc := 153) X dX11_years_153 fl_X11_68 rfl ea28 ?_
              refine r_iload_n (pc := 156) X dX11_years_156 rfl ?_
              refine r_aload_n (pc := 157) X dX11_years_157 rfl ?_
              obtain ⟨a29, ea29, hf⟩ := ob hf
              refine r_getR (pc := 158) X dX11_years_158 fl_X11_19 rfl ea29 ?_
              obtain ⟨x30, ex30, hf⟩ := ob hf
              refine r_getI (pc := 161) X dX11_years_161 fl_X11_132 rfl ex30 ?_
              obtain ⟨x31, ex31, hf⟩ := ob hf
              refine r_callSI (pc := 164) X [.int x26, .int x30] dX11_years_164 ml_X11_465 so_X11_picked ⟨Nat.le_refl _, Nat.le_refl _⟩ (ev_X11_picked (d := d - 1) (by omega) _ _ _ _ ex31) hd1 rfl (Nat.le_of_ble_eq_true rfl) rfl ?_
              obtain ⟨u32, eu32, hf⟩ := ob hf
              obtain ⟨o33, eo33, hf⟩ := ob hf
              refine r_callVI (pc := 167) X [.ref a28, .int x31] dX11_years_167 ml_X11_291 vo_X0_carry ⟨Nat.le_refl _, Nat.le_refl _⟩ eu32 (ev_X0_carry (d := d - 1) (by omega) _ _ _ _ _ eo33) hd1 rfl (Nat.le_of_ble_eq_true rfl) rfl ?_
              refine r_pop (pc := 170) X dX11_years_170 rfl ?_
              obtain ⟨x34, ex34, hf⟩ := ob hf
              refine r_iinc2 (pc := 171) X 1 [some (.ref v0), j1, some (.int v2), some (.int x26), some (.int x34), some (.int x4), j6] dX11_years_171 (by decide) rfl (by decide) ex34 rfl ?_
              refine r_goto (pc := 174) X 22 dX11_years_174 (by decide) ?_
              obtain rfl := Option.some.inj hf
              exact hk _ _ _
        · rw [if_neg c48] at hf
          refine r_iload_n (pc := 80) X dX11_years_80 rfl ?_
          obtain ⟨x37, ex37, hf⟩ := ob hf
          refine r_callSI (pc := 81) X [.int x3] dX11_years_81 ml_X11_462 so_X11_drawn ⟨Nat.le_refl _, Nat.le_refl _⟩ (ev_X11_drawn (d := d - 1) (by omega) _ _ _ ex37) hd1 rfl (Nat.le_of_ble_eq_true rfl) rfl ?_
          refine r_istore_n (pc := 84) X [some (.ref v0), j1, some (.int v2), some (.int x37), some (.int s.2.1), some (.int x4), j6] dX11_years_84 (by decide) rfl ?_
          refine r_iload_n (pc := 85) X dX11_years_85 rfl ?_
          refine r_aload_n (pc := 86) X dX11_years_86 rfl ?_
          obtain ⟨a38, ea38, hf⟩ := ob hf
          refine r_getR (pc := 87) X dX11_years_87 fl_X11_19 rfl ea38 ?_
          obtain ⟨x39, ex39, hf⟩ := ob hf
          refine r_getI (pc := 90) X dX11_years_90 fl_X11_113 rfl ex39 ?_
          obtain ⟨x40, ex40, hf⟩ := ob hf
          refine r_callSI (pc := 93) X [.int x37, .int x39] dX11_years_93 ml_X11_465 so_X11_picked ⟨Nat.le_refl _, Nat.le_refl _⟩ (ev_X11_picked (d := d - 1) (by omega) _ _ _ _ ex40) hd1 rfl (Nat.le_of_ble_eq_true rfl) rfl ?_
          refine r_istore (pc := 96) X [some (.ref v0), j1, some (.int v2), some (.int x37), some (.int s.2.1), some (.int x4), some (.int x40)] dX11_years_96 (by decide) rfl ?_
          refine r_iload_n (pc := 98) X dX11_years_98 rfl ?_
          obtain ⟨x41, ex41, hf⟩ := ob hf
          refine r_callSI (pc := 99) X [.int x37] dX11_years_99 ml_X11_462 so_X11_drawn ⟨Nat.le_refl _, Nat.le_refl _⟩ (ev_X11_drawn (d := d - 1) (by omega) _ _ _ ex41) hd1 rfl (Nat.le_of_ble_eq_true rfl) rfl ?_
          refine r_istore_n (pc := 102) X [some (.ref v0), j1, some (.int v2), some (.int x41), some (.int s.2.1), some (.int x4), some (.int x40)] dX11_years_102 (by decide) rfl ?_
          refine r_aload_n (pc := 103) X dX11_years_103 rfl ?_
          obtain ⟨a42, ea42, hf⟩ := ob hf
          refine r_getR (pc := 104) X dX11_years_104 fl_X11_19 rfl ea42 ?_
          refine r_aload_n (pc := 107) X dX11_years_107 rfl ?_
          obtain ⟨a43, ea43, hf⟩ := ob hf
          refine r_getR (pc := 108) X dX11_years_108 fl_X11_68 rfl ea43 ?_
          refine r_iload (pc := 111) X dX11_years_111 rfl ?_
          refine r_iload_n (pc := 113) X dX11_years_113 rfl ?_
          refine r_iconst (pc := 114) X 3 dX11_years_114 (by decide) ?_
          obtain ⟨x44, ex44, hf⟩ := ob hf
          refine r_callSI (pc := 115) X [.int x41, .int 3] dX11_years_115 ml_X11_465 so_X11_picked ⟨Nat.le_refl _, Nat.le_refl _⟩ (ev_X11_picked (d := d - 1) (by omega) _ _ _ _ ex44) hd1 rfl (Nat.le_of_ble_eq_true rfl) rfl ?_
          refine r_iconst (pc := 118) X 1 dX11_years_118 (by decide) ?_
          refine r_iadd (pc := 119) X dX11_years_119 ?_
          obtain ⟨u45, eu45, hf⟩ := ob hf
          obtain ⟨o46, eo46, hf⟩ := ob hf
          refine r_callVI (pc := 120) X [.ref a43, .int x40, .int (x44 + 1)] dX11_years_120 ml_X11_287 vo_X0_fill ⟨Nat.le_refl _, Nat.le_refl _⟩ eu45 (ev_X0_fill (d := d - 1) (by omega) _ _ _ _ _ _ eo46) hd1 rfl (Nat.le_of_ble_eq_true rfl) rfl ?_
          refine r_pop (pc := 123) X dX11_years_123 rfl ?_
          refine r_goto (pc := 124) X 171 dX11_years_124 (by decide) ?_
          obtain ⟨x47, ex47, hf⟩ := ob hf
          refine r_iinc2 (pc := 171) X 1 [some (.ref v0), j1, some (.int v2), some (.int x41), some (.int x47), some (.int x4), some (.int x40)] dX11_years_171 (by decide) rfl (by decide) ex47 rfl ?_
          refine r_goto (pc := 174) X 22 dX11_years_174 (by decide) ?_
          obtain rfl := Option.some.inj hf
          exact hk _ _ _
    · rw [if_pos c56] at hf
      refine r_aload_n (pc := 46) X dX11_years_46 rfl ?_
      obtain ⟨a50, ea50, hf⟩ := ob hf
      refine r_getR (pc := 47) X dX11_years_47 fl_X11_19 rfl ea50 ?_
      refine r_aload_n (pc := 50) X dX11_years_50 rfl ?_
      obtain ⟨a51, ea51, hf⟩ := ob hf
      refine r_getR (pc := 51) X dX11_years_51 fl_X11_68 rfl ea51 ?_
      refine r_aload_n (pc := 54) X dX11_years_54 rfl ?_
      obtain ⟨a52, ea52, hf⟩ := ob hf
      refine r_getR (pc := 55) X dX11_years_55 fl_X11_42 rfl ea52 ?_
      obtain ⟨u53, eu53, hf⟩ := ob hf
      obtain ⟨h54, eh54, hf⟩ := ob hf
      refine r_callVV (pc := 58) X [.ref a51, .ref a52] dX11_years_58 ml_X11_283 vo_X0_pass ⟨Nat.le_refl _, Nat.le_refl _⟩ eu53 (ev_X0_pass (d := d - 1) (by omega) _ _ _ _ _ eh54) hd1 rfl (Nat.le_of_ble_eq_true rfl) rfl ?_
      refine r_goto (pc := 61) X 171 dX11_years_61 (by decide) ?_
      obtain ⟨x55, ex55, hf⟩ := ob hf
      refine r_iinc2 (pc := 171) X 1 [some (.ref v0), j1, some (.int v2), some (.int x3), some (.int x55), some (.int x4), j6] dX11_years_171 (by decide) rfl (by decide) ex55 rfl ?_
      refine r_goto (pc := 174) X 22 dX11_years_174 (by decide) ?_
      obtain rfl := Option.some.inj hf
      exact hk _ _ _
def fn_X11_years (h : aH) (p0 : Nat) (p1 : Int32) (p2 : Int32) : Option (Int32 × aH) :=
  if p2 < 1 then
    some ((-1), h)
  else
    if p2 ≤ 60 then
      (ck h p0 10).bind fun u1 =>
      (fn_X11_startTrial h p0).bind fun h2 =>
      (lp (lb_X11_years_22 p0 p2) lpN (p1, 0, h2)).bind fun o58 =>
      (gR o58 p0 10 11).bind fun a64 =>
      (ck o58 a64 2).bind fun u65 =>
      (fn_X3_begin o58 a64).bind fun h66 =>
      (gR h66 p0 10 11).bind fun a67 =>
      (gR h66 p0 10 1).bind fun a68 =>
      (gI h66 a68 0 8).bind fun x69 =>
      (ck h66 a67 2).bind fun u70 =>
      (fn_X3_add h66 a67 (Int32.toInt64 x69)).bind fun h71 =>
      (gR h71 p0 10 11).bind fun a72 =>
      (gR h71 p0 10 1).bind fun a73 =>
      (gI h71 a73 0 9).bind fun x74 =>
      (ck h71 a72 2).bind fun u75 =>
      (fn_X3_add h71 a72 (Int32.toInt64 x74)).bind fun h76 =>
      (gR h76 p0 10 9).bind fun a77 =>
      (ck h76 p0 10).bind fun u78 =>
      (fn_X11_together h76 p0 a77).bind fun x79 =>
      some (x79, h76)
    else
      some ((-1), h)
set_option maxRecDepth 20000 in
set_option maxHeartbeats 4000000 in
theorem ev_X11_years {l : Launch} {g : aG} {d : Nat} (hd : 4 ≤ d) (h : aH) (p0 : Nat) (p1 : Int32) (p2 : Int32) (o : Int32 × aH) (hf : fn_X11_years h p0 p1 p2 = some o) : EvM l g d yX11_years cX11_years 7 (some .int) [.ref p0, .int p1, .int p2] h (some (.int o.1), o.2) := by
  refine EvM.of mk_X11_years (Nat.le_of_ble_eq_true rfl) ?_
  intro Γ hl hg hq X
  have hd1 : 1 ≤ d := by omega
  have hk : RqI Γ o := hq
  unfold fn_X11_years at hf
  show Jd Γ (0, 0) 0 [some (.ref p0), some (.int p1), some (.int p2), none, none, none, none] [] h
  refine r_iload_n (pc := 0) X dX11_years_0 rfl ?_
  refine r_iconst (pc := 1) X 1 dX11_years_1 (by decide) ?_
  refine r_icmp_lt (pc := 2) X 11 dX11_years_2 (by decide) (fun c81 => ?_) (fun c81 => ?_)
  · rw [if_pos c81] at hf
    refine r_iconst (pc := 11) X (-1) dX11_years_11 (by decide) ?_
    obtain rfl := Option.some.inj hf
    exact r_iret (pc := 12) X dX11_years_12 hk
  · rw [if_neg c81] at hf
    refine r_iload_n (pc := 5) X dX11_years_5 rfl ?_
    refine r_bipush (pc := 6) X 60 dX11_years_6 (by decide) ?_
    refine r_icmp_le (pc := 8) X 13 dX11_years_8 (by decide) (fun c80 => ?_) (fun c80 => ?_)
    · rw [if_pos c80] at hf
      refine r_aload_n (pc := 13) X dX11_years_13 rfl ?_
      obtain ⟨u1, eu1, hf⟩ := ob hf
      obtain ⟨h2, eh2, hf⟩ := ob hf
      refine r_callVV (pc := 14) X [] dX11_years_14 ml_X11_309 vo_X11_startTrial ⟨Nat.le_refl _, Nat.le_refl _⟩ eu1 (ev_X11_startTrial (d := d - 1) (by omega) _ _ _ eh2) hd1 rfl (Nat.le_of_ble_eq_true rfl) rfl ?_
      refine r_iload_n (pc := 17) X dX11_years_17 rfl ?_
      refine r_istore_n (pc := 18) X [some (.ref p0), some (.int p1), some (.int p2), some (.int p1), none, none, none] dX11_years_18 (by decide) rfl ?_
      refine r_iconst (pc := 19) X 0 dX11_years_19 (by decide) ?_
      refine r_istore (pc := 20) X [some (.ref p0), some (.int p1), some (.int p2), some (.int p1), some (.int 0), none, none] dX11_years_20 (by decide) rfl ?_
      obtain ⟨o58, eo58, hf⟩ := ob hf
      refine (lw_X11_years_22 X hd _ _ lpN _ o58 eo58 ?_) _ _ _
      intro j59 j60 j61 j62 j63
      refine r_aload_n (pc := 177) X dX11_years_177 rfl ?_
      obtain ⟨a64, ea64, hf⟩ := ob hf
      refine r_getR (pc := 178) X dX11_years_178 fl_X11_81 rfl ea64 ?_
      obtain ⟨u65, eu65, hf⟩ := ob hf
      obtain ⟨h66, eh66, hf⟩ := ob hf
      refine r_callVV (pc := 181) X [] dX11_years_181 ml_X11_242 vo_X3_begin ⟨Nat.le_refl _, Nat.le_refl _⟩ eu65 (ev_X3_begin (d := d - 1) (by omega) _ _ _ eh66) hd1 rfl (Nat.le_of_ble_eq_true rfl) rfl ?_
      refine r_aload_n (pc := 184) X dX11_years_184 rfl ?_
      obtain ⟨a67, ea67, hf⟩ := ob hf
      refine r_getR (pc := 185) X dX11_years_185 fl_X11_81 rfl ea67 ?_
      refine r_aload_n (pc := 188) X dX11_years_188 rfl ?_
      obtain ⟨a68, ea68, hf⟩ := ob hf
      refine r_getR (pc := 189) X dX11_years_189 fl_X11_19 rfl ea68 ?_
      obtain ⟨x69, ex69, hf⟩ := ob hf
      refine r_getI (pc := 192) X dX11_years_192 fl_X11_245 rfl ex69 ?_
      refine r_i2l (pc := 195) X dX11_years_195 ?_
      obtain ⟨u70, eu70, hf⟩ := ob hf
      obtain ⟨h71, eh71, hf⟩ := ob hf
      refine r_callVV (pc := 196) X [.long (Int32.toInt64 x69)] dX11_years_196 ml_X11_248 vo_X3_add ⟨Nat.le_refl _, Nat.le_refl _⟩ eu70 (ev_X3_add (d := d - 1) (by omega) _ _ _ _ eh71) hd1 rfl (Nat.le_of_ble_eq_true rfl) rfl ?_
      refine r_aload_n (pc := 199) X dX11_years_199 rfl ?_
      obtain ⟨a72, ea72, hf⟩ := ob hf
      refine r_getR (pc := 200) X dX11_years_200 fl_X11_81 rfl ea72 ?_
      refine r_aload_n (pc := 203) X dX11_years_203 rfl ?_
      obtain ⟨a73, ea73, hf⟩ := ob hf
      refine r_getR (pc := 204) X dX11_years_204 fl_X11_19 rfl ea73 ?_
      obtain ⟨x74, ex74, hf⟩ := ob hf
      refine r_getI (pc := 207) X dX11_years_207 fl_X11_252 rfl ex74 ?_
      refine r_i2l (pc := 210) X dX11_years_210 ?_
      obtain ⟨u75, eu75, hf⟩ := ob hf
      obtain ⟨h76, eh76, hf⟩ := ob hf
      refine r_callVV (pc := 211) X [.long (Int32.toInt64 x74)] dX11_years_211 ml_X11_248 vo_X3_add ⟨Nat.le_refl _, Nat.le_refl _⟩ eu75 (ev_X3_add (d := d - 1) (by omega) _ _ _ _ eh76) hd1 rfl (Nat.le_of_ble_eq_true rfl) rfl ?_
      refine r_aload_n (pc := 214) X dX11_years_214 rfl ?_
      refine r_aload_n (pc := 215) X dX11_years_215 rfl ?_
      obtain ⟨a77, ea77, hf⟩ := ob hf
      refine r_getR (pc := 216) X dX11_years_216 fl_X11_68 rfl ea77 ?_
      obtain ⟨u78, eu78, hf⟩ := ob hf
      obtain ⟨x79, ex79, hf⟩ := ob hf
      refine r_callVI (pc := 219) X [.ref a77] dX11_years_219 ml_X11_226 vo_X11_together ⟨Nat.le_refl _, Nat.le_refl _⟩ eu78 (ev_X11_together (d := d - 1) (by omega) _ _ _ _ ex79) hd1 rfl (Nat.le_of_ble_eq_true rfl) rfl ?_
      obtain rfl := Option.some.inj hf
      exact r_iret (pc := 222) X dX11_years_222 hk
    · rw [if_neg c80] at hf
      refine r_iconst (pc := 11) X (-1) dX11_years_11 (by decide) ?_
      obtain rfl := Option.some.inj hf
      exact r_iret (pc := 12) X dX11_years_12 hk

theorem dX11_keep_0 : decode cX11_keep 0 = .ok (.aload_n 0, 1) := by decide +kernel
theorem dX11_keep_1 : decode cX11_keep 1 = .ok (.getfield 74, 3) := by decide +kernel
theorem dX11_keep_4 : decode cX11_keep 4 = .ok (.iload_n 1, 1) := by decide +kernel
theorem dX11_keep_5 : decode cX11_keep 5 = .ok (.aload_n 0, 1) := by decide +kernel
theorem dX11_keep_6 : decode cX11_keep 6 = .ok (.getfield 61, 3) := by decide +kernel
theorem dX11_keep_9 : decode cX11_keep 9 = .ok (.invokevirtual 469, 3) := by decide +kernel
theorem dX11_keep_12 : decode cX11_keep 12 = .ok (.ireturn, 1) := by decide +kernel
def fn_X11_keep (h : aH) (p0 : Nat) (p1 : Int32) : Option (Int32 × aH) :=
  (gR h p0 10 10).bind fun a1 =>
  (gR h p0 10 7).bind fun a2 =>
  (ck h a1 1).bind fun u3 =>
  (fn_X2_keepUnder h a1 p1 a2).bind fun o4 =>
  (bz o4.1).bind fun x5 =>
  some (x5, o4.2)
set_option maxRecDepth 20000 in
set_option maxHeartbeats 4000000 in
theorem ev_X11_keep {l : Launch} {g : aG} {d : Nat} (hd : 3 ≤ d) (h : aH) (p0 : Nat) (p1 : Int32) (o : Int32 × aH) (hf : fn_X11_keep h p0 p1 = some o) : EvM l g d yX11_keep cX11_keep 2 (some .boolean) [.ref p0, .int p1] h (some (.int o.1), o.2) := by
  refine EvM.of mk_X11_keep (Nat.le_of_ble_eq_true rfl) ?_
  intro Γ hl hg hq X
  have hd1 : 1 ≤ d := by omega
  have hk : RqI Γ o := hq
  unfold fn_X11_keep at hf
  show Jd Γ (0, 0) 0 [some (.ref p0), some (.int p1)] [] h
  refine r_aload_n (pc := 0) X dX11_keep_0 rfl ?_
  obtain ⟨a1, ea1, hf⟩ := ob hf
  refine r_getR (pc := 1) X dX11_keep_1 fl_X11_74 rfl ea1 ?_
  refine r_iload_n (pc := 4) X dX11_keep_4 rfl ?_
  refine r_aload_n (pc := 5) X dX11_keep_5 rfl ?_
  obtain ⟨a2, ea2, hf⟩ := ob hf
  refine r_getR (pc := 6) X dX11_keep_6 fl_X11_61 rfl ea2 ?_
  obtain ⟨u3, eu3, hf⟩ := ob hf
  obtain ⟨o4, eo4, hf⟩ := ob hf
  refine r_callVI (pc := 9) X [.int p1, .ref a2] dX11_keep_9 ml_X11_469 vo_X2_keepUnder ⟨Nat.le_refl _, Nat.le_refl _⟩ eu3 (ev_X2_keepUnder (d := d - 1) (by omega) _ _ _ _ _ eo4) hd1 rfl (Nat.le_of_ble_eq_true rfl) rfl ?_
  obtain ⟨x5, ex5, hf⟩ := ob hf
  obtain rfl := Option.some.inj hf
  exact r_zretB (pc := 12) X dX11_keep_12 ex5 hk

theorem dX11_again_0 : decode cX11_again 0 = .ok (.aload_n 0, 1) := by decide +kernel
theorem dX11_again_1 : decode cX11_again 1 = .ok (.getfield 74, 3) := by decide +kernel
theorem dX11_again_4 : decode cX11_again 4 = .ok (.iload_n 1, 1) := by decide +kernel
theorem dX11_again_5 : decode cX11_again 5 = .ok (.aload_n 0, 1) := by decide +kernel
theorem dX11_again_6 : decode cX11_again 6 = .ok (.getfield 61, 3) := by decide +kernel
theorem dX11_again_9 : decode cX11_again 9 = .ok (.invokevirtual 473, 3) := by decide +kernel
theorem dX11_again_12 : decode cX11_again 12 = .ok (.ireturn, 1) := by decide +kernel
def fn_X11_again (h : aH) (p0 : Nat) (p1 : Int32) : Option (Int32 × aH) :=
  (gR h p0 10 10).bind fun a1 =>
  (gR h p0 10 7).bind fun a2 =>
  (ck h a1 1).bind fun u3 =>
  (fn_X2_bringBack h a1 p1 a2).bind fun o4 =>
  (bz o4.1).bind fun x5 =>
  some (x5, o4.2)
set_option maxRecDepth 20000 in
set_option maxHeartbeats 4000000 in
theorem ev_X11_again {l : Launch} {g : aG} {d : Nat} (hd : 3 ≤ d) (h : aH) (p0 : Nat) (p1 : Int32) (o : Int32 × aH) (hf : fn_X11_again h p0 p1 = some o) : EvM l g d yX11_again cX11_again 2 (some .boolean) [.ref p0, .int p1] h (some (.int o.1), o.2) := by
  refine EvM.of mk_X11_again (Nat.le_of_ble_eq_true rfl) ?_
  intro Γ hl hg hq X
  have hd1 : 1 ≤ d := by omega
  have hk : RqI Γ o := hq
  unfold fn_X11_again at hf
  show Jd Γ (0, 0) 0 [some (.ref p0), some (.int p1)] [] h
  refine r_aload_n (pc := 0) X dX11_again_0 rfl ?_
  obtain ⟨a1, ea1, hf⟩ := ob hf
  refine r_getR (pc := 1) X dX11_again_1 fl_X11_74 rfl ea1 ?_
  refine r_iload_n (pc := 4) X dX11_again_4 rfl ?_
  refine r_aload_n (pc := 5) X dX11_again_5 rfl ?_
  obtain ⟨a2, ea2, hf⟩ := ob hf
  refine r_getR (pc := 6) X dX11_again_6 fl_X11_61 rfl ea2 ?_
  obtain ⟨u3, eu3, hf⟩ := ob hf
  obtain ⟨o4, eo4, hf⟩ := ob hf
  refine r_callVI (pc := 9) X [.int p1, .ref a2] dX11_again_9 ml_X11_473 vo_X2_bringBack ⟨Nat.le_refl _, Nat.le_refl _⟩ eu3 (ev_X2_bringBack (d := d - 1) (by omega) _ _ _ _ _ eo4) hd1 rfl (Nat.le_of_ble_eq_true rfl) rfl ?_
  obtain ⟨x5, ex5, hf⟩ := ob hf
  obtain rfl := Option.some.inj hf
  exact r_zretB (pc := 12) X dX11_again_12 ex5 hk

theorem dX11_marksTogether_0 : decode cX11_marksTogether 0 = .ok (.iconst 0, 1) := by decide +kernel
theorem dX11_marksTogether_1 : decode cX11_marksTogether 1 = .ok (.istore_n 1, 1) := by decide +kernel
theorem dX11_marksTogether_2 : decode cX11_marksTogether 2 = .ok (.iconst 0, 1) := by decide +kernel
theorem dX11_marksTogether_3 : decode cX11_marksTogether 3 = .ok (.istore_n 2, 1) := by decide +kernel
theorem dX11_marksTogether_4 : decode cX11_marksTogether 4 = .ok (.iload_n 2, 1) := by decide +kernel
theorem dX11_marksTogether_5 : decode cX11_marksTogether 5 = .ok (.aload_n 0, 1) := by decide +kernel
theorem dX11_marksTogether_6 : decode cX11_marksTogether 6 = .ok (.getfield 19, 3) := by decide +kernel
theorem dX11_marksTogether_9 : decode cX11_marksTogether 9 = .ok (.getfield 113, 3) := by decide +kernel
theorem dX11_marksTogether_12 : decode cX11_marksTogether 12 = .ok (.if_icmp .ge 21, 3) := by decide +kernel
theorem dX11_marksTogether_15 : decode cX11_marksTogether 15 = .ok (.iload_n 1, 1) := by decide +kernel
theorem dX11_marksTogether_16 : decode cX11_marksTogether 16 = .ok (.aload_n 0, 1) := by decide +kernel
theorem dX11_marksTogether_17 : decode cX11_marksTogether 17 = .ok (.getfield 61, 3) := by decide +kernel
theorem dX11_marksTogether_20 : decode cX11_marksTogether 20 = .ok (.getfield 157, 3) := by decide +kernel
theorem dX11_marksTogether_23 : decode cX11_marksTogether 23 = .ok (.iload_n 2, 1) := by decide +kernel
theorem dX11_marksTogether_24 : decode cX11_marksTogether 24 = .ok (.iaload, 1) := by decide +kernel
theorem dX11_marksTogether_25 : decode cX11_marksTogether 25 = .ok (.iadd, 1) := by decide +kernel
theorem dX11_marksTogether_26 : decode cX11_marksTogether 26 = .ok (.istore_n 1, 1) := by decide +kernel
theorem dX11_marksTogether_27 : decode cX11_marksTogether 27 = .ok (.iinc 2 1, 3) := by decide +kernel
theorem dX11_marksTogether_30 : decode cX11_marksTogether 30 = .ok (.goto (-26), 3) := by decide +kernel
theorem dX11_marksTogether_33 : decode cX11_marksTogether 33 = .ok (.iload_n 1, 1) := by decide +kernel
theorem dX11_marksTogether_34 : decode cX11_marksTogether 34 = .ok (.ireturn, 1) := by decide +kernel
def lb_X11_marksTogether_4 (hh : aH) (v0 : Nat) (s : Int32 × Int32) : Option ((Int32 × Int32) ⊕ ((Int32))) :=
  (gR hh v0 10 1).bind fun a1 =>
  (gI hh a1 0 0).bind fun x2 =>
  if s.2 < x2 then
    (gR hh v0 10 7).bind fun a3 =>
    (gR hh a3 6 1).bind fun a4 =>
    (aI hh a4 14 s.2).bind fun x5 =>
    (some (s.1 + x5)).bind fun x6 =>
    (some (s.2 + 1)).bind fun x7 =>
    some (.inl (x6, x7))
  else
    some (.inr s.1)
def hd_X11_marksTogether_4 (Γ : aC) (hh : aH) (v0 : Nat) (s : Int32 × Int32) : Prop := Jd Γ (0, 0) 4 [some (.ref v0), some (.int s.1), some (.int s.2)] [] hh
def ex_X11_marksTogether_4 (Γ : aC) (hh : aH) (v0 : Nat) (r : (Int32)) : Prop := (fun r => RpI hh Γ r) r
set_option maxRecDepth 20000 in
set_option maxHeartbeats 4000000 in
theorem lw_X11_marksTogether_4 {Γ : aC} {d : Nat} (X : Cx Γ RX11 cX11_marksTogether 3 (some .int) (d, 0, 0)) (hd : 0 ≤ d) (hh : aH) (v0 : Nat) : ∀ n s o, lp (lb_X11_marksTogether_4 hh v0) n s = some o → ex_X11_marksTogether_4 Γ hh v0 o → hd_X11_marksTogether_4 Γ hh v0 s := by
  have hd1 : 0 ≤ d := by omega
  refine J_lp _ _ _ ?_
  intro s o hf hk
  unfold lb_X11_marksTogether_4 at hf
  refine r_iload_n (pc := 4) X dX11_marksTogether_4 rfl ?_
  refine r_aload_n (pc := 5) X dX11_marksTogether_5 rfl ?_
  obtain ⟨a1, ea1, hf⟩ := ob hf
  refine r_getR (pc := 6) X dX11_marksTogether_6 fl_X11_19 rfl ea1 ?_
  obtain ⟨x2, ex2, hf⟩ := ob hf
  refine r_getI (pc := 9) X dX11_marksTogether_9 fl_X11_113 rfl ex2 ?_
  refine r_icmp_ge (pc := 12) X 33 dX11_marksTogether_12 (by decide) (fun c8 => ?_) (fun c8 => ?_)
  · rw [if_neg c8] at hf
    refine r_iload_n (pc := 33) X dX11_marksTogether_33 rfl ?_
    obtain rfl := Option.some.inj hf
    exact r_iret (pc := 34) X dX11_marksTogether_34 hk
  · rw [if_pos c8] at hf
    refine r_iload_n (pc := 15) X dX11_marksTogether_15 rfl ?_
    refine r_aload_n (pc := 16) X dX11_marksTogether_16 rfl ?_
    obtain ⟨a3, ea3, hf⟩ := ob hf
    refine r_getR (pc := 17) X dX11_marksTogether_17 fl_X11_61 rfl ea3 ?_
    obtain ⟨a4, ea4, hf⟩ := ob hf
    refine r_getR (pc := 20) X dX11_marksTogether_20 fl_X11_157 rfl ea4 ?_
    refine r_iload_n (pc := 23) X dX11_marksTogether_23 rfl ?_
    obtain ⟨x5, ex5, hf⟩ := ob hf
    refine r_iald (pc := 24) X dX11_marksTogether_24 ex5 ?_
    refine r_iadd (pc := 25) X dX11_marksTogether_25 ?_
    obtain ⟨x6, ex6, hf⟩ := ob hf
    refine r_nmI ex6 ?_
    refine r_istore_n (pc := 26) X [some (.ref v0), some (.int x6), some (.int s.2)] dX11_marksTogether_26 (by decide) rfl ?_
    obtain ⟨x7, ex7, hf⟩ := ob hf
    refine r_iinc2 (pc := 27) X 1 [some (.ref v0), some (.int x6), some (.int x7)] dX11_marksTogether_27 (by decide) rfl (by decide) ex7 rfl ?_
    refine r_goto (pc := 30) X 4 dX11_marksTogether_30 (by decide) ?_
    obtain rfl := Option.some.inj hf
    exact hk
def fn_X11_marksTogether (h : aH) (p0 : Nat) : Option (Int32) :=
  (lp (lb_X11_marksTogether_4 h p0) lpN (0, 0)).bind fun o9 =>
  some o9
set_option maxRecDepth 20000 in
set_option maxHeartbeats 4000000 in
theorem ev_X11_marksTogether {l : Launch} {g : aG} {d : Nat} (hd : 0 ≤ d) (h : aH) (p0 : Nat) (o : Int32) (hf : fn_X11_marksTogether h p0 = some o) : EvM l g d yX11_marksTogether cX11_marksTogether 3 (some .int) [.ref p0] h (some (.int o), h) := by
  refine EvM.of mk_X11_marksTogether (Nat.le_of_ble_eq_true rfl) ?_
  intro Γ hl hg hq X
  have hd1 : 0 ≤ d := by omega
  have hk : RpI h Γ o := hq
  unfold fn_X11_marksTogether at hf
  show Jd Γ (0, 0) 0 [some (.ref p0), none, none] [] h
  refine r_iconst (pc := 0) X 0 dX11_marksTogether_0 (by decide) ?_
  refine r_istore_n (pc := 1) X [some (.ref p0), some (.int 0), none] dX11_marksTogether_1 (by decide) rfl ?_
  refine r_iconst (pc := 2) X 0 dX11_marksTogether_2 (by decide) ?_
  refine r_istore_n (pc := 3) X [some (.ref p0), some (.int 0), some (.int 0)] dX11_marksTogether_3 (by decide) rfl ?_
  obtain ⟨o9, eo9, hf⟩ := ob hf
  refine (lw_X11_marksTogether_4 X hd _ _ lpN _ o9 eo9 ?_)
  obtain rfl := Option.some.inj hf
  exact hk

theorem dX11_basinsAtMark_0 : decode cX11_basinsAtMark 0 = .ok (.iconst 0, 1) := by decide +kernel
theorem dX11_basinsAtMark_1 : decode cX11_basinsAtMark 1 = .ok (.istore_n 1, 1) := by decide +kernel
theorem dX11_basinsAtMark_2 : decode cX11_basinsAtMark 2 = .ok (.iconst 0, 1) := by decide +kernel
theorem dX11_basinsAtMark_3 : decode cX11_basinsAtMark 3 = .ok (.istore_n 2, 1) := by decide +kernel
theorem dX11_basinsAtMark_4 : decode cX11_basinsAtMark 4 = .ok (.iload_n 2, 1) := by decide +kernel
theorem dX11_basinsAtMark_5 : decode cX11_basinsAtMark 5 = .ok (.aload_n 0, 1) := by decide +kernel
theorem dX11_basinsAtMark_6 : decode cX11_basinsAtMark 6 = .ok (.getfield 19, 3) := by decide +kernel
theorem dX11_basinsAtMark_9 : decode cX11_basinsAtMark 9 = .ok (.getfield 113, 3) := by decide +kernel
theorem dX11_basinsAtMark_12 : decode cX11_basinsAtMark 12 = .ok (.if_icmp .ge 30, 3) := by decide +kernel
theorem dX11_basinsAtMark_15 : decode cX11_basinsAtMark 15 = .ok (.iload_n 1, 1) := by decide +kernel
theorem dX11_basinsAtMark_16 : decode cX11_basinsAtMark 16 = .ok (.aload_n 0, 1) := by decide +kernel
theorem dX11_basinsAtMark_17 : decode cX11_basinsAtMark 17 = .ok (.getfield 61, 3) := by decide +kernel
theorem dX11_basinsAtMark_20 : decode cX11_basinsAtMark 20 = .ok (.iload_n 2, 1) := by decide +kernel
theorem dX11_basinsAtMark_21 : decode cX11_basinsAtMark 21 = .ok (.invokevirtual 316, 3) := by decide +kernel
theorem dX11_basinsAtMark_24 : decode cX11_basinsAtMark 24 = .ok (.ifCond .eq 9, 3) := by decide +kernel
theorem dX11_basinsAtMark_27 : decode cX11_basinsAtMark 27 = .ok (.iconst 1, 1) := by decide +kernel
theorem dX11_basinsAtMark_28 : decode cX11_basinsAtMark 28 = .ok (.iload_n 2, 1) := by decide +kernel
theorem dX11_basinsAtMark_29 : decode cX11_basinsAtMark 29 = .ok (.ishl, 1) := by decide +kernel
theorem dX11_basinsAtMark_30 : decode cX11_basinsAtMark 30 = .ok (.goto 4, 3) := by decide +kernel
theorem dX11_basinsAtMark_33 : decode cX11_basinsAtMark 33 = .ok (.iconst 0, 1) := by decide +kernel
theorem dX11_basinsAtMark_34 : decode cX11_basinsAtMark 34 = .ok (.ior, 1) := by decide +kernel
theorem dX11_basinsAtMark_35 : decode cX11_basinsAtMark 35 = .ok (.istore_n 1, 1) := by decide +kernel
theorem dX11_basinsAtMark_36 : decode cX11_basinsAtMark 36 = .ok (.iinc 2 1, 3) := by decide +kernel
theorem dX11_basinsAtMark_39 : decode cX11_basinsAtMark 39 = .ok (.goto (-35), 3) := by decide +kernel
theorem dX11_basinsAtMark_42 : decode cX11_basinsAtMark 42 = .ok (.iload_n 1, 1) := by decide +kernel
theorem dX11_basinsAtMark_43 : decode cX11_basinsAtMark 43 = .ok (.ireturn, 1) := by decide +kernel
def lb_X11_basinsAtMark_4 (hh : aH) (v0 : Nat) (s : Int32 × Int32) : Option ((Int32 × Int32) ⊕ ((Int32))) :=
  (gR hh v0 10 1).bind fun a1 =>
  (gI hh a1 0 0).bind fun x2 =>
  if s.2 < x2 then
    (gR hh v0 10 7).bind fun a3 =>
    (ck hh a3 6).bind fun u4 =>
    (fn_X7_isAtMark hh a3 s.2).bind fun x5 =>
    if x5 = 0 then
      (some (s.1 ||| 0)).bind fun x6 =>
      (some (s.2 + 1)).bind fun x7 =>
      some (.inl (x6, x7))
    else
      (some (s.1 ||| (1 <<< (s.2 &&& 31)))).bind fun x8 =>
      (some (s.2 + 1)).bind fun x9 =>
      some (.inl (x8, x9))
  else
    some (.inr s.1)
def hd_X11_basinsAtMark_4 (Γ : aC) (hh : aH) (v0 : Nat) (s : Int32 × Int32) : Prop := Jd Γ (0, 0) 4 [some (.ref v0), some (.int s.1), some (.int s.2)] [] hh
def ex_X11_basinsAtMark_4 (Γ : aC) (hh : aH) (v0 : Nat) (r : (Int32)) : Prop := (fun r => RpI hh Γ r) r
set_option maxRecDepth 20000 in
set_option maxHeartbeats 4000000 in
theorem lw_X11_basinsAtMark_4 {Γ : aC} {d : Nat} (X : Cx Γ RX11 cX11_basinsAtMark 3 (some .int) (d, 0, 0)) (hd : 1 ≤ d) (hh : aH) (v0 : Nat) : ∀ n s o, lp (lb_X11_basinsAtMark_4 hh v0) n s = some o → ex_X11_basinsAtMark_4 Γ hh v0 o → hd_X11_basinsAtMark_4 Γ hh v0 s := by
  have hd1 : 1 ≤ d := by omega
  refine J_lp _ _ _ ?_
  intro s o hf hk
  unfold lb_X11_basinsAtMark_4 at hf
  refine r_iload_n (pc := 4) X dX11_basinsAtMark_4 rfl ?_
  refine r_aload_n (pc := 5) X dX11_basinsAtMark_5 rfl ?_
  obtain ⟨a1, ea1, hf⟩ := ob hf
  refine r_getR (pc := 6) X dX11_basinsAtMark_6 fl_X11_19 rfl ea1 ?_
  obtain ⟨x2, ex2, hf⟩ := ob hf
  refine r_getI (pc := 9) X dX11_basinsAtMark_9 fl_X11_113 rfl ex2 ?_
  refine r_icmp_ge (pc := 12) X 42 dX11_basinsAtMark_12 (by decide) (fun c11 => ?_) (fun c11 => ?_)
  · rw [if_neg c11] at hf
    refine r_iload_n (pc := 42) X dX11_basinsAtMark_42 rfl ?_
    obtain rfl := Option.some.inj hf
    exact r_iret (pc := 43) X dX11_basinsAtMark_43 hk
  · rw [if_pos c11] at hf
    refine r_iload_n (pc := 15) X dX11_basinsAtMark_15 rfl ?_
    refine r_aload_n (pc := 16) X dX11_basinsAtMark_16 rfl ?_
    obtain ⟨a3, ea3, hf⟩ := ob hf
    refine r_getR (pc := 17) X dX11_basinsAtMark_17 fl_X11_61 rfl ea3 ?_
    refine r_iload_n (pc := 20) X dX11_basinsAtMark_20 rfl ?_
    obtain ⟨u4, eu4, hf⟩ := ob hf
    obtain ⟨x5, ex5, hf⟩ := ob hf
    refine r_callVI (pc := 21) X [.int s.2] dX11_basinsAtMark_21 ml_X11_316 vo_X7_isAtMark ⟨Nat.le_refl _, Nat.le_refl _⟩ eu4 (ev_X7_isAtMark (d := d - 1) (by omega) _ _ _ _ ex5) hd1 rfl (Nat.le_of_ble_eq_true rfl) rfl ?_
    refine r_if_eq (pc := 24) X 33 dX11_basinsAtMark_24 (by decide) (fun c10 => ?_) (fun c10 => ?_)
    · rw [if_pos c10] at hf
      refine r_iconst (pc := 33) X 0 dX11_basinsAtMark_33 (by decide) ?_
      refine r_ior (pc := 34) X dX11_basinsAtMark_34 ?_
      obtain ⟨x6, ex6, hf⟩ := ob hf
      refine r_nmI ex6 ?_
      refine r_istore_n (pc := 35) X [some (.ref v0), some (.int x6), some (.int s.2)] dX11_basinsAtMark_35 (by decide) rfl ?_
      obtain ⟨x7, ex7, hf⟩ := ob hf
      refine r_iinc2 (pc := 36) X 1 [some (.ref v0), some (.int x6), some (.int x7)] dX11_basinsAtMark_36 (by decide) rfl (by decide) ex7 rfl ?_
      refine r_goto (pc := 39) X 4 dX11_basinsAtMark_39 (by decide) ?_
      obtain rfl := Option.some.inj hf
      exact hk
    · rw [if_neg c10] at hf
      refine r_iconst (pc := 27) X 1 dX11_basinsAtMark_27 (by decide) ?_
      refine r_iload_n (pc := 28) X dX11_basinsAtMark_28 rfl ?_
      refine r_ishl (pc := 29) X dX11_basinsAtMark_29 ?_
      refine r_goto (pc := 30) X 34 dX11_basinsAtMark_30 (by decide) ?_
      refine r_ior (pc := 34) X dX11_basinsAtMark_34 ?_
      obtain ⟨x8, ex8, hf⟩ := ob hf
      refine r_nmI ex8 ?_
      refine r_istore_n (pc := 35) X [some (.ref v0), some (.int x8), some (.int s.2)] dX11_basinsAtMark_35 (by decide) rfl ?_
      obtain ⟨x9, ex9, hf⟩ := ob hf
      refine r_iinc2 (pc := 36) X 1 [some (.ref v0), some (.int x8), some (.int x9)] dX11_basinsAtMark_36 (by decide) rfl (by decide) ex9 rfl ?_
      refine r_goto (pc := 39) X 4 dX11_basinsAtMark_39 (by decide) ?_
      obtain rfl := Option.some.inj hf
      exact hk
def fn_X11_basinsAtMark (h : aH) (p0 : Nat) : Option (Int32) :=
  (lp (lb_X11_basinsAtMark_4 h p0) lpN (0, 0)).bind fun o12 =>
  some o12
set_option maxRecDepth 20000 in
set_option maxHeartbeats 4000000 in
theorem ev_X11_basinsAtMark {l : Launch} {g : aG} {d : Nat} (hd : 1 ≤ d) (h : aH) (p0 : Nat) (o : Int32) (hf : fn_X11_basinsAtMark h p0 = some o) : EvM l g d yX11_basinsAtMark cX11_basinsAtMark 3 (some .int) [.ref p0] h (some (.int o), h) := by
  refine EvM.of mk_X11_basinsAtMark (Nat.le_of_ble_eq_true rfl) ?_
  intro Γ hl hg hq X
  have hd1 : 1 ≤ d := by omega
  have hk : RpI h Γ o := hq
  unfold fn_X11_basinsAtMark at hf
  show Jd Γ (0, 0) 0 [some (.ref p0), none, none] [] h
  refine r_iconst (pc := 0) X 0 dX11_basinsAtMark_0 (by decide) ?_
  refine r_istore_n (pc := 1) X [some (.ref p0), some (.int 0), none] dX11_basinsAtMark_1 (by decide) rfl ?_
  refine r_iconst (pc := 2) X 0 dX11_basinsAtMark_2 (by decide) ?_
  refine r_istore_n (pc := 3) X [some (.ref p0), some (.int 0), some (.int 0)] dX11_basinsAtMark_3 (by decide) rfl ?_
  obtain ⟨o12, eo12, hf⟩ := ob hf
  refine (lw_X11_basinsAtMark_4 X hd _ _ lpN _ o12 eo12 ?_)
  obtain rfl := Option.some.inj hf
  exact hk

theorem dX11_count_0 : decode cX11_count 0 = .ok (.iload_n 1, 1) := by decide +kernel
theorem dX11_count_1 : decode cX11_count 1 = .ok (.tableswitch 166 0 12 #[67, 75, 83, 91, 99, 108, 113, 121, 129, 134, 142, 150, 158], 67) := by decide +kernel
theorem dX11_count_68 : decode cX11_count 68 = .ok (.aload_n 0, 1) := by decide +kernel
theorem dX11_count_69 : decode cX11_count 69 = .ok (.getfield 19, 3) := by decide +kernel
theorem dX11_count_72 : decode cX11_count 72 = .ok (.getfield 113, 3) := by decide +kernel
theorem dX11_count_75 : decode cX11_count 75 = .ok (.ireturn, 1) := by decide +kernel
theorem dX11_count_76 : decode cX11_count 76 = .ok (.aload_n 0, 1) := by decide +kernel
theorem dX11_count_77 : decode cX11_count 77 = .ok (.getfield 19, 3) := by decide +kernel
theorem dX11_count_80 : decode cX11_count 80 = .ok (.getfield 132, 3) := by decide +kernel
theorem dX11_count_83 : decode cX11_count 83 = .ok (.ireturn, 1) := by decide +kernel
theorem dX11_count_84 : decode cX11_count 84 = .ok (.aload_n 0, 1) := by decide +kernel
theorem dX11_count_85 : decode cX11_count 85 = .ok (.getfield 61, 3) := by decide +kernel
theorem dX11_count_88 : decode cX11_count 88 = .ok (.getfield 476, 3) := by decide +kernel
theorem dX11_count_91 : decode cX11_count 91 = .ok (.ireturn, 1) := by decide +kernel
theorem dX11_count_92 : decode cX11_count 92 = .ok (.aload_n 0, 1) := by decide +kernel
theorem dX11_count_93 : decode cX11_count 93 = .ok (.getfield 61, 3) := by decide +kernel
theorem dX11_count_96 : decode cX11_count 96 = .ok (.getfield 479, 3) := by decide +kernel
theorem dX11_count_99 : decode cX11_count 99 = .ok (.ireturn, 1) := by decide +kernel
theorem dX11_count_100 : decode cX11_count 100 = .ok (.aload_n 0, 1) := by decide +kernel
theorem dX11_count_101 : decode cX11_count 101 = .ok (.aload_n 0, 1) := by decide +kernel
theorem dX11_count_102 : decode cX11_count 102 = .ok (.getfield 61, 3) := by decide +kernel
theorem dX11_count_105 : decode cX11_count 105 = .ok (.invokevirtual 226, 3) := by decide +kernel
theorem dX11_count_108 : decode cX11_count 108 = .ok (.ireturn, 1) := by decide +kernel
theorem dX11_count_109 : decode cX11_count 109 = .ok (.aload_n 0, 1) := by decide +kernel
theorem dX11_count_110 : decode cX11_count 110 = .ok (.invokevirtual 482, 3) := by decide +kernel
theorem dX11_count_113 : decode cX11_count 113 = .ok (.ireturn, 1) := by decide +kernel
theorem dX11_count_114 : decode cX11_count 114 = .ok (.aload_n 0, 1) := by decide +kernel
theorem dX11_count_115 : decode cX11_count 115 = .ok (.getfield 61, 3) := by decide +kernel
theorem dX11_count_118 : decode cX11_count 118 = .ok (.getfield 213, 3) := by decide +kernel
theorem dX11_count_121 : decode cX11_count 121 = .ok (.ireturn, 1) := by decide +kernel
theorem dX11_count_122 : decode cX11_count 122 = .ok (.aload_n 0, 1) := by decide +kernel
theorem dX11_count_123 : decode cX11_count 123 = .ok (.getfield 61, 3) := by decide +kernel
theorem dX11_count_126 : decode cX11_count 126 = .ok (.getfield 216, 3) := by decide +kernel
theorem dX11_count_129 : decode cX11_count 129 = .ok (.ireturn, 1) := by decide +kernel
theorem dX11_count_130 : decode cX11_count 130 = .ok (.aload_n 0, 1) := by decide +kernel
theorem dX11_count_131 : decode cX11_count 131 = .ok (.invokevirtual 485, 3) := by decide +kernel
theorem dX11_count_134 : decode cX11_count 134 = .ok (.ireturn, 1) := by decide +kernel
theorem dX11_count_135 : decode cX11_count 135 = .ok (.aload_n 0, 1) := by decide +kernel
theorem dX11_count_136 : decode cX11_count 136 = .ok (.getfield 88, 3) := by decide +kernel
theorem dX11_count_139 : decode cX11_count 139 = .ok (.getfield 488, 3) := by decide +kernel
theorem dX11_count_142 : decode cX11_count 142 = .ok (.ireturn, 1) := by decide +kernel
theorem dX11_count_143 : decode cX11_count 143 = .ok (.aload_n 0, 1) := by decide +kernel
theorem dX11_count_144 : decode cX11_count 144 = .ok (.getfield 74, 3) := by decide +kernel
theorem dX11_count_147 : decode cX11_count 147 = .ok (.getfield 489, 3) := by decide +kernel
theorem dX11_count_150 : decode cX11_count 150 = .ok (.ireturn, 1) := by decide +kernel
theorem dX11_count_151 : decode cX11_count 151 = .ok (.aload_n 0, 1) := by decide +kernel
theorem dX11_count_152 : decode cX11_count 152 = .ok (.getfield 81, 3) := by decide +kernel
theorem dX11_count_155 : decode cX11_count 155 = .ok (.getfield 490, 3) := by decide +kernel
theorem dX11_count_158 : decode cX11_count 158 = .ok (.ireturn, 1) := by decide +kernel
theorem dX11_count_159 : decode cX11_count 159 = .ok (.aload_n 0, 1) := by decide +kernel
theorem dX11_count_160 : decode cX11_count 160 = .ok (.getfield 12, 3) := by decide +kernel
theorem dX11_count_163 : decode cX11_count 163 = .ok (.getfield 121, 3) := by decide +kernel
theorem dX11_count_166 : decode cX11_count 166 = .ok (.ireturn, 1) := by decide +kernel
theorem dX11_count_167 : decode cX11_count 167 = .ok (.iconst (-1), 1) := by decide +kernel
theorem dX11_count_168 : decode cX11_count 168 = .ok (.ireturn, 1) := by decide +kernel
def fn_X11_count (h : aH) (p0 : Nat) (p1 : Int32) : Option (Int32) :=
  if p1 = 0 then
    (gR h p0 10 1).bind fun a2 =>
    (gI h a2 0 0).bind fun x3 =>
    some x3
  else
  if p1 = 1 then
    (gR h p0 10 1).bind fun a5 =>
    (gI h a5 0 1).bind fun x6 =>
    some x6
  else
  if p1 = 2 then
    (gR h p0 10 7).bind fun a8 =>
    (gI h a8 6 4).bind fun x9 =>
    some x9
  else
  if p1 = 3 then
    (gR h p0 10 7).bind fun a11 =>
    (gI h a11 6 5).bind fun x12 =>
    some x12
  else
  if p1 = 4 then
    (gR h p0 10 7).bind fun a14 =>
    (ck h p0 10).bind fun u15 =>
    (fn_X11_together h p0 a14).bind fun x16 =>
    some x16
  else
  if p1 = 5 then
    (ck h p0 10).bind fun u18 =>
    (fn_X11_marksTogether h p0).bind fun x19 =>
    some x19
  else
  if p1 = 6 then
    (gR h p0 10 7).bind fun a21 =>
    (gI h a21 6 2).bind fun x22 =>
    some x22
  else
  if p1 = 7 then
    (gR h p0 10 7).bind fun a24 =>
    (gI h a24 6 3).bind fun x25 =>
    some x25
  else
  if p1 = 8 then
    (ck h p0 10).bind fun u27 =>
    (fn_X11_basinsAtMark h p0).bind fun x28 =>
    some x28
  else
  if p1 = 9 then
    (gR h p0 10 12).bind fun a30 =>
    (gI h a30 5 3).bind fun x31 =>
    some x31
  else
  if p1 = 10 then
    (gR h p0 10 10).bind fun a33 =>
    (gI h a33 1 3).bind fun x34 =>
    some x34
  else
  if p1 = 11 then
    (gR h p0 10 11).bind fun a36 =>
    (gI h a36 2 1).bind fun x37 =>
    some x37
  else
  if p1 = 12 then
    (gR h p0 10 0).bind fun a39 =>
    (gI h a39 7 1).bind fun x40 =>
    some x40
  else
  some (-1)
set_option maxRecDepth 20000 in
set_option maxHeartbeats 4000000 in
theorem ev_X11_count {l : Launch} {g : aG} {d : Nat} (hd : 2 ≤ d) (h : aH) (p0 : Nat) (p1 : Int32) (o : Int32) (hf : fn_X11_count h p0 p1 = some o) : EvM l g d yX11_count cX11_count 2 (some .int) [.ref p0, .int p1] h (some (.int o), h) := by
  refine EvM.of mk_X11_count (Nat.le_of_ble_eq_true rfl) ?_
  intro Γ hl hg hq X
  have hd1 : 1 ≤ d := by omega
  have hk : RpI h Γ o := hq
  unfold fn_X11_count at hf
  show Jd Γ (0, 0) 0 [some (.ref p0), some (.int p1)] [] h
  refine r_iload_n (pc := 0) X dX11_count_0 rfl ?_
  by_cases c1 : p1 = 0
  · rw [if_pos c1] at hf
    refine r_tableIn (pc := 1) X 68 dX11_count_1 (by rw [c1] <;> decide) (by rw [c1] <;> decide) (by rw [c1] <;> rfl) (by decide) ?_
    refine r_aload_n (pc := 68) X dX11_count_68 rfl ?_
    obtain ⟨a2, ea2, hf⟩ := ob hf
    refine r_getR (pc := 69) X dX11_count_69 fl_X11_19 rfl ea2 ?_
    obtain ⟨x3, ex3, hf⟩ := ob hf
    refine r_getI (pc := 72) X dX11_count_72 fl_X11_113 rfl ex3 ?_
    obtain rfl := Option.some.inj hf
    exact r_iret (pc := 75) X dX11_count_75 hk
  rw [if_neg c1] at hf
  by_cases c4 : p1 = 1
  · rw [if_pos c4] at hf
    refine r_tableIn (pc := 1) X 76 dX11_count_1 (by rw [c4] <;> decide) (by rw [c4] <;> decide) (by rw [c4] <;> rfl) (by decide) ?_
    refine r_aload_n (pc := 76) X dX11_count_76 rfl ?_
    obtain ⟨a5, ea5, hf⟩ := ob hf
    refine r_getR (pc := 77) X dX11_count_77 fl_X11_19 rfl ea5 ?_
    obtain ⟨x6, ex6, hf⟩ := ob hf
    refine r_getI (pc := 80) X dX11_count_80 fl_X11_132 rfl ex6 ?_
    obtain rfl := Option.some.inj hf
    exact r_iret (pc := 83) X dX11_count_83 hk
  rw [if_neg c4] at hf
  by_cases c7 : p1 = 2
  · rw [if_pos c7] at hf
    refine r_tableIn (pc := 1) X 84 dX11_count_1 (by rw [c7] <;> decide) (by rw [c7] <;> decide) (by rw [c7] <;> rfl) (by decide) ?_
    refine r_aload_n (pc := 84) X dX11_count_84 rfl ?_
    obtain ⟨a8, ea8, hf⟩ := ob hf
    refine r_getR (pc := 85) X dX11_count_85 fl_X11_61 rfl ea8 ?_
    obtain ⟨x9, ex9, hf⟩ := ob hf
    refine r_getI (pc := 88) X dX11_count_88 fl_X11_476 rfl ex9 ?_
    obtain rfl := Option.some.inj hf
    exact r_iret (pc := 91) X dX11_count_91 hk
  rw [if_neg c7] at hf
  by_cases c10 : p1 = 3
  · rw [if_pos c10] at hf
    refine r_tableIn (pc := 1) X 92 dX11_count_1 (by rw [c10] <;> decide) (by rw [c10] <;> decide) (by rw [c10] <;> rfl) (by decide) ?_
    refine r_aload_n (pc := 92) X dX11_count_92 rfl ?_
    obtain ⟨a11, ea11, hf⟩ := ob hf
    refine r_getR (pc := 93) X dX11_count_93 fl_X11_61 rfl ea11 ?_
    obtain ⟨x12, ex12, hf⟩ := ob hf
    refine r_getI (pc := 96) X dX11_count_96 fl_X11_479 rfl ex12 ?_
    obtain rfl := Option.some.inj hf
    exact r_iret (pc := 99) X dX11_count_99 hk
  rw [if_neg c10] at hf
  by_cases c13 : p1 = 4
  · rw [if_pos c13] at hf
    refine r_tableIn (pc := 1) X 100 dX11_count_1 (by rw [c13] <;> decide) (by rw [c13] <;> decide) (by rw [c13] <;> rfl) (by decide) ?_
    refine r_aload_n (pc := 100) X dX11_count_100 rfl ?_
    refine r_aload_n (pc := 101) X dX11_count_101 rfl ?_
    obtain ⟨a14, ea14, hf⟩ := ob hf
    refine r_getR (pc := 102) X dX11_count_102 fl_X11_61 rfl ea14 ?_
    obtain ⟨u15, eu15, hf⟩ := ob hf
    obtain ⟨x16, ex16, hf⟩ := ob hf
    refine r_callVI (pc := 105) X [.ref a14] dX11_count_105 ml_X11_226 vo_X11_together ⟨Nat.le_refl _, Nat.le_refl _⟩ eu15 (ev_X11_together (d := d - 1) (by omega) _ _ _ _ ex16) hd1 rfl (Nat.le_of_ble_eq_true rfl) rfl ?_
    obtain rfl := Option.some.inj hf
    exact r_iret (pc := 108) X dX11_count_108 hk
  rw [if_neg c13] at hf
  by_cases c17 : p1 = 5
  · rw [if_pos c17] at hf
    refine r_tableIn (pc := 1) X 109 dX11_count_1 (by rw [c17] <;> decide) (by rw [c17] <;> decide) (by rw [c17] <;> rfl) (by decide) ?_
    refine r_aload_n (pc := 109) X dX11_count_109 rfl ?_
    obtain ⟨u18, eu18, hf⟩ := ob hf
    obtain ⟨x19, ex19, hf⟩ := ob hf
    refine r_callVI (pc := 110) X [] dX11_count_110 ml_X11_482 vo_X11_marksTogether ⟨Nat.le_refl _, Nat.le_refl _⟩ eu18 (ev_X11_marksTogether (d := d - 1) (by omega) _ _ _ ex19) hd1 rfl (Nat.le_of_ble_eq_true rfl) rfl ?_
    obtain rfl := Option.some.inj hf
    exact r_iret (pc := 113) X dX11_count_113 hk
  rw [if_neg c17] at hf
  by_cases c20 : p1 = 6
  · rw [if_pos c20] at hf
    refine r_tableIn (pc := 1) X 114 dX11_count_1 (by rw [c20] <;> decide) (by rw [c20] <;> decide) (by rw [c20] <;> rfl) (by decide) ?_
    refine r_aload_n (pc := 114) X dX11_count_114 rfl ?_
    obtain ⟨a21, ea21, hf⟩ := ob hf
    refine r_getR (pc := 115) X dX11_count_115 fl_X11_61 rfl ea21 ?_
    obtain ⟨x22, ex22, hf⟩ := ob hf
    refine r_getI (pc := 118) X dX11_count_118 fl_X11_213 rfl ex22 ?_
    obtain rfl := Option.some.inj hf
    exact r_iret (pc := 121) X dX11_count_121 hk
  rw [if_neg c20] at hf
  by_cases c23 : p1 = 7
  · rw [if_pos c23] at hf
    refine r_tableIn (pc := 1) X 122 dX11_count_1 (by rw [c23] <;> decide) (by rw [c23] <;> decide) (by rw [c23] <;> rfl) (by decide) ?_
    refine r_aload_n (pc := 122) X dX11_count_122 rfl ?_
    obtain ⟨a24, ea24, hf⟩ := ob hf
    refine r_getR (pc := 123) X dX11_count_123 fl_X11_61 rfl ea24 ?_
    obtain ⟨x25, ex25, hf⟩ := ob hf
    refine r_getI (pc := 126) X dX11_count_126 fl_X11_216 rfl ex25 ?_
    obtain rfl := Option.some.inj hf
    exact r_iret (pc := 129) X dX11_count_129 hk
  rw [if_neg c23] at hf
  by_cases c26 : p1 = 8
  · rw [if_pos c26] at hf
    refine r_tableIn (pc := 1) X 130 dX11_count_1 (by rw [c26] <;> decide) (by rw [c26] <;> decide) (by rw [c26] <;> rfl) (by decide) ?_
    refine r_aload_n (pc := 130) X dX11_count_130 rfl ?_
    obtain ⟨u27, eu27, hf⟩ := ob hf
    obtain ⟨x28, ex28, hf⟩ := ob hf
    refine r_callVI (pc := 131) X [] dX11_count_131 ml_X11_485 vo_X11_basinsAtMark ⟨Nat.le_refl _, Nat.le_refl _⟩ eu27 (ev_X11_basinsAtMark (d := d - 1) (by omega) _ _ _ ex28) hd1 rfl (Nat.le_of_ble_eq_true rfl) rfl ?_
    obtain rfl := Option.some.inj hf
    exact r_iret (pc := 134) X dX11_count_134 hk
  rw [if_neg c26] at hf
  by_cases c29 : p1 = 9
  · rw [if_pos c29] at hf
    refine r_tableIn (pc := 1) X 135 dX11_count_1 (by rw [c29] <;> decide) (by rw [c29] <;> decide) (by rw [c29] <;> rfl) (by decide) ?_
    refine r_aload_n (pc := 135) X dX11_count_135 rfl ?_
    obtain ⟨a30, ea30, hf⟩ := ob hf
    refine r_getR (pc := 136) X dX11_count_136 fl_X11_88 rfl ea30 ?_
    obtain ⟨x31, ex31, hf⟩ := ob hf
    refine r_getI (pc := 139) X dX11_count_139 fl_X11_488 rfl ex31 ?_
    obtain rfl := Option.some.inj hf
    exact r_iret (pc := 142) X dX11_count_142 hk
  rw [if_neg c29] at hf
  by_cases c32 : p1 = 10
  · rw [if_pos c32] at hf
    refine r_tableIn (pc := 1) X 143 dX11_count_1 (by rw [c32] <;> decide) (by rw [c32] <;> decide) (by rw [c32] <;> rfl) (by decide) ?_
    refine r_aload_n (pc := 143) X dX11_count_143 rfl ?_
    obtain ⟨a33, ea33, hf⟩ := ob hf
    refine r_getR (pc := 144) X dX11_count_144 fl_X11_74 rfl ea33 ?_
    obtain ⟨x34, ex34, hf⟩ := ob hf
    refine r_getI (pc := 147) X dX11_count_147 fl_X11_489 rfl ex34 ?_
    obtain rfl := Option.some.inj hf
    exact r_iret (pc := 150) X dX11_count_150 hk
  rw [if_neg c32] at hf
  by_cases c35 : p1 = 11
  · rw [if_pos c35] at hf
    refine r_tableIn (pc := 1) X 151 dX11_count_1 (by rw [c35] <;> decide) (by rw [c35] <;> decide) (by rw [c35] <;> rfl) (by decide) ?_
    refine r_aload_n (pc := 151) X dX11_count_151 rfl ?_
    obtain ⟨a36, ea36, hf⟩ := ob hf
    refine r_getR (pc := 152) X dX11_count_152 fl_X11_81 rfl ea36 ?_
    obtain ⟨x37, ex37, hf⟩ := ob hf
    refine r_getI (pc := 155) X dX11_count_155 fl_X11_490 rfl ex37 ?_
    obtain rfl := Option.some.inj hf
    exact r_iret (pc := 158) X dX11_count_158 hk
  rw [if_neg c35] at hf
  by_cases c38 : p1 = 12
  · rw [if_pos c38] at hf
    refine r_tableIn (pc := 1) X 159 dX11_count_1 (by rw [c38] <;> decide) (by rw [c38] <;> decide) (by rw [c38] <;> rfl) (by decide) ?_
    refine r_aload_n (pc := 159) X dX11_count_159 rfl ?_
    obtain ⟨a39, ea39, hf⟩ := ob hf
    refine r_getR (pc := 160) X dX11_count_160 fl_X11_12 rfl ea39 ?_
    obtain ⟨x40, ex40, hf⟩ := ob hf
    refine r_getI (pc := 163) X dX11_count_163 fl_X11_121 rfl ex40 ?_
    obtain rfl := Option.some.inj hf
    exact r_iret (pc := 166) X dX11_count_166 hk
  rw [if_neg c38] at hf
  have nc1 := lv_neT c1 (show (0 : Int32).toInt = 0 from by decide)
  have nc4 := lv_neT c4 (show (1 : Int32).toInt = 1 from by decide)
  have nc7 := lv_neT c7 (show (2 : Int32).toInt = 2 from by decide)
  have nc10 := lv_neT c10 (show (3 : Int32).toInt = 3 from by decide)
  have nc13 := lv_neT c13 (show (4 : Int32).toInt = 4 from by decide)
  have nc17 := lv_neT c17 (show (5 : Int32).toInt = 5 from by decide)
  have nc20 := lv_neT c20 (show (6 : Int32).toInt = 6 from by decide)
  have nc23 := lv_neT c23 (show (7 : Int32).toInt = 7 from by decide)
  have nc26 := lv_neT c26 (show (8 : Int32).toInt = 8 from by decide)
  have nc29 := lv_neT c29 (show (9 : Int32).toInt = 9 from by decide)
  have nc32 := lv_neT c32 (show (10 : Int32).toInt = 10 from by decide)
  have nc35 := lv_neT c35 (show (11 : Int32).toInt = 11 from by decide)
  have nc38 := lv_neT c38 (show (12 : Int32).toInt = 12 from by decide)
  refine r_tableOut (pc := 1) X 167 dX11_count_1 (by omega) (by decide) ?_
  refine r_iconst (pc := 167) X (-1) dX11_count_167 (by decide) ?_
  obtain rfl := Option.some.inj hf
  exact r_iret (pc := 168) X dX11_count_168 hk
