theorem dX2_dropOldest_0 : decode cX2_dropOldest 0 = .ok (.aload_n 0, 1) := by decide +kernel
theorem dX2_dropOldest_1 : decode cX2_dropOldest 1 = .ok (.getfield 13, 3) := by decide +kernel
theorem dX2_dropOldest_4 : decode cX2_dropOldest 4 = .ok (.iconst 0, 1) := by decide +kernel
theorem dX2_dropOldest_5 : decode cX2_dropOldest 5 = .ok (.aaload, 1) := by decide +kernel
theorem dX2_dropOldest_6 : decode cX2_dropOldest 6 = .ok (.astore_n 1, 1) := by decide +kernel
theorem dX2_dropOldest_7 : decode cX2_dropOldest 7 = .ok (.iconst 1, 1) := by decide +kernel
theorem dX2_dropOldest_8 : decode cX2_dropOldest 8 = .ok (.istore_n 2, 1) := by decide +kernel
theorem dX2_dropOldest_9 : decode cX2_dropOldest 9 = .ok (.iload_n 2, 1) := by decide +kernel
theorem dX2_dropOldest_10 : decode cX2_dropOldest 10 = .ok (.bipush 12, 2) := by decide +kernel
theorem dX2_dropOldest_12 : decode cX2_dropOldest 12 = .ok (.if_icmp .ge 23, 3) := by decide +kernel
theorem dX2_dropOldest_15 : decode cX2_dropOldest 15 = .ok (.aload_n 0, 1) := by decide +kernel
theorem dX2_dropOldest_16 : decode cX2_dropOldest 16 = .ok (.getfield 13, 3) := by decide +kernel
theorem dX2_dropOldest_19 : decode cX2_dropOldest 19 = .ok (.iload_n 2, 1) := by decide +kernel
theorem dX2_dropOldest_20 : decode cX2_dropOldest 20 = .ok (.iconst 1, 1) := by decide +kernel
theorem dX2_dropOldest_21 : decode cX2_dropOldest 21 = .ok (.isub, 1) := by decide +kernel
theorem dX2_dropOldest_22 : decode cX2_dropOldest 22 = .ok (.aload_n 0, 1) := by decide +kernel
theorem dX2_dropOldest_23 : decode cX2_dropOldest 23 = .ok (.getfield 13, 3) := by decide +kernel
theorem dX2_dropOldest_26 : decode cX2_dropOldest 26 = .ok (.iload_n 2, 1) := by decide +kernel
theorem dX2_dropOldest_27 : decode cX2_dropOldest 27 = .ok (.aaload, 1) := by decide +kernel
theorem dX2_dropOldest_28 : decode cX2_dropOldest 28 = .ok (.aastore, 1) := by decide +kernel
theorem dX2_dropOldest_29 : decode cX2_dropOldest 29 = .ok (.iinc 2 1, 3) := by decide +kernel
theorem dX2_dropOldest_32 : decode cX2_dropOldest 32 = .ok (.goto (-23), 3) := by decide +kernel
theorem dX2_dropOldest_35 : decode cX2_dropOldest 35 = .ok (.aload_n 0, 1) := by decide +kernel
theorem dX2_dropOldest_36 : decode cX2_dropOldest 36 = .ok (.getfield 13, 3) := by decide +kernel
theorem dX2_dropOldest_39 : decode cX2_dropOldest 39 = .ok (.bipush 11, 2) := by decide +kernel
theorem dX2_dropOldest_41 : decode cX2_dropOldest 41 = .ok (.aload_n 1, 1) := by decide +kernel
theorem dX2_dropOldest_42 : decode cX2_dropOldest 42 = .ok (.aastore, 1) := by decide +kernel
theorem dX2_dropOldest_43 : decode cX2_dropOldest 43 = .ok (.aload_n 0, 1) := by decide +kernel
theorem dX2_dropOldest_44 : decode cX2_dropOldest 44 = .ok (.dup, 1) := by decide +kernel
theorem dX2_dropOldest_45 : decode cX2_dropOldest 45 = .ok (.getfield 25, 3) := by decide +kernel
theorem dX2_dropOldest_48 : decode cX2_dropOldest 48 = .ok (.iconst 1, 1) := by decide +kernel
theorem dX2_dropOldest_49 : decode cX2_dropOldest 49 = .ok (.isub, 1) := by decide +kernel
theorem dX2_dropOldest_50 : decode cX2_dropOldest 50 = .ok (.putfield 25, 3) := by decide +kernel
theorem dX2_dropOldest_53 : decode cX2_dropOldest 53 = .ok (.return_, 1) := by decide +kernel
def lb_X2_dropOldest_9 (v0 : Nat) (v1 : Nat) (s : Int32 × aH) : Option ((Int32 × aH) ⊕ ((aH))) :=
  if s.1 < 12 then
    (gR s.2 v0 1 0).bind fun a3 =>
    (gR s.2 v0 1 0).bind fun a4 =>
    (aR s.2 a4 s.1).bind fun a5 =>
    (wR s.2 a3 (s.1 - 1) a5).bind fun h6 =>
    (some (s.1 + 1)).bind fun x7 =>
    some (.inl (x7, h6))
  else
    some (.inr s.2)
def hd_X2_dropOldest_9 (Γ : aC) (v0 : Nat) (v1 : Nat) (s : Int32 × aH) : Prop := Jd Γ (0, 0) 9 [some (.ref v0), some (.ref v1), some (.int s.1)] [] s.2
def ex_X2_dropOldest_9 (Γ : aC) (v0 : Nat) (v1 : Nat) (r : (aH)) : Prop := (fun r => ∀ (j2 : Option Value), Jd Γ (0, 0) 35 [some (.ref v0), some (.ref v1), j2] [] r) r
set_option maxRecDepth 20000 in
set_option maxHeartbeats 4000000 in
theorem lw_X2_dropOldest_9 {Γ : aC} {d : Nat} (X : Cx Γ RX2 cX2_dropOldest 3 none (d, 0, 0)) (hd : 0 ≤ d) (v0 : Nat) (v1 : Nat) : ∀ n s o, lp (lb_X2_dropOldest_9 v0 v1) n s = some o → ex_X2_dropOldest_9 Γ v0 v1 o → hd_X2_dropOldest_9 Γ v0 v1 s := by
  have hd1 : 0 ≤ d := by omega
  refine J_lp _ _ _ ?_
  intro s o hf hk
  unfold lb_X2_dropOldest_9 at hf
  refine r_iload_n (pc := 9) X dX2_dropOldest_9 rfl ?_
  refine r_bipush (pc := 10) X 12 dX2_dropOldest_10 (by decide) ?_
  refine r_icmp_ge (pc := 12) X 35 dX2_dropOldest_12 (by decide) (fun c8 => ?_) (fun c8 => ?_)
  · rw [if_neg c8] at hf
    obtain rfl := Option.some.inj hf
    exact hk _
  · rw [if_pos c8] at hf
    refine r_aload_n (pc := 15) X dX2_dropOldest_15 rfl ?_
    obtain ⟨a3, ea3, hf⟩ := ob hf
    refine r_getR (pc := 16) X dX2_dropOldest_16 fl_X2_13 rfl ea3 ?_
    refine r_iload_n (pc := 19) X dX2_dropOldest_19 rfl ?_
    refine r_iconst (pc := 20) X 1 dX2_dropOldest_20 (by decide) ?_
    refine r_isub (pc := 21) X dX2_dropOldest_21 ?_
    refine r_aload_n (pc := 22) X dX2_dropOldest_22 rfl ?_
    obtain ⟨a4, ea4, hf⟩ := ob hf
    refine r_getR (pc := 23) X dX2_dropOldest_23 fl_X2_13 rfl ea4 ?_
    refine r_iload_n (pc := 26) X dX2_dropOldest_26 rfl ?_
    obtain ⟨a5, ea5, hf⟩ := ob hf
    refine r_aald (pc := 27) X dX2_dropOldest_27 ea5 ?_
    obtain ⟨h6, eh6, hf⟩ := ob hf
    refine r_aast (pc := 28) X dX2_dropOldest_28 eh6 ?_
    obtain ⟨x7, ex7, hf⟩ := ob hf
    refine r_iinc2 (pc := 29) X 1 [some (.ref v0), some (.ref v1), some (.int x7)] dX2_dropOldest_29 (by decide) rfl (by decide) ex7 rfl ?_
    refine r_goto (pc := 32) X 9 dX2_dropOldest_32 (by decide) ?_
    obtain rfl := Option.some.inj hf
    exact hk
def fn_X2_dropOldest (h : aH) (p0 : Nat) : Option (aH) :=
  (gR h p0 1 0).bind fun a1 =>
  (aR h a1 0).bind fun a2 =>
  (lp (lb_X2_dropOldest_9 p0 a2) lpN (1, h)).bind fun o9 =>
  (gR o9 p0 1 0).bind fun a11 =>
  (wR o9 a11 11 a2).bind fun h12 =>
  (gI h12 p0 1 3).bind fun x13 =>
  (pI h12 p0 1 3 (x13 - 1)).bind fun h14 =>
  some h14
set_option maxRecDepth 20000 in
set_option maxHeartbeats 4000000 in
theorem ev_X2_dropOldest {l : Launch} {g : aG} {d : Nat} (hd : 0 ≤ d) (h : aH) (p0 : Nat) (o : aH) (hf : fn_X2_dropOldest h p0 = some o) : EvM l g d yX2_dropOldest cX2_dropOldest 3 none [.ref p0] h (none, o) := by
  refine EvM.of mk_X2_dropOldest (Nat.le_of_ble_eq_true rfl) ?_
  intro Γ hl hg hq X
  have hd1 : 0 ≤ d := by omega
  have hk : RqV Γ o := hq
  unfold fn_X2_dropOldest at hf
  show Jd Γ (0, 0) 0 [some (.ref p0), none, none] [] h
  refine r_aload_n (pc := 0) X dX2_dropOldest_0 rfl ?_
  obtain ⟨a1, ea1, hf⟩ := ob hf
  refine r_getR (pc := 1) X dX2_dropOldest_1 fl_X2_13 rfl ea1 ?_
  refine r_iconst (pc := 4) X 0 dX2_dropOldest_4 (by decide) ?_
  obtain ⟨a2, ea2, hf⟩ := ob hf
  refine r_aald (pc := 5) X dX2_dropOldest_5 ea2 ?_
  refine r_astore_n (pc := 6) X [some (.ref p0), some (.ref a2), none] dX2_dropOldest_6 (by decide) rfl ?_
  refine r_iconst (pc := 7) X 1 dX2_dropOldest_7 (by decide) ?_
  refine r_istore_n (pc := 8) X [some (.ref p0), some (.ref a2), some (.int 1)] dX2_dropOldest_8 (by decide) rfl ?_
  obtain ⟨o9, eo9, hf⟩ := ob hf
  refine (lw_X2_dropOldest_9 X hd _ _ lpN _ o9 eo9 ?_)
  intro j10
  refine r_aload_n (pc := 35) X dX2_dropOldest_35 rfl ?_
  obtain ⟨a11, ea11, hf⟩ := ob hf
  refine r_getR (pc := 36) X dX2_dropOldest_36 fl_X2_13 rfl ea11 ?_
  refine r_bipush (pc := 39) X 11 dX2_dropOldest_39 (by decide) ?_
  refine r_aload_n (pc := 41) X dX2_dropOldest_41 rfl ?_
  obtain ⟨h12, eh12, hf⟩ := ob hf
  refine r_aast (pc := 42) X dX2_dropOldest_42 eh12 ?_
  refine r_aload_n (pc := 43) X dX2_dropOldest_43 rfl ?_
  refine r_dup (pc := 44) X dX2_dropOldest_44 rfl ?_
  obtain ⟨x13, ex13, hf⟩ := ob hf
  refine r_getI (pc := 45) X dX2_dropOldest_45 fl_X2_25 rfl ex13 ?_
  refine r_iconst (pc := 48) X 1 dX2_dropOldest_48 (by decide) ?_
  refine r_isub (pc := 49) X dX2_dropOldest_49 ?_
  obtain ⟨h14, eh14, hf⟩ := ob hf
  refine r_putI (pc := 50) X dX2_dropOldest_50 fp_X2_25 rfl eh14 ?_
  obtain rfl := Option.some.inj hf
  exact r_vret (pc := 53) X dX2_dropOldest_53 hk

theorem dX2_push_0 : decode cX2_push 0 = .ok (.aload_n 0, 1) := by decide +kernel
theorem dX2_push_1 : decode cX2_push 1 = .ok (.getfield 25, 3) := by decide +kernel
theorem dX2_push_4 : decode cX2_push 4 = .ok (.bipush 12, 2) := by decide +kernel
theorem dX2_push_6 : decode cX2_push 6 = .ok (.if_icmp .ne 7, 3) := by decide +kernel
theorem dX2_push_9 : decode cX2_push 9 = .ok (.aload_n 0, 1) := by decide +kernel
theorem dX2_push_10 : decode cX2_push 10 = .ok (.invokevirtual 29, 3) := by decide +kernel
theorem dX2_push_13 : decode cX2_push 13 = .ok (.aload_n 0, 1) := by decide +kernel
theorem dX2_push_14 : decode cX2_push 14 = .ok (.getfield 13, 3) := by decide +kernel
theorem dX2_push_17 : decode cX2_push 17 = .ok (.aload_n 0, 1) := by decide +kernel
theorem dX2_push_18 : decode cX2_push 18 = .ok (.getfield 25, 3) := by decide +kernel
theorem dX2_push_21 : decode cX2_push 21 = .ok (.aaload, 1) := by decide +kernel
theorem dX2_push_22 : decode cX2_push 22 = .ok (.aload_n 1, 1) := by decide +kernel
theorem dX2_push_23 : decode cX2_push 23 = .ok (.invokevirtual 32, 3) := by decide +kernel
theorem dX2_push_26 : decode cX2_push 26 = .ok (.aload_n 0, 1) := by decide +kernel
theorem dX2_push_27 : decode cX2_push 27 = .ok (.dup, 1) := by decide +kernel
theorem dX2_push_28 : decode cX2_push 28 = .ok (.getfield 25, 3) := by decide +kernel
theorem dX2_push_31 : decode cX2_push 31 = .ok (.iconst 1, 1) := by decide +kernel
theorem dX2_push_32 : decode cX2_push 32 = .ok (.iadd, 1) := by decide +kernel
theorem dX2_push_33 : decode cX2_push 33 = .ok (.putfield 25, 3) := by decide +kernel
theorem dX2_push_36 : decode cX2_push 36 = .ok (.return_, 1) := by decide +kernel
def fn_X2_push (h : aH) (p0 : Nat) (p1 : Nat) : Option (aH) :=
  (gI h p0 1 3).bind fun x1 =>
  ((
    if x1 = 12 then
      (ck h p0 1).bind fun u10 =>
      (fn_X2_dropOldest h p0).bind fun h11 =>
      some h11
    else
      some h
  ) : Option (aH)).bind fun t2 =>
  (gR t2 p0 1 0).bind fun a3 =>
  (gI t2 p0 1 3).bind fun x4 =>
  (aR t2 a3 x4).bind fun a5 =>
  (ck t2 a5 6).bind fun u6 =>
  (fn_X7_takes t2 a5 p1).bind fun h7 =>
  (gI h7 p0 1 3).bind fun x8 =>
  (pI h7 p0 1 3 (x8 + 1)).bind fun h9 =>
  some h9
set_option maxRecDepth 20000 in
set_option maxHeartbeats 4000000 in
theorem ev_X2_push {l : Launch} {g : aG} {d : Nat} (hd : 2 ≤ d) (h : aH) (p0 : Nat) (p1 : Nat) (o : aH) (hf : fn_X2_push h p0 p1 = some o) : EvM l g d yX2_push cX2_push 2 none [.ref p0, .ref p1] h (none, o) := by
  refine EvM.of mk_X2_push (Nat.le_of_ble_eq_true rfl) ?_
  intro Γ hl hg hq X
  have hd1 : 1 ≤ d := by omega
  have hk : RqV Γ o := hq
  unfold fn_X2_push at hf
  show Jd Γ (0, 0) 0 [some (.ref p0), some (.ref p1)] [] h
  refine r_aload_n (pc := 0) X dX2_push_0 rfl ?_
  obtain ⟨x1, ex1, hf⟩ := ob hf
  refine r_getI (pc := 1) X dX2_push_1 fl_X2_25 rfl ex1 ?_
  refine r_bipush (pc := 4) X 12 dX2_push_4 (by decide) ?_
  obtain ⟨t2, et2, hf⟩ := ob hf
  have Jt2 : Jd Γ (0, 0) 13 [some (.ref p0), some (.ref p1)] [] t2 := by
    refine r_aload_n (pc := 13) X dX2_push_13 rfl ?_
    obtain ⟨a3, ea3, hf⟩ := ob hf
    refine r_getR (pc := 14) X dX2_push_14 fl_X2_13 rfl ea3 ?_
    refine r_aload_n (pc := 17) X dX2_push_17 rfl ?_
    obtain ⟨x4, ex4, hf⟩ := ob hf
    refine r_getI (pc := 18) X dX2_push_18 fl_X2_25 rfl ex4 ?_
    obtain ⟨a5, ea5, hf⟩ := ob hf
    refine r_aald (pc := 21) X dX2_push_21 ea5 ?_
    refine r_aload_n (pc := 22) X dX2_push_22 rfl ?_
    obtain ⟨u6, eu6, hf⟩ := ob hf
    obtain ⟨h7, eh7, hf⟩ := ob hf
    refine r_callVV (pc := 23) X [.ref p1] dX2_push_23 ml_X2_32 vo_X7_takes ⟨Nat.le_refl _, Nat.le_refl _⟩ eu6 (ev_X7_takes (d := d - 1) (by omega) _ _ _ _ eh7) hd1 rfl (Nat.le_of_ble_eq_true rfl) rfl ?_
    refine r_aload_n (pc := 26) X dX2_push_26 rfl ?_
    refine r_dup (pc := 27) X dX2_push_27 rfl ?_
    obtain ⟨x8, ex8, hf⟩ := ob hf
    refine r_getI (pc := 28) X dX2_push_28 fl_X2_25 rfl ex8 ?_
    refine r_iconst (pc := 31) X 1 dX2_push_31 (by decide) ?_
    refine r_iadd (pc := 32) X dX2_push_32 ?_
    obtain ⟨h9, eh9, hf⟩ := ob hf
    refine r_putI (pc := 33) X dX2_push_33 fp_X2_25 rfl eh9 ?_
    obtain rfl := Option.some.inj hf
    exact r_vret (pc := 36) X dX2_push_36 hk
  refine r_icmp_ne (pc := 6) X 13 dX2_push_6 (by decide) (fun c12 => ?_) (fun c12 => ?_)
  · rw [if_neg c12] at et2
    obtain rfl := Option.some.inj et2
    exact Jt2
  · rw [if_pos c12] at et2
    refine r_aload_n (pc := 9) X dX2_push_9 rfl ?_
    obtain ⟨u10, eu10, et2⟩ := ob et2
    obtain ⟨h11, eh11, et2⟩ := ob et2
    refine r_callVV (pc := 10) X [] dX2_push_10 ml_X2_29 vo_X2_dropOldest ⟨Nat.le_refl _, Nat.le_refl _⟩ eu10 (ev_X2_dropOldest (d := d - 1) (by omega) _ _ _ eh11) hd1 rfl (Nat.le_of_ble_eq_true rfl) rfl ?_
    obtain rfl := Option.some.inj et2
    exact Jt2

theorem dX2_pop_0 : decode cX2_pop 0 = .ok (.aload_n 0, 1) := by decide +kernel
theorem dX2_pop_1 : decode cX2_pop 1 = .ok (.getfield 25, 3) := by decide +kernel
theorem dX2_pop_4 : decode cX2_pop 4 = .ok (.ifCond .ne 5, 3) := by decide +kernel
theorem dX2_pop_7 : decode cX2_pop 7 = .ok (.iconst (-1), 1) := by decide +kernel
theorem dX2_pop_8 : decode cX2_pop 8 = .ok (.ireturn, 1) := by decide +kernel
theorem dX2_pop_9 : decode cX2_pop 9 = .ok (.aload_n 0, 1) := by decide +kernel
theorem dX2_pop_10 : decode cX2_pop 10 = .ok (.dup, 1) := by decide +kernel
theorem dX2_pop_11 : decode cX2_pop 11 = .ok (.getfield 25, 3) := by decide +kernel
theorem dX2_pop_14 : decode cX2_pop 14 = .ok (.iconst 1, 1) := by decide +kernel
theorem dX2_pop_15 : decode cX2_pop 15 = .ok (.isub, 1) := by decide +kernel
theorem dX2_pop_16 : decode cX2_pop 16 = .ok (.putfield 25, 3) := by decide +kernel
theorem dX2_pop_19 : decode cX2_pop 19 = .ok (.aload_n 1, 1) := by decide +kernel
theorem dX2_pop_20 : decode cX2_pop 20 = .ok (.aload_n 0, 1) := by decide +kernel
theorem dX2_pop_21 : decode cX2_pop 21 = .ok (.getfield 13, 3) := by decide +kernel
theorem dX2_pop_24 : decode cX2_pop 24 = .ok (.aload_n 0, 1) := by decide +kernel
theorem dX2_pop_25 : decode cX2_pop 25 = .ok (.getfield 25, 3) := by decide +kernel
theorem dX2_pop_28 : decode cX2_pop 28 = .ok (.aaload, 1) := by decide +kernel
theorem dX2_pop_29 : decode cX2_pop 29 = .ok (.invokevirtual 32, 3) := by decide +kernel
theorem dX2_pop_32 : decode cX2_pop 32 = .ok (.aload_n 0, 1) := by decide +kernel
theorem dX2_pop_33 : decode cX2_pop 33 = .ok (.getfield 25, 3) := by decide +kernel
theorem dX2_pop_36 : decode cX2_pop 36 = .ok (.ireturn, 1) := by decide +kernel
def fn_X2_pop (h : aH) (p0 : Nat) (p1 : Nat) : Option (Int32 × aH) :=
  (gI h p0 1 3).bind fun x1 =>
  if x1 = 0 then
    some ((-1), h)
  else
    (gI h p0 1 3).bind fun x2 =>
    (pI h p0 1 3 (x2 - 1)).bind fun h3 =>
    (gR h3 p0 1 0).bind fun a4 =>
    (gI h3 p0 1 3).bind fun x5 =>
    (aR h3 a4 x5).bind fun a6 =>
    (ck h3 p1 6).bind fun u7 =>
    (fn_X7_takes h3 p1 a6).bind fun h8 =>
    (gI h8 p0 1 3).bind fun x9 =>
    some (x9, h8)
set_option maxRecDepth 20000 in
set_option maxHeartbeats 4000000 in
theorem ev_X2_pop {l : Launch} {g : aG} {d : Nat} (hd : 2 ≤ d) (h : aH) (p0 : Nat) (p1 : Nat) (o : Int32 × aH) (hf : fn_X2_pop h p0 p1 = some o) : EvM l g d yX2_pop cX2_pop 2 (some .int) [.ref p0, .ref p1] h (some (.int o.1), o.2) := by
  refine EvM.of mk_X2_pop (Nat.le_of_ble_eq_true rfl) ?_
  intro Γ hl hg hq X
  have hd1 : 1 ≤ d := by omega
  have hk : RqI Γ o := hq
  unfold fn_X2_pop at hf
  show Jd Γ (0, 0) 0 [some (.ref p0), some (.ref p1)] [] h
  refine r_aload_n (pc := 0) X dX2_pop_0 rfl ?_
  obtain ⟨x1, ex1, hf⟩ := ob hf
  refine r_getI (pc := 1) X dX2_pop_1 fl_X2_25 rfl ex1 ?_
  refine r_if_ne (pc := 4) X 9 dX2_pop_4 (by decide) (fun c10 => ?_) (fun c10 => ?_)
  · rw [if_neg c10] at hf
    refine r_aload_n (pc := 9) X dX2_pop_9 rfl ?_
    refine r_dup (pc := 10) X dX2_pop_10 rfl ?_
    obtain ⟨x2, ex2, hf⟩ := ob hf
    refine r_getI (pc := 11) X dX2_pop_11 fl_X2_25 rfl ex2 ?_
    refine r_iconst (pc := 14) X 1 dX2_pop_14 (by decide) ?_
    refine r_isub (pc := 15) X dX2_pop_15 ?_
    obtain ⟨h3, eh3, hf⟩ := ob hf
    refine r_putI (pc := 16) X dX2_pop_16 fp_X2_25 rfl eh3 ?_
    refine r_aload_n (pc := 19) X dX2_pop_19 rfl ?_
    refine r_aload_n (pc := 20) X dX2_pop_20 rfl ?_
    obtain ⟨a4, ea4, hf⟩ := ob hf
    refine r_getR (pc := 21) X dX2_pop_21 fl_X2_13 rfl ea4 ?_
    refine r_aload_n (pc := 24) X dX2_pop_24 rfl ?_
    obtain ⟨x5, ex5, hf⟩ := ob hf
    refine r_getI (pc := 25) X dX2_pop_25 fl_X2_25 rfl ex5 ?_
    obtain ⟨a6, ea6, hf⟩ := ob hf
    refine r_aald (pc := 28) X dX2_pop_28 ea6 ?_
    obtain ⟨u7, eu7, hf⟩ := ob hf
    obtain ⟨h8, eh8, hf⟩ := ob hf
    refine r_callVV (pc := 29) X [.ref a6] dX2_pop_29 ml_X2_32 vo_X7_takes ⟨Nat.le_refl _, Nat.le_refl _⟩ eu7 (ev_X7_takes (d := d - 1) (by omega) _ _ _ _ eh8) hd1 rfl (Nat.le_of_ble_eq_true rfl) rfl ?_
    refine r_aload_n (pc := 32) X dX2_pop_32 rfl ?_
    obtain ⟨x9, ex9, hf⟩ := ob hf
    refine r_getI (pc := 33) X dX2_pop_33 fl_X2_25 rfl ex9 ?_
    obtain rfl := Option.some.inj hf
    exact r_iret (pc := 36) X dX2_pop_36 hk
  · rw [if_pos c10] at hf
    refine r_iconst (pc := 7) X (-1) dX2_pop_7 (by decide) ?_
    obtain rfl := Option.some.inj hf
    exact r_iret (pc := 8) X dX2_pop_8 hk

theorem dX2_keepUnder_0 : decode cX2_keepUnder 0 = .ok (.iload_n 1, 1) := by decide +kernel
theorem dX2_keepUnder_1 : decode cX2_keepUnder 1 = .ok (.ifCond .lt 8, 3) := by decide +kernel
theorem dX2_keepUnder_4 : decode cX2_keepUnder 4 = .ok (.iload_n 1, 1) := by decide +kernel
theorem dX2_keepUnder_5 : decode cX2_keepUnder 5 = .ok (.iconst 2, 1) := by decide +kernel
theorem dX2_keepUnder_6 : decode cX2_keepUnder 6 = .ok (.if_icmp .lt 5, 3) := by decide +kernel
theorem dX2_keepUnder_9 : decode cX2_keepUnder 9 = .ok (.iconst 0, 1) := by decide +kernel
theorem dX2_keepUnder_10 : decode cX2_keepUnder 10 = .ok (.ireturn, 1) := by decide +kernel
theorem dX2_keepUnder_11 : decode cX2_keepUnder 11 = .ok (.aload_n 0, 1) := by decide +kernel
theorem dX2_keepUnder_12 : decode cX2_keepUnder 12 = .ok (.getfield 18, 3) := by decide +kernel
theorem dX2_keepUnder_15 : decode cX2_keepUnder 15 = .ok (.iload_n 1, 1) := by decide +kernel
theorem dX2_keepUnder_16 : decode cX2_keepUnder 16 = .ok (.aaload, 1) := by decide +kernel
theorem dX2_keepUnder_17 : decode cX2_keepUnder 17 = .ok (.aload_n 2, 1) := by decide +kernel
theorem dX2_keepUnder_18 : decode cX2_keepUnder 18 = .ok (.invokevirtual 32, 3) := by decide +kernel
theorem dX2_keepUnder_21 : decode cX2_keepUnder 21 = .ok (.aload_n 0, 1) := by decide +kernel
theorem dX2_keepUnder_22 : decode cX2_keepUnder 22 = .ok (.getfield 21, 3) := by decide +kernel
theorem dX2_keepUnder_25 : decode cX2_keepUnder 25 = .ok (.iload_n 1, 1) := by decide +kernel
theorem dX2_keepUnder_26 : decode cX2_keepUnder 26 = .ok (.iconst 1, 1) := by decide +kernel
theorem dX2_keepUnder_27 : decode cX2_keepUnder 27 = .ok (.bastore, 1) := by decide +kernel
theorem dX2_keepUnder_28 : decode cX2_keepUnder 28 = .ok (.iconst 1, 1) := by decide +kernel
theorem dX2_keepUnder_29 : decode cX2_keepUnder 29 = .ok (.ireturn, 1) := by decide +kernel
def fn_X2_keepUnder (h : aH) (p0 : Nat) (p1 : Int32) (p2 : Nat) : Option (Int32 × aH) :=
  if p1 < 0 then
    some (0, h)
  else
    if p1 < 2 then
      (gR h p0 1 1).bind fun a1 =>
      (aR h a1 p1).bind fun a2 =>
      (ck h a2 6).bind fun u3 =>
      (fn_X7_takes h a2 p2).bind fun h4 =>
      (gR h4 p0 1 2).bind fun a5 =>
      (wZ h4 a5 p1 1).bind fun h6 =>
      some (1, h6)
    else
      some (0, h)
set_option maxRecDepth 20000 in
set_option maxHeartbeats 4000000 in
theorem ev_X2_keepUnder {l : Launch} {g : aG} {d : Nat} (hd : 2 ≤ d) (h : aH) (p0 : Nat) (p1 : Int32) (p2 : Nat) (o : Int32 × aH) (hf : fn_X2_keepUnder h p0 p1 p2 = some o) : EvM l g d yX2_keepUnder cX2_keepUnder 3 (some .boolean) [.ref p0, .int p1, .ref p2] h (some (.int o.1), o.2) := by
  refine EvM.of mk_X2_keepUnder (Nat.le_of_ble_eq_true rfl) ?_
  intro Γ hl hg hq X
  have hd1 : 1 ≤ d := by omega
  have hk : RqI Γ o := hq
  unfold fn_X2_keepUnder at hf
  show Jd Γ (0, 0) 0 [some (.ref p0), some (.int p1), some (.ref p2)] [] h
  refine r_iload_n (pc := 0) X dX2_keepUnder_0 rfl ?_
  refine r_if_lt (pc := 1) X 9 dX2_keepUnder_1 (by decide) (fun c8 => ?_) (fun c8 => ?_)
  · rw [if_pos c8] at hf
    refine r_iconst (pc := 9) X 0 dX2_keepUnder_9 (by decide) ?_
    obtain rfl := Option.some.inj hf
    exact r_zret (pc := 10) X dX2_keepUnder_10 (Or.inl rfl) hk
  · rw [if_neg c8] at hf
    refine r_iload_n (pc := 4) X dX2_keepUnder_4 rfl ?_
    refine r_iconst (pc := 5) X 2 dX2_keepUnder_5 (by decide) ?_
    refine r_icmp_lt (pc := 6) X 11 dX2_keepUnder_6 (by decide) (fun c7 => ?_) (fun c7 => ?_)
    · rw [if_pos c7] at hf
      refine r_aload_n (pc := 11) X dX2_keepUnder_11 rfl ?_
      obtain ⟨a1, ea1, hf⟩ := ob hf
      refine r_getR (pc := 12) X dX2_keepUnder_12 fl_X2_18 rfl ea1 ?_
      refine r_iload_n (pc := 15) X dX2_keepUnder_15 rfl ?_
      obtain ⟨a2, ea2, hf⟩ := ob hf
      refine r_aald (pc := 16) X dX2_keepUnder_16 ea2 ?_
      refine r_aload_n (pc := 17) X dX2_keepUnder_17 rfl ?_
      obtain ⟨u3, eu3, hf⟩ := ob hf
      obtain ⟨h4, eh4, hf⟩ := ob hf
      refine r_callVV (pc := 18) X [.ref p2] dX2_keepUnder_18 ml_X2_32 vo_X7_takes ⟨Nat.le_refl _, Nat.le_refl _⟩ eu3 (ev_X7_takes (d := d - 1) (by omega) _ _ _ _ eh4) hd1 rfl (Nat.le_of_ble_eq_true rfl) rfl ?_
      refine r_aload_n (pc := 21) X dX2_keepUnder_21 rfl ?_
      obtain ⟨a5, ea5, hf⟩ := ob hf
      refine r_getR (pc := 22) X dX2_keepUnder_22 fl_X2_21 rfl ea5 ?_
      refine r_iload_n (pc := 25) X dX2_keepUnder_25 rfl ?_
      refine r_iconst (pc := 26) X 1 dX2_keepUnder_26 (by decide) ?_
      obtain ⟨h6, eh6, hf⟩ := ob hf
      refine r_zast (pc := 27) X dX2_keepUnder_27 eh6 ?_
      refine r_iconst (pc := 28) X 1 dX2_keepUnder_28 (by decide) ?_
      obtain rfl := Option.some.inj hf
      exact r_zret (pc := 29) X dX2_keepUnder_29 (Or.inr rfl) hk
    · rw [if_neg c7] at hf
      refine r_iconst (pc := 9) X 0 dX2_keepUnder_9 (by decide) ?_
      obtain rfl := Option.some.inj hf
      exact r_zret (pc := 10) X dX2_keepUnder_10 (Or.inl rfl) hk

theorem dX2_bringBack_0 : decode cX2_bringBack 0 = .ok (.iload_n 1, 1) := by decide +kernel
theorem dX2_bringBack_1 : decode cX2_bringBack 1 = .ok (.ifCond .lt 17, 3) := by decide +kernel
theorem dX2_bringBack_4 : decode cX2_bringBack 4 = .ok (.iload_n 1, 1) := by decide +kernel
theorem dX2_bringBack_5 : decode cX2_bringBack 5 = .ok (.iconst 2, 1) := by decide +kernel
theorem dX2_bringBack_6 : decode cX2_bringBack 6 = .ok (.if_icmp .ge 12, 3) := by decide +kernel
theorem dX2_bringBack_9 : decode cX2_bringBack 9 = .ok (.aload_n 0, 1) := by decide +kernel
theorem dX2_bringBack_10 : decode cX2_bringBack 10 = .ok (.getfield 21, 3) := by decide +kernel
theorem dX2_bringBack_13 : decode cX2_bringBack 13 = .ok (.iload_n 1, 1) := by decide +kernel
theorem dX2_bringBack_14 : decode cX2_bringBack 14 = .ok (.baload, 1) := by decide +kernel
theorem dX2_bringBack_15 : decode cX2_bringBack 15 = .ok (.ifCond .ne 5, 3) := by decide +kernel
theorem dX2_bringBack_18 : decode cX2_bringBack 18 = .ok (.iconst 0, 1) := by decide +kernel
theorem dX2_bringBack_19 : decode cX2_bringBack 19 = .ok (.ireturn, 1) := by decide +kernel
theorem dX2_bringBack_20 : decode cX2_bringBack 20 = .ok (.aload_n 2, 1) := by decide +kernel
theorem dX2_bringBack_21 : decode cX2_bringBack 21 = .ok (.aload_n 0, 1) := by decide +kernel
theorem dX2_bringBack_22 : decode cX2_bringBack 22 = .ok (.getfield 18, 3) := by decide +kernel
theorem dX2_bringBack_25 : decode cX2_bringBack 25 = .ok (.iload_n 1, 1) := by decide +kernel
theorem dX2_bringBack_26 : decode cX2_bringBack 26 = .ok (.aaload, 1) := by decide +kernel
theorem dX2_bringBack_27 : decode cX2_bringBack 27 = .ok (.invokevirtual 32, 3) := by decide +kernel
theorem dX2_bringBack_30 : decode cX2_bringBack 30 = .ok (.aload_n 0, 1) := by decide +kernel
theorem dX2_bringBack_31 : decode cX2_bringBack 31 = .ok (.iconst 0, 1) := by decide +kernel
theorem dX2_bringBack_32 : decode cX2_bringBack 32 = .ok (.putfield 25, 3) := by decide +kernel
theorem dX2_bringBack_35 : decode cX2_bringBack 35 = .ok (.iconst 1, 1) := by decide +kernel
theorem dX2_bringBack_36 : decode cX2_bringBack 36 = .ok (.ireturn, 1) := by decide +kernel
def fn_X2_bringBack (h : aH) (p0 : Nat) (p1 : Int32) (p2 : Nat) : Option (Int32 × aH) :=
  if p1 < 0 then
    some (0, h)
  else
    if p1 < 2 then
      (gR h p0 1 2).bind fun a1 =>
      (aI h a1 16 p1).bind fun x2 =>
      if x2 = 0 then
        some (0, h)
      else
        (gR h p0 1 1).bind fun a3 =>
        (aR h a3 p1).bind fun a4 =>
        (ck h p2 6).bind fun u5 =>
        (fn_X7_takes h p2 a4).bind fun h6 =>
        (pI h6 p0 1 3 0).bind fun h7 =>
        some (1, h7)
    else
      some (0, h)
set_option maxRecDepth 20000 in
set_option maxHeartbeats 4000000 in
theorem ev_X2_bringBack {l : Launch} {g : aG} {d : Nat} (hd : 2 ≤ d) (h : aH) (p0 : Nat) (p1 : Int32) (p2 : Nat) (o : Int32 × aH) (hf : fn_X2_bringBack h p0 p1 p2 = some o) : EvM l g d yX2_bringBack cX2_bringBack 3 (some .boolean) [.ref p0, .int p1, .ref p2] h (some (.int o.1), o.2) := by
  refine EvM.of mk_X2_bringBack (Nat.le_of_ble_eq_true rfl) ?_
  intro Γ hl hg hq X
  have hd1 : 1 ≤ d := by omega
  have hk : RqI Γ o := hq
  unfold fn_X2_bringBack at hf
  show Jd Γ (0, 0) 0 [some (.ref p0), some (.int p1), some (.ref p2)] [] h
  refine r_iload_n (pc := 0) X dX2_bringBack_0 rfl ?_
  refine r_if_lt (pc := 1) X 18 dX2_bringBack_1 (by decide) (fun c10 => ?_) (fun c10 => ?_)
  · rw [if_pos c10] at hf
    refine r_iconst (pc := 18) X 0 dX2_bringBack_18 (by decide) ?_
    obtain rfl := Option.some.inj hf
    exact r_zret (pc := 19) X dX2_bringBack_19 (Or.inl rfl) hk
  · rw [if_neg c10] at hf
    refine r_iload_n (pc := 4) X dX2_bringBack_4 rfl ?_
    refine r_iconst (pc := 5) X 2 dX2_bringBack_5 (by decide) ?_
    refine r_icmp_ge (pc := 6) X 18 dX2_bringBack_6 (by decide) (fun c9 => ?_) (fun c9 => ?_)
    · rw [if_neg c9] at hf
      refine r_iconst (pc := 18) X 0 dX2_bringBack_18 (by decide) ?_
      obtain rfl := Option.some.inj hf
      exact r_zret (pc := 19) X dX2_bringBack_19 (Or.inl rfl) hk
    · rw [if_pos c9] at hf
      refine r_aload_n (pc := 9) X dX2_bringBack_9 rfl ?_
      obtain ⟨a1, ea1, hf⟩ := ob hf
      refine r_getR (pc := 10) X dX2_bringBack_10 fl_X2_21 rfl ea1 ?_
      refine r_iload_n (pc := 13) X dX2_bringBack_13 rfl ?_
      obtain ⟨x2, ex2, hf⟩ := ob hf
      refine r_zald (pc := 14) X dX2_bringBack_14 ex2 ?_
      refine r_if_ne (pc := 15) X 20 dX2_bringBack_15 (by decide) (fun c8 => ?_) (fun c8 => ?_)
      · rw [if_neg c8] at hf
        refine r_aload_n (pc := 20) X dX2_bringBack_20 rfl ?_
        refine r_aload_n (pc := 21) X dX2_bringBack_21 rfl ?_
        obtain ⟨a3, ea3, hf⟩ := ob hf
        refine r_getR (pc := 22) X dX2_bringBack_22 fl_X2_18 rfl ea3 ?_
        refine r_iload_n (pc := 25) X dX2_bringBack_25 rfl ?_
        obtain ⟨a4, ea4, hf⟩ := ob hf
        refine r_aald (pc := 26) X dX2_bringBack_26 ea4 ?_
        obtain ⟨u5, eu5, hf⟩ := ob hf
        obtain ⟨h6, eh6, hf⟩ := ob hf
        refine r_callVV (pc := 27) X [.ref a4] dX2_bringBack_27 ml_X2_32 vo_X7_takes ⟨Nat.le_refl _, Nat.le_refl _⟩ eu5 (ev_X7_takes (d := d - 1) (by omega) _ _ _ _ eh6) hd1 rfl (Nat.le_of_ble_eq_true rfl) rfl ?_
        refine r_aload_n (pc := 30) X dX2_bringBack_30 rfl ?_
        refine r_iconst (pc := 31) X 0 dX2_bringBack_31 (by decide) ?_
        obtain ⟨h7, eh7, hf⟩ := ob hf
        refine r_putI (pc := 32) X dX2_bringBack_32 fp_X2_25 rfl eh7 ?_
        refine r_iconst (pc := 35) X 1 dX2_bringBack_35 (by decide) ?_
        obtain rfl := Option.some.inj hf
        exact r_zret (pc := 36) X dX2_bringBack_36 (Or.inr rfl) hk
      · rw [if_pos c8] at hf
        refine r_iconst (pc := 18) X 0 dX2_bringBack_18 (by decide) ?_
        obtain rfl := Option.some.inj hf
        exact r_zret (pc := 19) X dX2_bringBack_19 (Or.inl rfl) hk

theorem dX2_forgetAll_0 : decode cX2_forgetAll 0 = .ok (.aload_n 0, 1) := by decide +kernel
theorem dX2_forgetAll_1 : decode cX2_forgetAll 1 = .ok (.iconst 0, 1) := by decide +kernel
theorem dX2_forgetAll_2 : decode cX2_forgetAll 2 = .ok (.putfield 25, 3) := by decide +kernel
theorem dX2_forgetAll_5 : decode cX2_forgetAll 5 = .ok (.iconst 0, 1) := by decide +kernel
theorem dX2_forgetAll_6 : decode cX2_forgetAll 6 = .ok (.istore_n 1, 1) := by decide +kernel
theorem dX2_forgetAll_7 : decode cX2_forgetAll 7 = .ok (.iload_n 1, 1) := by decide +kernel
theorem dX2_forgetAll_8 : decode cX2_forgetAll 8 = .ok (.iconst 2, 1) := by decide +kernel
theorem dX2_forgetAll_9 : decode cX2_forgetAll 9 = .ok (.if_icmp .ge 16, 3) := by decide +kernel
theorem dX2_forgetAll_12 : decode cX2_forgetAll 12 = .ok (.aload_n 0, 1) := by decide +kernel
theorem dX2_forgetAll_13 : decode cX2_forgetAll 13 = .ok (.getfield 21, 3) := by decide +kernel
theorem dX2_forgetAll_16 : decode cX2_forgetAll 16 = .ok (.iload_n 1, 1) := by decide +kernel
theorem dX2_forgetAll_17 : decode cX2_forgetAll 17 = .ok (.iconst 0, 1) := by decide +kernel
theorem dX2_forgetAll_18 : decode cX2_forgetAll 18 = .ok (.bastore, 1) := by decide +kernel
theorem dX2_forgetAll_19 : decode cX2_forgetAll 19 = .ok (.iinc 1 1, 3) := by decide +kernel
theorem dX2_forgetAll_22 : decode cX2_forgetAll 22 = .ok (.goto (-15), 3) := by decide +kernel
theorem dX2_forgetAll_25 : decode cX2_forgetAll 25 = .ok (.return_, 1) := by decide +kernel
def lb_X2_forgetAll_7 (v0 : Nat) (s : Int32 × aH) : Option ((Int32 × aH) ⊕ ((aH))) :=
  if s.1 < 2 then
    (gR s.2 v0 1 2).bind fun a2 =>
    (wZ s.2 a2 s.1 0).bind fun h3 =>
    (some (s.1 + 1)).bind fun x4 =>
    some (.inl (x4, h3))
  else
    some (.inr s.2)
def hd_X2_forgetAll_7 (Γ : aC) (v0 : Nat) (s : Int32 × aH) : Prop := Jd Γ (0, 0) 7 [some (.ref v0), some (.int s.1)] [] s.2
def ex_X2_forgetAll_7 (Γ : aC) (v0 : Nat) (r : (aH)) : Prop := (fun r => RqV Γ r) r
set_option maxRecDepth 20000 in
set_option maxHeartbeats 4000000 in
theorem lw_X2_forgetAll_7 {Γ : aC} {d : Nat} (X : Cx Γ RX2 cX2_forgetAll 2 none (d, 0, 0)) (hd : 0 ≤ d) (v0 : Nat) : ∀ n s o, lp (lb_X2_forgetAll_7 v0) n s = some o → ex_X2_forgetAll_7 Γ v0 o → hd_X2_forgetAll_7 Γ v0 s := by
  have hd1 : 0 ≤ d := by omega
  refine J_lp _ _ _ ?_
  intro s o hf hk
  unfold lb_X2_forgetAll_7 at hf
  refine r_iload_n (pc := 7) X dX2_forgetAll_7 rfl ?_
  refine r_iconst (pc := 8) X 2 dX2_forgetAll_8 (by decide) ?_
  refine r_icmp_ge (pc := 9) X 25 dX2_forgetAll_9 (by decide) (fun c5 => ?_) (fun c5 => ?_)
  · rw [if_neg c5] at hf
    obtain rfl := Option.some.inj hf
    exact r_vret (pc := 25) X dX2_forgetAll_25 hk
  · rw [if_pos c5] at hf
    refine r_aload_n (pc := 12) X dX2_forgetAll_12 rfl ?_
    obtain ⟨a2, ea2, hf⟩ := ob hf
    refine r_getR (pc := 13) X dX2_forgetAll_13 fl_X2_21 rfl ea2 ?_
    refine r_iload_n (pc := 16) X dX2_forgetAll_16 rfl ?_
    refine r_iconst (pc := 17) X 0 dX2_forgetAll_17 (by decide) ?_
    obtain ⟨h3, eh3, hf⟩ := ob hf
    refine r_zast (pc := 18) X dX2_forgetAll_18 eh3 ?_
    obtain ⟨x4, ex4, hf⟩ := ob hf
    refine r_iinc2 (pc := 19) X 1 [some (.ref v0), some (.int x4)] dX2_forgetAll_19 (by decide) rfl (by decide) ex4 rfl ?_
    refine r_goto (pc := 22) X 7 dX2_forgetAll_22 (by decide) ?_
    obtain rfl := Option.some.inj hf
    exact hk
def fn_X2_forgetAll (h : aH) (p0 : Nat) : Option (aH) :=
  (pI h p0 1 3 0).bind fun h1 =>
  (lp (lb_X2_forgetAll_7 p0) lpN (0, h1)).bind fun o6 =>
  some o6
set_option maxRecDepth 20000 in
set_option maxHeartbeats 4000000 in
theorem ev_X2_forgetAll {l : Launch} {g : aG} {d : Nat} (hd : 0 ≤ d) (h : aH) (p0 : Nat) (o : aH) (hf : fn_X2_forgetAll h p0 = some o) : EvM l g d yX2_forgetAll cX2_forgetAll 2 none [.ref p0] h (none, o) := by
  refine EvM.of mk_X2_forgetAll (Nat.le_of_ble_eq_true rfl) ?_
  intro Γ hl hg hq X
  have hd1 : 0 ≤ d := by omega
  have hk : RqV Γ o := hq
  unfold fn_X2_forgetAll at hf
  show Jd Γ (0, 0) 0 [some (.ref p0), none] [] h
  refine r_aload_n (pc := 0) X dX2_forgetAll_0 rfl ?_
  refine r_iconst (pc := 1) X 0 dX2_forgetAll_1 (by decide) ?_
  obtain ⟨h1, eh1, hf⟩ := ob hf
  refine r_putI (pc := 2) X dX2_forgetAll_2 fp_X2_25 rfl eh1 ?_
  refine r_iconst (pc := 5) X 0 dX2_forgetAll_5 (by decide) ?_
  refine r_istore_n (pc := 6) X [some (.ref p0), some (.int 0)] dX2_forgetAll_6 (by decide) rfl ?_
  obtain ⟨o6, eo6, hf⟩ := ob hf
  refine (lw_X2_forgetAll_7 X hd _ lpN _ o6 eo6 ?_)
  obtain rfl := Option.some.inj hf
  exact hk
