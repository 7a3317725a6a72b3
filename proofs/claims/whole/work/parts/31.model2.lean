theorem dX12_readRule_0 : decode cX12_readRule 0 = .ok (.aload_n 0, 1) := by decide +kernel
theorem dX12_readRule_1 : decode cX12_readRule 1 = .ok (.bipush 40, 2) := by decide +kernel
theorem dX12_readRule_3 : decode cX12_readRule 3 = .ok (.invokevirtual 169, 3) := by decide +kernel
theorem dX12_readRule_6 : decode cX12_readRule 6 = .ok (.aload_n 0, 1) := by decide +kernel
theorem dX12_readRule_7 : decode cX12_readRule 7 = .ok (.iconst 0, 1) := by decide +kernel
theorem dX12_readRule_8 : decode cX12_readRule 8 = .ok (.putfield 207, 3) := by decide +kernel
theorem dX12_readRule_11 : decode cX12_readRule 11 = .ok (.aload_n 0, 1) := by decide +kernel
theorem dX12_readRule_12 : decode cX12_readRule 12 = .ok (.getfield 127, 3) := by decide +kernel
theorem dX12_readRule_15 : decode cX12_readRule 15 = .ok (.ifCond .le 9, 3) := by decide +kernel
theorem dX12_readRule_18 : decode cX12_readRule 18 = .ok (.aload_n 0, 1) := by decide +kernel
theorem dX12_readRule_19 : decode cX12_readRule 19 = .ok (.iconst 0, 1) := by decide +kernel
theorem dX12_readRule_20 : decode cX12_readRule 20 = .ok (.invokevirtual 194, 3) := by decide +kernel
theorem dX12_readRule_23 : decode cX12_readRule 23 = .ok (.pop, 1) := by decide +kernel
theorem dX12_readRule_24 : decode cX12_readRule 24 = .ok (.aload_n 0, 1) := by decide +kernel
theorem dX12_readRule_25 : decode cX12_readRule 25 = .ok (.invokevirtual 172, 3) := by decide +kernel
theorem dX12_readRule_28 : decode cX12_readRule 28 = .ok (.ireturn, 1) := by decide +kernel
def fn_X12_readRule (h : aH) (p0 : Nat) : Option (Int32 × aH) :=
  (ck h p0 11).bind fun u1 =>
  (fn_X12_beginText h p0 40).bind fun h2 =>
  (pZ h2 p0 11 21 0).bind fun h3 =>
  (gI h3 p0 11 13).bind fun x4 =>
  ((
    if x4 ≤ 0 then
      some h3
    else
      (ck h3 p0 11).bind fun u9 =>
      (fn_X12_held (fn_X12_thing 60) h3 p0 0).bind fun o10 =>
      some o10.2
  ) : Option (aH)).bind fun t5 =>
  (ck t5 p0 11).bind fun u6 =>
  (fn_X12_wasRight t5 p0).bind fun o7 =>
  (bz o7.1).bind fun x8 =>
  some (x8, o7.2)
set_option maxRecDepth 20000 in
set_option maxHeartbeats 4000000 in
theorem ev_X12_readRule {l : Launch} {g : aG} {d : Nat} (hd : 244 ≤ d) (h : aH) (p0 : Nat) (o : Int32 × aH) (hf : fn_X12_readRule h p0 = some o) : EvM l g d yX12_readRule cX12_readRule 1 (some .boolean) [.ref p0] h (some (.int o.1), o.2) := by
  refine EvM.of mk_X12_readRule (Nat.le_of_ble_eq_true rfl) ?_
  intro Γ hl hg hq X
  have hd1 : 1 ≤ d := by omega
  have hk : RqI Γ o := hq
  unfold fn_X12_readRule at hf
  show Jd Γ (0, 0) 0 [some (.ref p0)] [] h
  refine r_aload_n (pc := 0) X dX12_readRule_0 rfl ?_
  refine r_bipush (pc := 1) X 40 dX12_readRule_1 (by decide) ?_
  obtain ⟨u1, eu1, hf⟩ := ob hf
  obtain ⟨h2, eh2, hf⟩ := ob hf
  refine r_callVV (pc := 3) X [.int 40] dX12_readRule_3 ml_X12_169 vo_X12_beginText ⟨Nat.le_refl _, Nat.le_refl _⟩ eu1 (ev_X12_beginText (d := d - 1) (by omega) _ _ _ _ eh2) hd1 rfl (Nat.le_of_ble_eq_true rfl) rfl ?_
  refine r_aload_n (pc := 6) X dX12_readRule_6 rfl ?_
  refine r_iconst (pc := 7) X 0 dX12_readRule_7 (by decide) ?_
  obtain ⟨h3, eh3, hf⟩ := ob hf
  refine r_putZ (pc := 8) X dX12_readRule_8 fp_X12_207 rfl eh3 ?_
  refine r_aload_n (pc := 11) X dX12_readRule_11 rfl ?_
  obtain ⟨x4, ex4, hf⟩ := ob hf
  refine r_getI (pc := 12) X dX12_readRule_12 fl_X12_127 rfl ex4 ?_
  obtain ⟨t5, et5, hf⟩ := ob hf
  have Jt5 : Jd Γ (0, 0) 24 [some (.ref p0)] [] t5 := by
    refine r_aload_n (pc := 24) X dX12_readRule_24 rfl ?_
    obtain ⟨u6, eu6, hf⟩ := ob hf
    obtain ⟨o7, eo7, hf⟩ := ob hf
    refine r_callVI (pc := 25) X [] dX12_readRule_25 ml_X12_172 vo_X12_wasRight ⟨Nat.le_refl _, Nat.le_refl _⟩ eu6 (ev_X12_wasRight (d := d - 1) (by omega) _ _ _ eo7) hd1 rfl (Nat.le_of_ble_eq_true rfl) rfl ?_
    obtain ⟨x8, ex8, hf⟩ := ob hf
    obtain rfl := Option.some.inj hf
    exact r_zretB (pc := 28) X dX12_readRule_28 ex8 hk
  refine r_if_le (pc := 15) X 24 dX12_readRule_15 (by decide) (fun c11 => ?_) (fun c11 => ?_)
  · rw [if_pos c11] at et5
    obtain rfl := Option.some.inj et5
    exact Jt5
  · rw [if_neg c11] at et5
    refine r_aload_n (pc := 18) X dX12_readRule_18 rfl ?_
    refine r_iconst (pc := 19) X 0 dX12_readRule_19 (by decide) ?_
    obtain ⟨u9, eu9, et5⟩ := ob et5
    obtain ⟨o10, eo10, et5⟩ := ob et5
    refine r_callVI (pc := 20) X [.int 0] dX12_readRule_20 ml_X12_194 vo_X12_held ⟨Nat.le_refl _, Nat.le_refl _⟩ eu9 (ev_X12_held (fn_X12_thing 60) (D0 := 240) (d := d - 1) (by omega) (ev_X12_thing 60) _ _ _ _ eo10) hd1 rfl (Nat.le_of_ble_eq_true rfl) rfl ?_
    refine r_pop (pc := 23) X dX12_readRule_23 rfl ?_
    obtain rfl := Option.some.inj et5
    exact Jt5

theorem dX12_rule_0 : decode cX12_rule 0 = .ok (.aload_n 0, 1) := by decide +kernel
theorem dX12_rule_1 : decode cX12_rule 1 = .ok (.iconst 0, 1) := by decide +kernel
theorem dX12_rule_2 : decode cX12_rule 2 = .ok (.putfield 100, 3) := by decide +kernel
theorem dX12_rule_5 : decode cX12_rule 5 = .ok (.aload_n 0, 1) := by decide +kernel
theorem dX12_rule_6 : decode cX12_rule 6 = .ok (.getfield 121, 3) := by decide +kernel
theorem dX12_rule_9 : decode cX12_rule 9 = .ok (.istore_n 1, 1) := by decide +kernel
theorem dX12_rule_10 : decode cX12_rule 10 = .ok (.aload_n 0, 1) := by decide +kernel
theorem dX12_rule_11 : decode cX12_rule 11 = .ok (.invokevirtual 211, 3) := by decide +kernel
theorem dX12_rule_14 : decode cX12_rule 14 = .ok (.ifCond .ne 10, 3) := by decide +kernel
theorem dX12_rule_17 : decode cX12_rule 17 = .ok (.iconst (-1), 1) := by decide +kernel
theorem dX12_rule_18 : decode cX12_rule 18 = .ok (.aload_n 0, 1) := by decide +kernel
theorem dX12_rule_19 : decode cX12_rule 19 = .ok (.getfield 136, 3) := by decide +kernel
theorem dX12_rule_22 : decode cX12_rule 22 = .ok (.isub, 1) := by decide +kernel
theorem dX12_rule_23 : decode cX12_rule 23 = .ok (.ireturn, 1) := by decide +kernel
theorem dX12_rule_24 : decode cX12_rule 24 = .ok (.iconst 0, 1) := by decide +kernel
theorem dX12_rule_25 : decode cX12_rule 25 = .ok (.istore_n 2, 1) := by decide +kernel
theorem dX12_rule_26 : decode cX12_rule 26 = .ok (.iload_n 2, 1) := by decide +kernel
theorem dX12_rule_27 : decode cX12_rule 27 = .ok (.iload_n 1, 1) := by decide +kernel
theorem dX12_rule_28 : decode cX12_rule 28 = .ok (.if_icmp .ge 21, 3) := by decide +kernel
theorem dX12_rule_31 : decode cX12_rule 31 = .ok (.aload_n 0, 1) := by decide +kernel
theorem dX12_rule_32 : decode cX12_rule 32 = .ok (.getfield 33, 3) := by decide +kernel
theorem dX12_rule_35 : decode cX12_rule 35 = .ok (.iload_n 2, 1) := by decide +kernel
theorem dX12_rule_36 : decode cX12_rule 36 = .ok (.aload_n 0, 1) := by decide +kernel
theorem dX12_rule_37 : decode cX12_rule 37 = .ok (.getfield 22, 3) := by decide +kernel
theorem dX12_rule_40 : decode cX12_rule 40 = .ok (.iload_n 2, 1) := by decide +kernel
theorem dX12_rule_41 : decode cX12_rule 41 = .ok (.baload, 1) := by decide +kernel
theorem dX12_rule_42 : decode cX12_rule 42 = .ok (.bastore, 1) := by decide +kernel
theorem dX12_rule_43 : decode cX12_rule 43 = .ok (.iinc 2 1, 3) := by decide +kernel
theorem dX12_rule_46 : decode cX12_rule 46 = .ok (.goto (-20), 3) := by decide +kernel
theorem dX12_rule_49 : decode cX12_rule 49 = .ok (.aload_n 0, 1) := by decide +kernel
theorem dX12_rule_50 : decode cX12_rule 50 = .ok (.iload_n 1, 1) := by decide +kernel
theorem dX12_rule_51 : decode cX12_rule 51 = .ok (.putfield 214, 3) := by decide +kernel
theorem dX12_rule_54 : decode cX12_rule 54 = .ok (.iconst 0, 1) := by decide +kernel
theorem dX12_rule_55 : decode cX12_rule 55 = .ok (.ireturn, 1) := by decide +kernel
def lb_X12_rule_26 (v0 : Nat) (v1 : Int32) (s : Int32 × aH) : Option ((Int32 × aH) ⊕ ((aH))) :=
  if s.1 < v1 then
    (gR s.2 v0 11 18).bind fun a5 =>
    (gR s.2 v0 11 7).bind fun a6 =>
    (aI s.2 a6 12 s.1).bind fun x7 =>
    (wB s.2 a5 s.1 x7).bind fun h8 =>
    (some (s.1 + 1)).bind fun x9 =>
    some (.inl (x9, h8))
  else
    some (.inr s.2)
def hd_X12_rule_26 (Γ : aC) (v0 : Nat) (v1 : Int32) (s : Int32 × aH) : Prop := Jd Γ (0, 0) 26 [some (.ref v0), some (.int v1), some (.int s.1)] [] s.2
def ex_X12_rule_26 (Γ : aC) (v0 : Nat) (v1 : Int32) (r : (aH)) : Prop := (fun r => ∀ (j2 : Option Value), Jd Γ (0, 0) 49 [some (.ref v0), some (.int v1), j2] [] r) r
set_option maxRecDepth 20000 in
set_option maxHeartbeats 4000000 in
theorem lw_X12_rule_26 {Γ : aC} {d : Nat} (X : Cx Γ RX12 cX12_rule 3 (some .int) (d, 0, 0)) (hd : 245 ≤ d) (v0 : Nat) (v1 : Int32) : ∀ n s o, lp (lb_X12_rule_26 v0 v1) n s = some o → ex_X12_rule_26 Γ v0 v1 o → hd_X12_rule_26 Γ v0 v1 s := by
  have hd1 : 1 ≤ d := by omega
  refine J_lp _ _ _ ?_
  intro s o hf hk
  unfold lb_X12_rule_26 at hf
  refine r_iload_n (pc := 26) X dX12_rule_26 rfl ?_
  refine r_iload_n (pc := 27) X dX12_rule_27 rfl ?_
  refine r_icmp_ge (pc := 28) X 49 dX12_rule_28 (by decide) (fun c10 => ?_) (fun c10 => ?_)
  · rw [if_neg c10] at hf
    obtain rfl := Option.some.inj hf
    exact hk _
  · rw [if_pos c10] at hf
    refine r_aload_n (pc := 31) X dX12_rule_31 rfl ?_
    obtain ⟨a5, ea5, hf⟩ := ob hf
    refine r_getR (pc := 32) X dX12_rule_32 fl_X12_33 rfl ea5 ?_
    refine r_iload_n (pc := 35) X dX12_rule_35 rfl ?_
    refine r_aload_n (pc := 36) X dX12_rule_36 rfl ?_
    obtain ⟨a6, ea6, hf⟩ := ob hf
    refine r_getR (pc := 37) X dX12_rule_37 fl_X12_22 rfl ea6 ?_
    refine r_iload_n (pc := 40) X dX12_rule_40 rfl ?_
    obtain ⟨x7, ex7, hf⟩ := ob hf
    refine r_bald (pc := 41) X dX12_rule_41 ex7 ?_
    obtain ⟨h8, eh8, hf⟩ := ob hf
    refine r_bast (pc := 42) X dX12_rule_42 eh8 ?_
    obtain ⟨x9, ex9, hf⟩ := ob hf
    refine r_iinc2 (pc := 43) X 1 [some (.ref v0), some (.int v1), some (.int x9)] dX12_rule_43 (by decide) rfl (by decide) ex9 rfl ?_
    refine r_goto (pc := 46) X 26 dX12_rule_46 (by decide) ?_
    obtain rfl := Option.some.inj hf
    exact hk
def fn_X12_rule (h : aH) (p0 : Nat) : Option (Int32 × aH) :=
  (pI h p0 11 11 0).bind fun h1 =>
  (gI h1 p0 11 8).bind fun x2 =>
  (ck h1 p0 11).bind fun u3 =>
  (fn_X12_readRule h1 p0).bind fun o4 =>
  if o4.1 = 0 then
    (gI o4.2 p0 11 16).bind fun x14 =>
    some (((-1) - x14), o4.2)
  else
    (lp (lb_X12_rule_26 p0 x2) lpN (0, o4.2)).bind fun o11 =>
    (pI o11 p0 11 20 x2).bind fun h13 =>
    some (0, h13)
set_option maxRecDepth 20000 in
set_option maxHeartbeats 4000000 in
theorem ev_X12_rule {l : Launch} {g : aG} {d : Nat} (hd : 245 ≤ d) (h : aH) (p0 : Nat) (o : Int32 × aH) (hf : fn_X12_rule h p0 = some o) : EvM l g d yX12_rule cX12_rule 3 (some .int) [.ref p0] h (some (.int o.1), o.2) := by
  refine EvM.of mk_X12_rule (Nat.le_of_ble_eq_true rfl) ?_
  intro Γ hl hg hq X
  have hd1 : 1 ≤ d := by omega
  have hk : RqI Γ o := hq
  unfold fn_X12_rule at hf
  show Jd Γ (0, 0) 0 [some (.ref p0), none, none] [] h
  refine r_aload_n (pc := 0) X dX12_rule_0 rfl ?_
  refine r_iconst (pc := 1) X 0 dX12_rule_1 (by decide) ?_
  obtain ⟨h1, eh1, hf⟩ := ob hf
  refine r_putI (pc := 2) X dX12_rule_2 fp_X12_100 rfl eh1 ?_
  refine r_aload_n (pc := 5) X dX12_rule_5 rfl ?_
  obtain ⟨x2, ex2, hf⟩ := ob hf
  refine r_getI (pc := 6) X dX12_rule_6 fl_X12_121 rfl ex2 ?_
  refine r_istore_n (pc := 9) X [some (.ref p0), some (.int x2), none] dX12_rule_9 (by decide) rfl ?_
  refine r_aload_n (pc := 10) X dX12_rule_10 rfl ?_
  obtain ⟨u3, eu3, hf⟩ := ob hf
  obtain ⟨o4, eo4, hf⟩ := ob hf
  refine r_callVI (pc := 11) X [] dX12_rule_11 ml_X12_211 vo_X12_readRule ⟨Nat.le_refl _, Nat.le_refl _⟩ eu3 (ev_X12_readRule (d := d - 1) (by omega) _ _ _ eo4) hd1 rfl (Nat.le_of_ble_eq_true rfl) rfl ?_
  refine r_if_ne (pc := 14) X 24 dX12_rule_14 (by decide) (fun c15 => ?_) (fun c15 => ?_)
  · rw [if_neg c15] at hf
    refine r_iconst (pc := 24) X 0 dX12_rule_24 (by decide) ?_
    refine r_istore_n (pc := 25) X [some (.ref p0), some (.int x2), some (.int 0)] dX12_rule_25 (by decide) rfl ?_
    obtain ⟨o11, eo11, hf⟩ := ob hf
    refine (lw_X12_rule_26 X hd _ _ lpN _ o11 eo11 ?_)
    intro j12
    refine r_aload_n (pc := 49) X dX12_rule_49 rfl ?_
    refine r_iload_n (pc := 50) X dX12_rule_50 rfl ?_
    obtain ⟨h13, eh13, hf⟩ := ob hf
    refine r_putI (pc := 51) X dX12_rule_51 fp_X12_214 rfl eh13 ?_
    refine r_iconst (pc := 54) X 0 dX12_rule_54 (by decide) ?_
    obtain rfl := Option.some.inj hf
    exact r_iret (pc := 55) X dX12_rule_55 hk
  · rw [if_pos c15] at hf
    refine r_iconst (pc := 17) X (-1) dX12_rule_17 (by decide) ?_
    refine r_aload_n (pc := 18) X dX12_rule_18 rfl ?_
    obtain ⟨x14, ex14, hf⟩ := ob hf
    refine r_getI (pc := 19) X dX12_rule_19 fl_X12_136 rfl ex14 ?_
    refine r_isub (pc := 22) X dX12_rule_22 ?_
    obtain rfl := Option.some.inj hf
    exact r_iret (pc := 23) X dX12_rule_23 hk

theorem dX12_flowOf_0 : decode cX12_flowOf 0 = .ok (.aload_n 1, 1) := by decide +kernel
theorem dX12_flowOf_1 : decode cX12_flowOf 1 = .ok (.aload_n 0, 1) := by decide +kernel
theorem dX12_flowOf_2 : decode cX12_flowOf 2 = .ok (.getfield 13, 3) := by decide +kernel
theorem dX12_flowOf_5 : decode cX12_flowOf 5 = .ok (.iload_n 2, 1) := by decide +kernel
theorem dX12_flowOf_6 : decode cX12_flowOf 6 = .ok (.iaload, 1) := by decide +kernel
theorem dX12_flowOf_7 : decode cX12_flowOf 7 = .ok (.iaload, 1) := by decide +kernel
theorem dX12_flowOf_8 : decode cX12_flowOf 8 = .ok (.istore_n 3, 1) := by decide +kernel
theorem dX12_flowOf_9 : decode cX12_flowOf 9 = .ok (.aload_n 1, 1) := by decide +kernel
theorem dX12_flowOf_10 : decode cX12_flowOf 10 = .ok (.aload_n 0, 1) := by decide +kernel
theorem dX12_flowOf_11 : decode cX12_flowOf 11 = .ok (.getfield 16, 3) := by decide +kernel
theorem dX12_flowOf_14 : decode cX12_flowOf 14 = .ok (.iload_n 2, 1) := by decide +kernel
theorem dX12_flowOf_15 : decode cX12_flowOf 15 = .ok (.iaload, 1) := by decide +kernel
theorem dX12_flowOf_16 : decode cX12_flowOf 16 = .ok (.iaload, 1) := by decide +kernel
theorem dX12_flowOf_17 : decode cX12_flowOf 17 = .ok (.istore 4, 2) := by decide +kernel
theorem dX12_flowOf_19 : decode cX12_flowOf 19 = .ok (.iconst 1, 1) := by decide +kernel
theorem dX12_flowOf_20 : decode cX12_flowOf 20 = .ok (.iload_n 3, 1) := by decide +kernel
theorem dX12_flowOf_21 : decode cX12_flowOf 21 = .ok (.iload 4, 2) := by decide +kernel
theorem dX12_flowOf_23 : decode cX12_flowOf 23 = .ok (.isub, 1) := by decide +kernel
theorem dX12_flowOf_24 : decode cX12_flowOf 24 = .ok (.iconst 4, 1) := by decide +kernel
theorem dX12_flowOf_25 : decode cX12_flowOf 25 = .ok (.if_icmp .le 7, 3) := by decide +kernel
theorem dX12_flowOf_28 : decode cX12_flowOf 28 = .ok (.iconst 1, 1) := by decide +kernel
theorem dX12_flowOf_29 : decode cX12_flowOf 29 = .ok (.goto 4, 3) := by decide +kernel
theorem dX12_flowOf_32 : decode cX12_flowOf 32 = .ok (.iconst 0, 1) := by decide +kernel
theorem dX12_flowOf_33 : decode cX12_flowOf 33 = .ok (.iadd, 1) := by decide +kernel
theorem dX12_flowOf_34 : decode cX12_flowOf 34 = .ok (.istore 5, 2) := by decide +kernel
theorem dX12_flowOf_36 : decode cX12_flowOf 36 = .ok (.aload_n 0, 1) := by decide +kernel
theorem dX12_flowOf_37 : decode cX12_flowOf 37 = .ok (.getfield 214, 3) := by decide +kernel
theorem dX12_flowOf_40 : decode cX12_flowOf 40 = .ok (.ifCond .le 115, 3) := by decide +kernel
theorem dX12_flowOf_43 : decode cX12_flowOf 43 = .ok (.aload_n 0, 1) := by decide +kernel
theorem dX12_flowOf_44 : decode cX12_flowOf 44 = .ok (.getfield 39, 3) := by decide +kernel
theorem dX12_flowOf_47 : decode cX12_flowOf 47 = .ok (.iconst 0, 1) := by decide +kernel
theorem dX12_flowOf_48 : decode cX12_flowOf 48 = .ok (.iload_n 3, 1) := by decide +kernel
theorem dX12_flowOf_49 : decode cX12_flowOf 49 = .ok (.iastore, 1) := by decide +kernel
theorem dX12_flowOf_50 : decode cX12_flowOf 50 = .ok (.aload_n 0, 1) := by decide +kernel
theorem dX12_flowOf_51 : decode cX12_flowOf 51 = .ok (.getfield 39, 3) := by decide +kernel
theorem dX12_flowOf_54 : decode cX12_flowOf 54 = .ok (.iconst 1, 1) := by decide +kernel
theorem dX12_flowOf_55 : decode cX12_flowOf 55 = .ok (.iload 4, 2) := by decide +kernel
theorem dX12_flowOf_57 : decode cX12_flowOf 57 = .ok (.iastore, 1) := by decide +kernel
theorem dX12_flowOf_58 : decode cX12_flowOf 58 = .ok (.aload_n 0, 1) := by decide +kernel
theorem dX12_flowOf_59 : decode cX12_flowOf 59 = .ok (.getfield 39, 3) := by decide +kernel
theorem dX12_flowOf_62 : decode cX12_flowOf 62 = .ok (.iconst 2, 1) := by decide +kernel
theorem dX12_flowOf_63 : decode cX12_flowOf 63 = .ok (.aload_n 1, 1) := by decide +kernel
theorem dX12_flowOf_64 : decode cX12_flowOf 64 = .ok (.bipush 6, 2) := by decide +kernel
theorem dX12_flowOf_66 : decode cX12_flowOf 66 = .ok (.aload_n 0, 1) := by decide +kernel
theorem dX12_flowOf_67 : decode cX12_flowOf 67 = .ok (.getfield 13, 3) := by decide +kernel
theorem dX12_flowOf_70 : decode cX12_flowOf 70 = .ok (.iload_n 2, 1) := by decide +kernel
theorem dX12_flowOf_71 : decode cX12_flowOf 71 = .ok (.iaload, 1) := by decide +kernel
theorem dX12_flowOf_72 : decode cX12_flowOf 72 = .ok (.iadd, 1) := by decide +kernel
theorem dX12_flowOf_73 : decode cX12_flowOf 73 = .ok (.iaload, 1) := by decide +kernel
theorem dX12_flowOf_74 : decode cX12_flowOf 74 = .ok (.iastore, 1) := by decide +kernel
theorem dX12_flowOf_75 : decode cX12_flowOf 75 = .ok (.aload_n 0, 1) := by decide +kernel
theorem dX12_flowOf_76 : decode cX12_flowOf 76 = .ok (.getfield 39, 3) := by decide +kernel
theorem dX12_flowOf_79 : decode cX12_flowOf 79 = .ok (.iconst 3, 1) := by decide +kernel
theorem dX12_flowOf_80 : decode cX12_flowOf 80 = .ok (.aload_n 1, 1) := by decide +kernel
theorem dX12_flowOf_81 : decode cX12_flowOf 81 = .ok (.bipush 6, 2) := by decide +kernel
theorem dX12_flowOf_83 : decode cX12_flowOf 83 = .ok (.aload_n 0, 1) := by decide +kernel
theorem dX12_flowOf_84 : decode cX12_flowOf 84 = .ok (.getfield 16, 3) := by decide +kernel
theorem dX12_flowOf_87 : decode cX12_flowOf 87 = .ok (.iload_n 2, 1) := by decide +kernel
theorem dX12_flowOf_88 : decode cX12_flowOf 88 = .ok (.iaload, 1) := by decide +kernel
theorem dX12_flowOf_89 : decode cX12_flowOf 89 = .ok (.iadd, 1) := by decide +kernel
theorem dX12_flowOf_90 : decode cX12_flowOf 90 = .ok (.iaload, 1) := by decide +kernel
theorem dX12_flowOf_91 : decode cX12_flowOf 91 = .ok (.iastore, 1) := by decide +kernel
theorem dX12_flowOf_92 : decode cX12_flowOf 92 = .ok (.aload_n 0, 1) := by decide +kernel
theorem dX12_flowOf_93 : decode cX12_flowOf 93 = .ok (.getfield 39, 3) := by decide +kernel
theorem dX12_flowOf_96 : decode cX12_flowOf 96 = .ok (.iconst 4, 1) := by decide +kernel
theorem dX12_flowOf_97 : decode cX12_flowOf 97 = .ok (.iload_n 2, 1) := by decide +kernel
theorem dX12_flowOf_98 : decode cX12_flowOf 98 = .ok (.iastore, 1) := by decide +kernel
theorem dX12_flowOf_99 : decode cX12_flowOf 99 = .ok (.aload_n 0, 1) := by decide +kernel
theorem dX12_flowOf_100 : decode cX12_flowOf 100 = .ok (.getfield 39, 3) := by decide +kernel
theorem dX12_flowOf_103 : decode cX12_flowOf 103 = .ok (.iconst 5, 1) := by decide +kernel
theorem dX12_flowOf_104 : decode cX12_flowOf 104 = .ok (.aload_n 0, 1) := by decide +kernel
theorem dX12_flowOf_105 : decode cX12_flowOf 105 = .ok (.getfield 19, 3) := by decide +kernel
theorem dX12_flowOf_108 : decode cX12_flowOf 108 = .ok (.iload_n 2, 1) := by decide +kernel
theorem dX12_flowOf_109 : decode cX12_flowOf 109 = .ok (.iaload, 1) := by decide +kernel
theorem dX12_flowOf_110 : decode cX12_flowOf 110 = .ok (.iastore, 1) := by decide +kernel
theorem dX12_flowOf_111 : decode cX12_flowOf 111 = .ok (.aload_n 0, 1) := by decide +kernel
theorem dX12_flowOf_112 : decode cX12_flowOf 112 = .ok (.getfield 39, 3) := by decide +kernel
theorem dX12_flowOf_115 : decode cX12_flowOf 115 = .ok (.bipush 6, 2) := by decide +kernel
theorem dX12_flowOf_117 : decode cX12_flowOf 117 = .ok (.aload_n 1, 1) := by decide +kernel
theorem dX12_flowOf_118 : decode cX12_flowOf 118 = .ok (.bipush 14, 2) := by decide +kernel
theorem dX12_flowOf_120 : decode cX12_flowOf 120 = .ok (.iaload, 1) := by decide +kernel
theorem dX12_flowOf_121 : decode cX12_flowOf 121 = .ok (.iconst 4, 1) := by decide +kernel
theorem dX12_flowOf_122 : decode cX12_flowOf 122 = .ok (.irem, 1) := by decide +kernel
theorem dX12_flowOf_123 : decode cX12_flowOf 123 = .ok (.iastore, 1) := by decide +kernel
theorem dX12_flowOf_124 : decode cX12_flowOf 124 = .ok (.aload_n 0, 1) := by decide +kernel
theorem dX12_flowOf_125 : decode cX12_flowOf 125 = .ok (.aload_n 0, 1) := by decide +kernel
theorem dX12_flowOf_126 : decode cX12_flowOf 126 = .ok (.getfield 33, 3) := by decide +kernel
theorem dX12_flowOf_129 : decode cX12_flowOf 129 = .ok (.aload_n 0, 1) := by decide +kernel
theorem dX12_flowOf_130 : decode cX12_flowOf 130 = .ok (.getfield 214, 3) := by decide +kernel
theorem dX12_flowOf_133 : decode cX12_flowOf 133 = .ok (.bipush 40, 2) := by decide +kernel
theorem dX12_flowOf_135 : decode cX12_flowOf 135 = .ok (.invokevirtual 139, 3) := by decide +kernel
theorem dX12_flowOf_138 : decode cX12_flowOf 138 = .ok (.aload_n 0, 1) := by decide +kernel
theorem dX12_flowOf_139 : decode cX12_flowOf 139 = .ok (.iconst 1, 1) := by decide +kernel
theorem dX12_flowOf_140 : decode cX12_flowOf 140 = .ok (.putfield 207, 3) := by decide +kernel
theorem dX12_flowOf_143 : decode cX12_flowOf 143 = .ok (.aload_n 0, 1) := by decide +kernel
theorem dX12_flowOf_144 : decode cX12_flowOf 144 = .ok (.iconst 0, 1) := by decide +kernel
theorem dX12_flowOf_145 : decode cX12_flowOf 145 = .ok (.invokevirtual 194, 3) := by decide +kernel
theorem dX12_flowOf_148 : decode cX12_flowOf 148 = .ok (.istore 5, 2) := by decide +kernel
theorem dX12_flowOf_150 : decode cX12_flowOf 150 = .ok (.aload_n 0, 1) := by decide +kernel
theorem dX12_flowOf_151 : decode cX12_flowOf 151 = .ok (.iconst 0, 1) := by decide +kernel
theorem dX12_flowOf_152 : decode cX12_flowOf 152 = .ok (.putfield 207, 3) := by decide +kernel
theorem dX12_flowOf_155 : decode cX12_flowOf 155 = .ok (.iconst 0, 1) := by decide +kernel
theorem dX12_flowOf_156 : decode cX12_flowOf 156 = .ok (.iload_n 3, 1) := by decide +kernel
theorem dX12_flowOf_157 : decode cX12_flowOf 157 = .ok (.bipush 9, 2) := by decide +kernel
theorem dX12_flowOf_159 : decode cX12_flowOf 159 = .ok (.iload 4, 2) := by decide +kernel
theorem dX12_flowOf_161 : decode cX12_flowOf 161 = .ok (.isub, 1) := by decide +kernel
theorem dX12_flowOf_162 : decode cX12_flowOf 162 = .ok (.invokestatic 217, 3) := by decide +kernel
theorem dX12_flowOf_165 : decode cX12_flowOf 165 = .ok (.iload 5, 2) := by decide +kernel
theorem dX12_flowOf_167 : decode cX12_flowOf 167 = .ok (.invokestatic 217, 3) := by decide +kernel
theorem dX12_flowOf_170 : decode cX12_flowOf 170 = .ok (.invokestatic 223, 3) := by decide +kernel
theorem dX12_flowOf_173 : decode cX12_flowOf 173 = .ok (.ireturn, 1) := by decide +kernel
def fn_X12_flowOf (h : aH) (p0 : Nat) (p1 : Nat) (p2 : Int32) : Option (Int32 × aH) :=
  (gR h p0 11 4).bind fun a1 =>
  (aI h a1 14 p2).bind fun x2 =>
  (aI h p1 14 x2).bind fun x3 =>
  (gR h p0 11 5).bind fun a4 =>
  (aI h a4 14 p2).bind fun x5 =>
  (aI h p1 14 x5).bind fun x6 =>
  ((
    if (x3 - x6) ≤ 4 then
      some 0
    else
      some 1
  ) : Option (Int32)).bind fun t7 =>
  (some (1 + t7)).bind fun x8 =>
  (gI h p0 11 20).bind fun x9 =>
  ((
    if x9 ≤ 0 then
      some (x8, h)
    else
      (gR h p0 11 22).bind fun a11 =>
      (wI h a11 0 x3).bind fun h12 =>
      (gR h12 p0 11 22).bind fun a13 =>
      (wI h12 a13 1 x6).bind fun h14 =>
      (gR h14 p0 11 22).bind fun a15 =>
      (gR h14 p0 11 4).bind fun a16 =>
      (aI h14 a16 14 p2).bind fun x17 =>
      (aI h14 p1 14 (6 + x17)).bind fun x18 =>
      (wI h14 a15 2 x18).bind fun h19 =>
      (gR h19 p0 11 22).bind fun a20 =>
      (gR h19 p0 11 5).bind fun a21 =>
      (aI h19 a21 14 p2).bind fun x22 =>
      (aI h19 p1 14 (6 + x22)).bind fun x23 =>
      (wI h19 a20 3 x23).bind fun h24 =>
      (gR h24 p0 11 22).bind fun a25 =>
      (wI h24 a25 4 p2).bind fun h26 =>
      (gR h26 p0 11 22).bind fun a27 =>
      (gR h26 p0 11 6).bind fun a28 =>
      (aI h26 a28 14 p2).bind fun x29 =>
      (wI h26 a27 5 x29).bind fun h30 =>
      (gR h30 p0 11 22).bind fun a31 =>
      (aI h30 p1 14 14).bind fun x32 =>
      (irm x32 4).bind fun x33 =>
      (wI h30 a31 6 x33).bind fun h34 =>
      (gR h34 p0 11 18).bind fun a35 =>
      (gI h34 p0 11 20).bind fun x36 =>
      (ck h34 p0 11).bind fun u37 =>
      (fn_X12_begin h34 p0 a35 x36 40).bind fun h38 =>
      (pZ h38 p0 11 21 1).bind fun h39 =>
      (ck h39 p0 11).bind fun u40 =>
      (fn_X12_held (fn_X12_thing 60) h39 p0 0).bind fun o41 =>
      (pZ o41.2 p0 11 21 0).bind fun h42 =>
      some (o41.1, h42)
  ) : Option (Int32 × aH)).bind fun t10 =>
  some ((mx 0 (mn (mn x3 (9 - x6)) t10.1)), t10.2)
set_option maxRecDepth 20000 in
set_option maxHeartbeats 4000000 in
theorem ev_X12_flowOf {l : Launch} {g : aG} {d : Nat} (hd : 244 ≤ d) (h : aH) (p0 : Nat) (p1 : Nat) (p2 : Int32) (o : Int32 × aH) (hf : fn_X12_flowOf h p0 p1 p2 = some o) : EvM l g d yX12_flowOf cX12_flowOf 6 (some .int) [.ref p0, .ref p1, .int p2] h (some (.int o.1), o.2) := by
  refine EvM.of mk_X12_flowOf (Nat.le_of_ble_eq_true rfl) ?_
  intro Γ hl hg hq X
  have hd1 : 1 ≤ d := by omega
  have hk : RqI Γ o := hq
  unfold fn_X12_flowOf at hf
  show Jd Γ (0, 0) 0 [some (.ref p0), some (.ref p1), some (.int p2), none, none, none] [] h
  refine r_aload_n (pc := 0) X dX12_flowOf_0 rfl ?_
  refine r_aload_n (pc := 1) X dX12_flowOf_1 rfl ?_
  obtain ⟨a1, ea1, hf⟩ := ob hf
  refine r_getR (pc := 2) X dX12_flowOf_2 fl_X12_13 rfl ea1 ?_
  refine r_iload_n (pc := 5) X dX12_flowOf_5 rfl ?_
  obtain ⟨x2, ex2, hf⟩ := ob hf
  refine r_iald (pc := 6) X dX12_flowOf_6 ex2 ?_
  obtain ⟨x3, ex3, hf⟩ := ob hf
  refine r_iald (pc := 7) X dX12_flowOf_7 ex3 ?_
  refine r_istore_n (pc := 8) X [some (.ref p0), some (.ref p1), some (.int p2), some (.int x3), none, none] dX12_flowOf_8 (by decide) rfl ?_
  refine r_aload_n (pc := 9) X dX12_flowOf_9 rfl ?_
  refine r_aload_n (pc := 10) X dX12_flowOf_10 rfl ?_
  obtain ⟨a4, ea4, hf⟩ := ob hf
  refine r_getR (pc := 11) X dX12_flowOf_11 fl_X12_16 rfl ea4 ?_
  refine r_iload_n (pc := 14) X dX12_flowOf_14 rfl ?_
  obtain ⟨x5, ex5, hf⟩ := ob hf
  refine r_iald (pc := 15) X dX12_flowOf_15 ex5 ?_
  obtain ⟨x6, ex6, hf⟩ := ob hf
  refine r_iald (pc := 16) X dX12_flowOf_16 ex6 ?_
  refine r_istore (pc := 17) X [some (.ref p0), some (.ref p1), some (.int p2), some (.int x3), some (.int x6), none] dX12_flowOf_17 (by decide) rfl ?_
  refine r_iconst (pc := 19) X 1 dX12_flowOf_19 (by decide) ?_
  refine r_iload_n (pc := 20) X dX12_flowOf_20 rfl ?_
  refine r_iload (pc := 21) X dX12_flowOf_21 rfl ?_
  refine r_isub (pc := 23) X dX12_flowOf_23 ?_
  refine r_iconst (pc := 24) X 4 dX12_flowOf_24 (by decide) ?_
  obtain ⟨t7, et7, hf⟩ := ob hf
  have Jt7 : Jd Γ (0, 0) 33 [some (.ref p0), some (.ref p1), some (.int p2), some (.int x3), some (.int x6), none] [.int t7, .int 1] h := by
    refine r_iadd (pc := 33) X dX12_flowOf_33 ?_
    obtain ⟨x8, ex8, hf⟩ := ob hf
    refine r_nmI ex8 ?_
    refine r_istore (pc := 34) X [some (.ref p0), some (.ref p1), some (.int p2), some (.int x3), some (.int x6), some (.int x8)] dX12_flowOf_34 (by decide) rfl ?_
    refine r_aload_n (pc := 36) X dX12_flowOf_36 rfl ?_
    obtain ⟨x9, ex9, hf⟩ := ob hf
    refine r_getI (pc := 37) X dX12_flowOf_37 fl_X12_214 rfl ex9 ?_
    obtain ⟨t10, et10, hf⟩ := ob hf
    have Jt10 : Jd Γ (0, 0) 155 [some (.ref p0), some (.ref p1), some (.int p2), some (.int x3), some (.int x6), some (.int t10.1)] [] t10.2 := by
      refine r_iconst (pc := 155) X 0 dX12_flowOf_155 (by decide) ?_
      refine r_iload_n (pc := 156) X dX12_flowOf_156 rfl ?_
      refine r_bipush (pc := 157) X 9 dX12_flowOf_157 (by decide) ?_
      refine r_iload (pc := 159) X dX12_flowOf_159 rfl ?_
      refine r_isub (pc := 161) X dX12_flowOf_161 ?_
      refine r_min (pc := 162) X dX12_flowOf_162 ml_X12_217 ⟨Nat.le_refl _, Nat.le_refl _⟩ hd1 (Nat.le_of_ble_eq_true rfl) ?_
      refine r_iload (pc := 165) X dX12_flowOf_165 rfl ?_
      refine r_min (pc := 167) X dX12_flowOf_167 ml_X12_217 ⟨Nat.le_refl _, Nat.le_refl _⟩ hd1 (Nat.le_of_ble_eq_true rfl) ?_
      refine r_max (pc := 170) X dX12_flowOf_170 ml_X12_223 ⟨Nat.le_refl _, Nat.le_refl _⟩ hd1 (Nat.le_of_ble_eq_true rfl) ?_
      obtain rfl := Option.some.inj hf
      exact r_iret (pc := 173) X dX12_flowOf_173 hk
    refine r_if_le (pc := 40) X 155 dX12_flowOf_40 (by decide) (fun c43 => ?_) (fun c43 => ?_)
    · rw [if_pos c43] at et10
      obtain rfl := Option.some.inj et10
      exact Jt10
    · rw [if_neg c43] at et10
      refine r_aload_n (pc := 43) X dX12_flowOf_43 rfl ?_
      obtain ⟨a11, ea11, et10⟩ := ob et10
      refine r_getR (pc := 44) X dX12_flowOf_44 fl_X12_39 rfl ea11 ?_
      refine r_iconst (pc := 47) X 0 dX12_flowOf_47 (by decide) ?_
      refine r_iload_n (pc := 48) X dX12_flowOf_48 rfl ?_
      obtain ⟨h12, eh12, et10⟩ := ob et10
      refine r_iast (pc := 49) X dX12_flowOf_49 eh12 ?_
      refine r_aload_n (pc := 50) X dX12_flowOf_50 rfl ?_
      obtain ⟨a13, ea13, et10⟩ := ob et10
      refine r_getR (pc := 51) X dX12_flowOf_51 fl_X12_39 rfl ea13 ?_
      refine r_iconst (pc := 54) X 1 dX12_flowOf_54 (by decide) ?_
      refine r_iload (pc := 55) X dX12_flowOf_55 rfl ?_
      obtain ⟨h14, eh14, et10⟩ := ob et10
      refine r_iast (pc := 57) X dX12_flowOf_57 eh14 ?_
      refine r_aload_n (pc := 58) X dX12_flowOf_58 rfl ?_
      obtain ⟨a15, ea15, et10⟩ := ob et10
      refine r_getR (pc := 59) X dX12_flowOf_59 fl_X12_39 rfl ea15 ?_
      refine r_iconst (pc := 62) X 2 dX12_flowOf_62 (by decide) ?_
      refine r_aload_n (pc := 63) X dX12_flowOf_63 rfl ?_
      refine r_bipush (pc := 64) X 6 dX12_flowOf_64 (by decide) ?_
      refine r_aload_n (pc := 66) X dX12_flowOf_66 rfl ?_
      obtain ⟨a16, ea16, et10⟩ := ob et10
      refine r_getR (pc := 67) X dX12_flowOf_67 fl_X12_13 rfl ea16 ?_
      refine r_iload_n (pc := 70) X dX12_flowOf_70 rfl ?_
      obtain ⟨x17, ex17, et10⟩ := ob et10
      refine r_iald (pc := 71) X dX12_flowOf_71 ex17 ?_
      refine r_iadd (pc := 72) X dX12_flowOf_72 ?_
      obtain ⟨x18, ex18, et10⟩ := ob et10
      refine r_iald (pc := 73) X dX12_flowOf_73 ex18 ?_
      obtain ⟨h19, eh19, et10⟩ := ob et10
      refine r_iast (pc := 74) X dX12_flowOf_74 eh19 ?_
      refine r_aload_n (pc := 75) X dX12_flowOf_75 rfl ?_
      obtain ⟨a20, ea20, et10⟩ := ob et10
      refine r_getR (pc := 76) X dX12_flowOf_76 fl_X12_39 rfl ea20 ?_
      refine r_iconst (pc := 79) X 3 dX12_flowOf_79 (by decide) ?_
      refine r_aload_n (pc := 80) X dX12_flowOf_80 rfl ?_
      refine r_bipush (pc := 81) X 6 dX12_flowOf_81 (by decide) ?_
      refine r_aload_n (pc := 83) X dX12_flowOf_83 rfl ?_
      obtain ⟨a21, ea21, et10⟩ := ob et10
      refine r_getR (pc := 84) X dX12_flowOf_84 fl_X12_16 rfl ea21 ?_
      refine r_iload_n (pc := 87) X dX12_flowOf_87 rfl ?_
      obtain ⟨x22, ex22, et10⟩ := ob et10
      refine r_iald (pc := 88) X dX12_flowOf_88 ex22 ?_
      refine r_iadd (pc := 89) X dX12_flowOf_89 ?_
      obtain ⟨x23, ex23, et10⟩ := ob et10
      refine r_iald (pc := 90) X dX12_flowOf_90 ex23 ?_
      obtain ⟨h24, eh24, et10⟩ := ob et10
      refine r_iast (pc := 91) X dX12_flowOf_91 eh24 ?_
      refine r_aload_n (pc := 92) X dX12_flowOf_92 rfl ?_
      obtain ⟨a25, ea25, et10⟩ := ob et10
      refine r_getR (pc := 93) X dX12_flowOf_93 fl_X12_39 rfl ea25 ?_
      refine r_iconst (pc := 96) X 4 dX12_flowOf_96 (by decide) ?_
      refine r_iload_n (pc := 97) X dX12_flowOf_97 rfl ?_
      obtain ⟨h26, eh26, et10⟩ := ob et10
      refine r_iast (pc := 98) X dX12_flowOf_98 eh26 ?_
      refine r_aload_n (pc := 99) X dX12_flowOf_99 rfl ?_
      obtain ⟨a27, ea27, et10⟩ := ob et10
      refine r_getR (pc := 100) X dX12_flowOf_100 fl_X12_39 rfl ea27 ?_
      refine r_iconst (pc := 103) X 5 dX12_flowOf_103 (by decide) ?_
      refine r_aload_n (pc := 104) X dX12_flowOf_104 rfl ?_
      obtain ⟨a28, ea28, et10⟩ := ob et10
      refine r_getR (pc := 105) X dX12_flowOf_105 fl_X12_19 rfl ea28 ?_
      refine r_iload_n (pc := 108) X dX12_flowOf_108 rfl ?_
      obtain ⟨x29, ex29, et10⟩ := ob et10
      refine r_iald (pc := 109) X dX12_flowOf_109 ex29 ?_
      obtain ⟨h30, eh30, et10⟩ := ob et10
      refine r_iast (pc := 110) X dX12_flowOf_110 eh30 ?_
      refine r_aload_n (pc := 111) X dX12_flowOf_111 rfl ?_
      obtain ⟨a31, ea31, et10⟩ := ob et10
      refine r_getR (pc := 112) X dX12_flowOf_112 fl_X12_39 rfl ea31 ?_
      refine r_bipush (pc := 115) X 6 dX12_flowOf_115 (by decide) ?_
      refine r_aload_n (pc := 117) X dX12_flowOf_117 rfl ?_
      refine r_bipush (pc := 118) X 14 dX12_flowOf_118 (by decide) ?_
      obtain ⟨x32, ex32, et10⟩ := ob et10
      refine r_iald (pc := 120) X dX12_flowOf_120 ex32 ?_
      refine r_iconst (pc := 121) X 4 dX12_flowOf_121 (by decide) ?_
      obtain ⟨x33, ex33, et10⟩ := ob et10
      refine r_irem (pc := 122) X dX12_flowOf_122 ex33 ?_
      obtain ⟨h34, eh34, et10⟩ := ob et10
      refine r_iast (pc := 123) X dX12_flowOf_123 eh34 ?_
      refine r_aload_n (pc := 124) X dX12_flowOf_124 rfl ?_
      refine r_aload_n (pc := 125) X dX12_flowOf_125 rfl ?_
      obtain ⟨a35, ea35, et10⟩ := ob et10
      refine r_getR (pc := 126) X dX12_flowOf_126 fl_X12_33 rfl ea35 ?_
      refine r_aload_n (pc := 129) X dX12_flowOf_129 rfl ?_
      obtain ⟨x36, ex36, et10⟩ := ob et10
      refine r_getI (pc := 130) X dX12_flowOf_130 fl_X12_214 rfl ex36 ?_
      refine r_bipush (pc := 133) X 40 dX12_flowOf_133 (by decide) ?_
      obtain ⟨u37, eu37, et10⟩ := ob et10
      obtain ⟨h38, eh38, et10⟩ := ob et10
      refine r_callVV (pc := 135) X [.ref a35, .int x36, .int 40] dX12_flowOf_135 ml_X12_139 vo_X12_begin ⟨Nat.le_refl _, Nat.le_refl _⟩ eu37 (ev_X12_begin (d := d - 1) (by omega) _ _ _ _ _ _ eh38) hd1 rfl (Nat.le_of_ble_eq_true rfl) rfl ?_
      refine r_aload_n (pc := 138) X dX12_flowOf_138 rfl ?_
      refine r_iconst (pc := 139) X 1 dX12_flowOf_139 (by decide) ?_
      obtain ⟨h39, eh39, et10⟩ := ob et10
      refine r_putZ (pc := 140) X dX12_flowOf_140 fp_X12_207 rfl eh39 ?_
      refine r_aload_n (pc := 143) X dX12_flowOf_143 rfl ?_
      refine r_iconst (pc := 144) X 0 dX12_flowOf_144 (by decide) ?_
      obtain ⟨u40, eu40, et10⟩ := ob et10
      obtain ⟨o41, eo41, et10⟩ := ob et10
      refine r_callVI (pc := 145) X [.int 0] dX12_flowOf_145 ml_X12_194 vo_X12_held ⟨Nat.le_refl _, Nat.le_refl _⟩ eu40 (ev_X12_held (fn_X12_thing 60) (D0 := 240) (d := d - 1) (by omega) (ev_X12_thing 60) _ _ _ _ eo41) hd1 rfl (Nat.le_of_ble_eq_true rfl) rfl ?_
      refine r_istore (pc := 148) X [some (.ref p0), some (.ref p1), some (.int p2), some (.int x3), some (.int x6), some (.int o41.1)] dX12_flowOf_148 (by decide) rfl ?_
      refine r_aload_n (pc := 150) X dX12_flowOf_150 rfl ?_
      refine r_iconst (pc := 151) X 0 dX12_flowOf_151 (by decide) ?_
      obtain ⟨h42, eh42, et10⟩ := ob et10
      refine r_putZ (pc := 152) X dX12_flowOf_152 fp_X12_207 rfl eh42 ?_
      obtain rfl := Option.some.inj et10
      exact Jt10
  refine r_icmp_le (pc := 25) X 32 dX12_flowOf_25 (by decide) (fun c44 => ?_) (fun c44 => ?_)
  · rw [if_pos c44] at et7
    refine r_iconst (pc := 32) X 0 dX12_flowOf_32 (by decide) ?_
    obtain rfl := Option.some.inj et7
    exact Jt7
  · rw [if_neg c44] at et7
    refine r_iconst (pc := 28) X 1 dX12_flowOf_28 (by decide) ?_
    refine r_goto (pc := 29) X 33 dX12_flowOf_29 (by decide) ?_
    obtain rfl := Option.some.inj et7
    exact Jt7

theorem dX12_sluicesBy_0 : decode cX12_sluicesBy 0 = .ok (.iconst 0, 1) := by decide +kernel
theorem dX12_sluicesBy_1 : decode cX12_sluicesBy 1 = .ok (.istore_n 3, 1) := by decide +kernel
theorem dX12_sluicesBy_2 : decode cX12_sluicesBy 2 = .ok (.iconst 0, 1) := by decide +kernel
theorem dX12_sluicesBy_3 : decode cX12_sluicesBy 3 = .ok (.istore 4, 2) := by decide +kernel
theorem dX12_sluicesBy_5 : decode cX12_sluicesBy 5 = .ok (.iload 4, 2) := by decide +kernel
theorem dX12_sluicesBy_7 : decode cX12_sluicesBy 7 = .ok (.aload_n 0, 1) := by decide +kernel
theorem dX12_sluicesBy_8 : decode cX12_sluicesBy 8 = .ok (.getfield 118, 3) := by decide +kernel
theorem dX12_sluicesBy_11 : decode cX12_sluicesBy 11 = .ok (.if_icmp .ge 28, 3) := by decide +kernel
theorem dX12_sluicesBy_14 : decode cX12_sluicesBy 14 = .ok (.iload_n 3, 1) := by decide +kernel
theorem dX12_sluicesBy_15 : decode cX12_sluicesBy 15 = .ok (.aload_n 1, 1) := by decide +kernel
theorem dX12_sluicesBy_16 : decode cX12_sluicesBy 16 = .ok (.iload 4, 2) := by decide +kernel
theorem dX12_sluicesBy_18 : decode cX12_sluicesBy 18 = .ok (.iaload, 1) := by decide +kernel
theorem dX12_sluicesBy_19 : decode cX12_sluicesBy 19 = .ok (.iload_n 2, 1) := by decide +kernel
theorem dX12_sluicesBy_20 : decode cX12_sluicesBy 20 = .ok (.if_icmp .ne 10, 3) := by decide +kernel
theorem dX12_sluicesBy_23 : decode cX12_sluicesBy 23 = .ok (.iconst 1, 1) := by decide +kernel
theorem dX12_sluicesBy_24 : decode cX12_sluicesBy 24 = .ok (.iload 4, 2) := by decide +kernel
theorem dX12_sluicesBy_26 : decode cX12_sluicesBy 26 = .ok (.ishl, 1) := by decide +kernel
theorem dX12_sluicesBy_27 : decode cX12_sluicesBy 27 = .ok (.goto 4, 3) := by decide +kernel
theorem dX12_sluicesBy_30 : decode cX12_sluicesBy 30 = .ok (.iconst 0, 1) := by decide +kernel
theorem dX12_sluicesBy_31 : decode cX12_sluicesBy 31 = .ok (.ior, 1) := by decide +kernel
theorem dX12_sluicesBy_32 : decode cX12_sluicesBy 32 = .ok (.istore_n 3, 1) := by decide +kernel
theorem dX12_sluicesBy_33 : decode cX12_sluicesBy 33 = .ok (.iinc 4 1, 3) := by decide +kernel
theorem dX12_sluicesBy_36 : decode cX12_sluicesBy 36 = .ok (.goto (-31), 3) := by decide +kernel
theorem dX12_sluicesBy_39 : decode cX12_sluicesBy 39 = .ok (.iload_n 3, 1) := by decide +kernel
theorem dX12_sluicesBy_40 : decode cX12_sluicesBy 40 = .ok (.ireturn, 1) := by decide +kernel
def lb_X12_sluicesBy_5 (hh : aH) (v0 : Nat) (v1 : Nat) (v2 : Int32) (s : Int32 × Int32) : Option ((Int32 × Int32) ⊕ ((Int32))) :=
  (gI hh v0 11 2).bind fun x1 =>
  if s.2 < x1 then
    (aI hh v1 14 s.2).bind fun x2 =>
    if x2 = v2 then
      (some (s.1 ||| (1 <<< (s.2 &&& 31)))).bind fun x5 =>
      (some (s.2 + 1)).bind fun x6 =>
      some (.inl (x5, x6))
    else
      (some (s.1 ||| 0)).bind fun x3 =>
      (some (s.2 + 1)).bind fun x4 =>
      some (.inl (x3, x4))
  else
    some (.inr s.1)
def hd_X12_sluicesBy_5 (Γ : aC) (hh : aH) (v0 : Nat) (v1 : Nat) (v2 : Int32) (s : Int32 × Int32) : Prop := Jd Γ (0, 0) 5 [some (.ref v0), some (.ref v1), some (.int v2), some (.int s.1), some (.int s.2)] [] hh
def ex_X12_sluicesBy_5 (Γ : aC) (hh : aH) (v0 : Nat) (v1 : Nat) (v2 : Int32) (r : (Int32)) : Prop := (fun r => RpI hh Γ r) r
set_option maxRecDepth 20000 in
set_option maxHeartbeats 4000000 in
theorem lw_X12_sluicesBy_5 {Γ : aC} {d : Nat} (X : Cx Γ RX12 cX12_sluicesBy 5 (some .int) (d, 0, 0)) (hd : 0 ≤ d) (hh : aH) (v0 : Nat) (v1 : Nat) (v2 : Int32) : ∀ n s o, lp (lb_X12_sluicesBy_5 hh v0 v1 v2) n s = some o → ex_X12_sluicesBy_5 Γ hh v0 v1 v2 o → hd_X12_sluicesBy_5 Γ hh v0 v1 v2 s := by
  have hd1 : 0 ≤ d := by omega
  refine J_lp _ _ _ ?_
  intro s o hf hk
  unfold lb_X12_sluicesBy_5 at hf
  refine r_iload (pc := 5) X dX12_sluicesBy_5 rfl ?_
  refine r_aload_n (pc := 7) X dX12_sluicesBy_7 rfl ?_
  obtain ⟨x1, ex1, hf⟩ := ob hf
  refine r_getI (pc := 8) X dX12_sluicesBy_8 fl_X12_118 rfl ex1 ?_
  refine r_icmp_ge (pc := 11) X 39 dX12_sluicesBy_11 (by decide) (fun c8 => ?_) (fun c8 => ?_)
  · rw [if_neg c8] at hf
    refine r_iload_n (pc := 39) X dX12_sluicesBy_39 rfl ?_
    obtain rfl := Option.some.inj hf
    exact r_iret (pc := 40) X dX12_sluicesBy_40 hk
  · rw [if_pos c8] at hf
    refine r_iload_n (pc := 14) X dX12_sluicesBy_14 rfl ?_
    refine r_aload_n (pc := 15) X dX12_sluicesBy_15 rfl ?_
    refine r_iload (pc := 16) X dX12_sluicesBy_16 rfl ?_
    obtain ⟨x2, ex2, hf⟩ := ob hf
    refine r_iald (pc := 18) X dX12_sluicesBy_18 ex2 ?_
    refine r_iload_n (pc := 19) X dX12_sluicesBy_19 rfl ?_
    refine r_icmp_ne (pc := 20) X 30 dX12_sluicesBy_20 (by decide) (fun c7 => ?_) (fun c7 => ?_)
    · rw [if_neg c7] at hf
      refine r_iconst (pc := 30) X 0 dX12_sluicesBy_30 (by decide) ?_
      refine r_ior (pc := 31) X dX12_sluicesBy_31 ?_
      obtain ⟨x3, ex3, hf⟩ := ob hf
      refine r_nmI ex3 ?_
      refine r_istore_n (pc := 32) X [some (.ref v0), some (.ref v1), some (.int v2), some (.int x3), some (.int s.2)] dX12_sluicesBy_32 (by decide) rfl ?_
      obtain ⟨x4, ex4, hf⟩ := ob hf
      refine r_iinc2 (pc := 33) X 1 [some (.ref v0), some (.ref v1), some (.int v2), some (.int x3), some (.int x4)] dX12_sluicesBy_33 (by decide) rfl (by decide) ex4 rfl ?_
      refine r_goto (pc := 36) X 5 dX12_sluicesBy_36 (by decide) ?_
      obtain rfl := Option.some.inj hf
      exact hk
    · rw [if_pos c7] at hf
      refine r_iconst (pc := 23) X 1 dX12_sluicesBy_23 (by decide) ?_
      refine r_iload (pc := 24) X dX12_sluicesBy_24 rfl ?_
      refine r_ishl (pc := 26) X dX12_sluicesBy_26 ?_
      refine r_goto (pc := 27) X 31 dX12_sluicesBy_27 (by decide) ?_
      refine r_ior (pc := 31) X dX12_sluicesBy_31 ?_
      obtain ⟨x5, ex5, hf⟩ := ob hf
      refine r_nmI ex5 ?_
      refine r_istore_n (pc := 32) X [some (.ref v0), some (.ref v1), some (.int v2), some (.int x5), some (.int s.2)] dX12_sluicesBy_32 (by decide) rfl ?_
      obtain ⟨x6, ex6, hf⟩ := ob hf
      refine r_iinc2 (pc := 33) X 1 [some (.ref v0), some (.ref v1), some (.int v2), some (.int x5), some (.int x6)] dX12_sluicesBy_33 (by decide) rfl (by decide) ex6 rfl ?_
      refine r_goto (pc := 36) X 5 dX12_sluicesBy_36 (by decide) ?_
      obtain rfl := Option.some.inj hf
      exact hk
def fn_X12_sluicesBy (h : aH) (p0 : Nat) (p1 : Nat) (p2 : Int32) : Option (Int32) :=
  (lp (lb_X12_sluicesBy_5 h p0 p1 p2) lpN (0, 0)).bind fun o9 =>
  some o9
set_option maxRecDepth 20000 in
set_option maxHeartbeats 4000000 in
theorem ev_X12_sluicesBy {l : Launch} {g : aG} {d : Nat} (hd : 0 ≤ d) (h : aH) (p0 : Nat) (p1 : Nat) (p2 : Int32) (o : Int32) (hf : fn_X12_sluicesBy h p0 p1 p2 = some o) : EvM l g d yX12_sluicesBy cX12_sluicesBy 5 (some .int) [.ref p0, .ref p1, .int p2] h (some (.int o), h) := by
  refine EvM.of mk_X12_sluicesBy (Nat.le_of_ble_eq_true rfl) ?_
  intro Γ hl hg hq X
  have hd1 : 0 ≤ d := by omega
  have hk : RpI h Γ o := hq
  unfold fn_X12_sluicesBy at hf
  show Jd Γ (0, 0) 0 [some (.ref p0), some (.ref p1), some (.int p2), none, none] [] h
  refine r_iconst (pc := 0) X 0 dX12_sluicesBy_0 (by decide) ?_
  refine r_istore_n (pc := 1) X [some (.ref p0), some (.ref p1), some (.int p2), some (.int 0), none] dX12_sluicesBy_1 (by decide) rfl ?_
  refine r_iconst (pc := 2) X 0 dX12_sluicesBy_2 (by decide) ?_
  refine r_istore (pc := 3) X [some (.ref p0), some (.ref p1), some (.int p2), some (.int 0), some (.int 0)] dX12_sluicesBy_3 (by decide) rfl ?_
  obtain ⟨o9, eo9, hf⟩ := ob hf
  refine (lw_X12_sluicesBy_5 X hd _ _ _ _ lpN _ o9 eo9 ?_)
  obtain rfl := Option.some.inj hf
  exact hk

theorem dX12_basin_0 : decode cX12_basin 0 = .ok (.aload_n 0, 1) := by decide +kernel
theorem dX12_basin_1 : decode cX12_basin 1 = .ok (.iconst 0, 1) := by decide +kernel
theorem dX12_basin_2 : decode cX12_basin 2 = .ok (.putfield 100, 3) := by decide +kernel
theorem dX12_basin_5 : decode cX12_basin 5 = .ok (.aload_n 0, 1) := by decide +kernel
theorem dX12_basin_6 : decode cX12_basin 6 = .ok (.iload_n 1, 1) := by decide +kernel
theorem dX12_basin_7 : decode cX12_basin 7 = .ok (.invokevirtual 114, 3) := by decide +kernel
theorem dX12_basin_10 : decode cX12_basin 10 = .ok (.ifCond .eq 12, 3) := by decide +kernel
theorem dX12_basin_13 : decode cX12_basin 13 = .ok (.iload_n 2, 1) := by decide +kernel
theorem dX12_basin_14 : decode cX12_basin 14 = .ok (.iconst 0, 1) := by decide +kernel
theorem dX12_basin_15 : decode cX12_basin 15 = .ok (.iconst 4, 1) := by decide +kernel
theorem dX12_basin_16 : decode cX12_basin 16 = .ok (.invokestatic 110, 3) := by decide +kernel
theorem dX12_basin_19 : decode cX12_basin 19 = .ok (.ifCond .ne 8, 3) := by decide +kernel
theorem dX12_basin_22 : decode cX12_basin 22 = .ok (.aload_n 0, 1) := by decide +kernel
theorem dX12_basin_23 : decode cX12_basin 23 = .ok (.invokevirtual 226, 3) := by decide +kernel
theorem dX12_basin_26 : decode cX12_basin 26 = .ok (.ireturn, 1) := by decide +kernel
theorem dX12_basin_27 : decode cX12_basin 27 = .ok (.iload_n 2, 1) := by decide +kernel
theorem dX12_basin_28 : decode cX12_basin 28 = .ok (.tableswitch 68 0 3 #[32, 39, 49, 58], 32) := by decide +kernel
theorem dX12_basin_60 : decode cX12_basin 60 = .ok (.aload_n 0, 1) := by decide +kernel
theorem dX12_basin_61 : decode cX12_basin 61 = .ok (.getfield 9, 3) := by decide +kernel
theorem dX12_basin_64 : decode cX12_basin 64 = .ok (.iload_n 1, 1) := by decide +kernel
theorem dX12_basin_65 : decode cX12_basin 65 = .ok (.iaload, 1) := by decide +kernel
theorem dX12_basin_66 : decode cX12_basin 66 = .ok (.ireturn, 1) := by decide +kernel
theorem dX12_basin_67 : decode cX12_basin 67 = .ok (.aload_n 0, 1) := by decide +kernel
theorem dX12_basin_68 : decode cX12_basin 68 = .ok (.getfield 9, 3) := by decide +kernel
theorem dX12_basin_71 : decode cX12_basin 71 = .ok (.bipush 6, 2) := by decide +kernel
theorem dX12_basin_73 : decode cX12_basin 73 = .ok (.iload_n 1, 1) := by decide +kernel
theorem dX12_basin_74 : decode cX12_basin 74 = .ok (.iadd, 1) := by decide +kernel
theorem dX12_basin_75 : decode cX12_basin 75 = .ok (.iaload, 1) := by decide +kernel
theorem dX12_basin_76 : decode cX12_basin 76 = .ok (.ireturn, 1) := by decide +kernel
theorem dX12_basin_77 : decode cX12_basin 77 = .ok (.aload_n 0, 1) := by decide +kernel
theorem dX12_basin_78 : decode cX12_basin 78 = .ok (.getfield 175, 3) := by decide +kernel
theorem dX12_basin_81 : decode cX12_basin 81 = .ok (.iload_n 1, 1) := by decide +kernel
theorem dX12_basin_82 : decode cX12_basin 82 = .ok (.ishr, 1) := by decide +kernel
theorem dX12_basin_83 : decode cX12_basin 83 = .ok (.iconst 1, 1) := by decide +kernel
theorem dX12_basin_84 : decode cX12_basin 84 = .ok (.iand, 1) := by decide +kernel
theorem dX12_basin_85 : decode cX12_basin 85 = .ok (.ireturn, 1) := by decide +kernel
theorem dX12_basin_86 : decode cX12_basin 86 = .ok (.aload_n 0, 1) := by decide +kernel
theorem dX12_basin_87 : decode cX12_basin 87 = .ok (.aload_n 0, 1) := by decide +kernel
theorem dX12_basin_88 : decode cX12_basin 88 = .ok (.getfield 13, 3) := by decide +kernel
theorem dX12_basin_91 : decode cX12_basin 91 = .ok (.iload_n 1, 1) := by decide +kernel
theorem dX12_basin_92 : decode cX12_basin 92 = .ok (.invokevirtual 229, 3) := by decide +kernel
theorem dX12_basin_95 : decode cX12_basin 95 = .ok (.ireturn, 1) := by decide +kernel
theorem dX12_basin_96 : decode cX12_basin 96 = .ok (.aload_n 0, 1) := by decide +kernel
theorem dX12_basin_97 : decode cX12_basin 97 = .ok (.aload_n 0, 1) := by decide +kernel
theorem dX12_basin_98 : decode cX12_basin 98 = .ok (.getfield 16, 3) := by decide +kernel
theorem dX12_basin_101 : decode cX12_basin 101 = .ok (.iload_n 1, 1) := by decide +kernel
theorem dX12_basin_102 : decode cX12_basin 102 = .ok (.invokevirtual 229, 3) := by decide +kernel
theorem dX12_basin_105 : decode cX12_basin 105 = .ok (.ireturn, 1) := by decide +kernel
def fn_X12_basin (h : aH) (p0 : Nat) (p1 : Int32) (p2 : Int32) : Option (Int32 × aH) :=
  (pI h p0 11 11 0).bind fun h1 =>
  (ck h1 p0 11).bind fun u2 =>
  (fn_X12_isBasin h1 p0 p1).bind fun x3 =>
  if x3 = 0 then
    (ck h1 p0 11).bind fun u4 =>
    (fn_X12_lost h1 p0).bind fun o5 =>
    some (o5.1, o5.2)
  else
    (fn_X12_in h1 p2 0 4).bind fun x6 =>
    if x6 = 0 then
      (ck h1 p0 11).bind fun u22 =>
      (fn_X12_lost h1 p0).bind fun o23 =>
      some (o23.1, o23.2)
    else
      if p2 = 0 then
        (gR h1 p0 11 0).bind fun a8 =>
        (aI h1 a8 14 p1).bind fun x9 =>
        some (x9, h1)
      else
      if p2 = 1 then
        (gR h1 p0 11 0).bind fun a11 =>
        (aI h1 a11 14 (6 + p1)).bind fun x12 =>
        some (x12, h1)
      else
      if p2 = 2 then
        (gI h1 p0 11 3).bind fun x14 =>
        some (((x14 >>> (p1 &&& 31)) &&& 1), h1)
      else
      if p2 = 3 then
        (gR h1 p0 11 4).bind fun a16 =>
        (ck h1 p0 11).bind fun u17 =>
        (fn_X12_sluicesBy h1 p0 a16 p1).bind fun x18 =>
        some (x18, h1)
      else
      (gR h1 p0 11 5).bind fun a19 =>
      (ck h1 p0 11).bind fun u20 =>
      (fn_X12_sluicesBy h1 p0 a19 p1).bind fun x21 =>
      some (x21, h1)
set_option maxRecDepth 20000 in
set_option maxHeartbeats 4000000 in
theorem ev_X12_basin {l : Launch} {g : aG} {d : Nat} (hd : 2 ≤ d) (h : aH) (p0 : Nat) (p1 : Int32) (p2 : Int32) (o : Int32 × aH) (hf : fn_X12_basin h p0 p1 p2 = some o) : EvM l g d yX12_basin cX12_basin 3 (some .int) [.ref p0, .int p1, .int p2] h (some (.int o.1), o.2) := by
  refine EvM.of mk_X12_basin (Nat.le_of_ble_eq_true rfl) ?_
  intro Γ hl hg hq X
  have hd1 : 1 ≤ d := by omega
  have hk : RqI Γ o := hq
  unfold fn_X12_basin at hf
  show Jd Γ (0, 0) 0 [some (.ref p0), some (.int p1), some (.int p2)] [] h
  refine r_aload_n (pc := 0) X dX12_basin_0 rfl ?_
  refine r_iconst (pc := 1) X 0 dX12_basin_1 (by decide) ?_
  obtain ⟨h1, eh1, hf⟩ := ob hf
  refine r_putI (pc := 2) X dX12_basin_2 fp_X12_100 rfl eh1 ?_
  refine r_aload_n (pc := 5) X dX12_basin_5 rfl ?_
  refine r_iload_n (pc := 6) X dX12_basin_6 rfl ?_
  obtain ⟨u2, eu2, hf⟩ := ob hf
  obtain ⟨x3, ex3, hf⟩ := ob hf
  refine r_callVI (pc := 7) X [.int p1] dX12_basin_7 ml_X12_114 vo_X12_isBasin ⟨Nat.le_refl _, Nat.le_refl _⟩ eu2 (ev_X12_isBasin (d := d - 1) (by omega) _ _ _ _ ex3) hd1 rfl (Nat.le_of_ble_eq_true rfl) rfl ?_
  refine r_if_eq (pc := 10) X 22 dX12_basin_10 (by decide) (fun c25 => ?_) (fun c25 => ?_)
  · rw [if_pos c25] at hf
    refine r_aload_n (pc := 22) X dX12_basin_22 rfl ?_
    obtain ⟨u4, eu4, hf⟩ := ob hf
    obtain ⟨o5, eo5, hf⟩ := ob hf
    refine r_callVI (pc := 23) X [] dX12_basin_23 ml_X12_226 vo_X12_lost ⟨Nat.le_refl _, Nat.le_refl _⟩ eu4 (ev_X12_lost (d := d - 1) (by omega) _ _ _ eo5) hd1 rfl (Nat.le_of_ble_eq_true rfl) rfl ?_
    obtain rfl := Option.some.inj hf
    exact r_iret (pc := 26) X dX12_basin_26 hk
  · rw [if_neg c25] at hf
    refine r_iload_n (pc := 13) X dX12_basin_13 rfl ?_
    refine r_iconst (pc := 14) X 0 dX12_basin_14 (by decide) ?_
    refine r_iconst (pc := 15) X 4 dX12_basin_15 (by decide) ?_
    obtain ⟨x6, ex6, hf⟩ := ob hf
    refine r_callSI (pc := 16) X [.int p2, .int 0, .int 4] dX12_basin_16 ml_X12_110 so_X12_in ⟨Nat.le_refl _, Nat.le_refl _⟩ (ev_X12_in (d := d - 1) (by omega) _ _ _ _ _ ex6) hd1 rfl (Nat.le_of_ble_eq_true rfl) rfl ?_
    refine r_if_ne (pc := 19) X 27 dX12_basin_19 (by decide) (fun c24 => ?_) (fun c24 => ?_)
    · rw [if_neg c24] at hf
      refine r_iload_n (pc := 27) X dX12_basin_27 rfl ?_
      by_cases c7 : p2 = 0
      · rw [if_pos c7] at hf
        refine r_tableIn (pc := 28) X 60 dX12_basin_28 (by rw [c7] <;> decide) (by rw [c7] <;> decide) (by rw [c7] <;> rfl) (by decide) ?_
        refine r_aload_n (pc := 60) X dX12_basin_60 rfl ?_
        obtain ⟨a8, ea8, hf⟩ := ob hf
        refine r_getR (pc := 61) X dX12_basin_61 fl_X12_9 rfl ea8 ?_
        refine r_iload_n (pc := 64) X dX12_basin_64 rfl ?_
        obtain ⟨x9, ex9, hf⟩ := ob hf
        refine r_iald (pc := 65) X dX12_basin_65 ex9 ?_
        obtain rfl := Option.some.inj hf
        exact r_iret (pc := 66) X dX12_basin_66 hk
      rw [if_neg c7] at hf
      by_cases c10 : p2 = 1
      · rw [if_pos c10] at hf
        refine r_tableIn (pc := 28) X 67 dX12_basin_28 (by rw [c10] <;> decide) (by rw [c10] <;> decide) (by rw [c10] <;> rfl) (by decide) ?_
        refine r_aload_n (pc := 67) X dX12_basin_67 rfl ?_
        obtain ⟨a11, ea11, hf⟩ := ob hf
        refine r_getR (pc := 68) X dX12_basin_68 fl_X12_9 rfl ea11 ?_
        refine r_bipush (pc := 71) X 6 dX12_basin_71 (by decide) ?_
        refine r_iload_n (pc := 73) X dX12_basin_73 rfl ?_
        refine r_iadd (pc := 74) X dX12_basin_74 ?_
        obtain ⟨x12, ex12, hf⟩ := ob hf
        refine r_iald (pc := 75) X dX12_basin_75 ex12 ?_
        obtain rfl := Option.some.inj hf
        exact r_iret (pc := 76) X dX12_basin_76 hk
      rw [if_neg c10] at hf
      by_cases c13 : p2 = 2
      · rw [if_pos c13] at hf
        refine r_tableIn (pc := 28) X 77 dX12_basin_28 (by rw [c13] <;> decide) (by rw [c13] <;> decide) (by rw [c13] <;> rfl) (by decide) ?_
        refine r_aload_n (pc := 77) X dX12_basin_77 rfl ?_
        obtain ⟨x14, ex14, hf⟩ := ob hf
        refine r_getI (pc := 78) X dX12_basin_78 fl_X12_175 rfl ex14 ?_
        refine r_iload_n (pc := 81) X dX12_basin_81 rfl ?_
        refine r_ishr (pc := 82) X dX12_basin_82 ?_
        refine r_iconst (pc := 83) X 1 dX12_basin_83 (by decide) ?_
        refine r_iand (pc := 84) X dX12_basin_84 ?_
        obtain rfl := Option.some.inj hf
        exact r_iret (pc := 85) X dX12_basin_85 hk
      rw [if_neg c13] at hf
      by_cases c15 : p2 = 3
      · rw [if_pos c15] at hf
        refine r_tableIn (pc := 28) X 86 dX12_basin_28 (by rw [c15] <;> decide) (by rw [c15] <;> decide) (by rw [c15] <;> rfl) (by decide) ?_
        refine r_aload_n (pc := 86) X dX12_basin_86 rfl ?_
        refine r_aload_n (pc := 87) X dX12_basin_87 rfl ?_
        obtain ⟨a16, ea16, hf⟩ := ob hf
        refine r_getR (pc := 88) X dX12_basin_88 fl_X12_13 rfl ea16 ?_
        refine r_iload_n (pc := 91) X dX12_basin_91 rfl ?_
        obtain ⟨u17, eu17, hf⟩ := ob hf
        obtain ⟨x18, ex18, hf⟩ := ob hf
        refine r_callVI (pc := 92) X [.ref a16, .int p1] dX12_basin_92 ml_X12_229 vo_X12_sluicesBy ⟨Nat.le_refl _, Nat.le_refl _⟩ eu17 (ev_X12_sluicesBy (d := d - 1) (by omega) _ _ _ _ _ ex18) hd1 rfl (Nat.le_of_ble_eq_true rfl) rfl ?_
        obtain rfl := Option.some.inj hf
        exact r_iret (pc := 95) X dX12_basin_95 hk
      rw [if_neg c15] at hf
      have nc7 := lv_neT c7 (show (0 : Int32).toInt = 0 from by decide)
      have nc10 := lv_neT c10 (show (1 : Int32).toInt = 1 from by decide)
      have nc13 := lv_neT c13 (show (2 : Int32).toInt = 2 from by decide)
      have nc15 := lv_neT c15 (show (3 : Int32).toInt = 3 from by decide)
      refine r_tableOut (pc := 28) X 96 dX12_basin_28 (by omega) (by decide) ?_
      refine r_aload_n (pc := 96) X dX12_basin_96 rfl ?_
      refine r_aload_n (pc := 97) X dX12_basin_97 rfl ?_
      obtain ⟨a19, ea19, hf⟩ := ob hf
      refine r_getR (pc := 98) X dX12_basin_98 fl_X12_16 rfl ea19 ?_
      refine r_iload_n (pc := 101) X dX12_basin_101 rfl ?_
      obtain ⟨u20, eu20, hf⟩ := ob hf
      obtain ⟨x21, ex21, hf⟩ := ob hf
      refine r_callVI (pc := 102) X [.ref a19, .int p1] dX12_basin_102 ml_X12_229 vo_X12_sluicesBy ⟨Nat.le_refl _, Nat.le_refl _⟩ eu20 (ev_X12_sluicesBy (d := d - 1) (by omega) _ _ _ _ _ ex21) hd1 rfl (Nat.le_of_ble_eq_true rfl) rfl ?_
      obtain rfl := Option.some.inj hf
      exact r_iret (pc := 105) X dX12_basin_105 hk
    · rw [if_pos c24] at hf
      refine r_aload_n (pc := 22) X dX12_basin_22 rfl ?_
      obtain ⟨u22, eu22, hf⟩ := ob hf
      obtain ⟨o23, eo23, hf⟩ := ob hf
      refine r_callVI (pc := 23) X [] dX12_basin_23 ml_X12_226 vo_X12_lost ⟨Nat.le_refl _, Nat.le_refl _⟩ eu22 (ev_X12_lost (d := d - 1) (by omega) _ _ _ eo23) hd1 rfl (Nat.le_of_ble_eq_true rfl) rfl ?_
      obtain rfl := Option.some.inj hf
      exact r_iret (pc := 26) X dX12_basin_26 hk

theorem dX12_sluice_0 : decode cX12_sluice 0 = .ok (.aload_n 0, 1) := by decide +kernel
theorem dX12_sluice_1 : decode cX12_sluice 1 = .ok (.iconst 0, 1) := by decide +kernel
theorem dX12_sluice_2 : decode cX12_sluice 2 = .ok (.putfield 100, 3) := by decide +kernel
theorem dX12_sluice_5 : decode cX12_sluice 5 = .ok (.aload_n 0, 1) := by decide +kernel
theorem dX12_sluice_6 : decode cX12_sluice 6 = .ok (.iload_n 1, 1) := by decide +kernel
theorem dX12_sluice_7 : decode cX12_sluice 7 = .ok (.invokevirtual 233, 3) := by decide +kernel
theorem dX12_sluice_10 : decode cX12_sluice 10 = .ok (.ifCond .eq 12, 3) := by decide +kernel
theorem dX12_sluice_13 : decode cX12_sluice 13 = .ok (.iload_n 2, 1) := by decide +kernel
theorem dX12_sluice_14 : decode cX12_sluice 14 = .ok (.iconst 0, 1) := by decide +kernel
theorem dX12_sluice_15 : decode cX12_sluice 15 = .ok (.iconst 5, 1) := by decide +kernel
theorem dX12_sluice_16 : decode cX12_sluice 16 = .ok (.invokestatic 110, 3) := by decide +kernel
theorem dX12_sluice_19 : decode cX12_sluice 19 = .ok (.ifCond .ne 8, 3) := by decide +kernel
theorem dX12_sluice_22 : decode cX12_sluice 22 = .ok (.aload_n 0, 1) := by decide +kernel
theorem dX12_sluice_23 : decode cX12_sluice 23 = .ok (.invokevirtual 226, 3) := by decide +kernel
theorem dX12_sluice_26 : decode cX12_sluice 26 = .ok (.ireturn, 1) := by decide +kernel
theorem dX12_sluice_27 : decode cX12_sluice 27 = .ok (.iload_n 2, 1) := by decide +kernel
theorem dX12_sluice_28 : decode cX12_sluice 28 = .ok (.tableswitch 81 0 4 #[36, 43, 50, 57, 69], 36) := by decide +kernel
theorem dX12_sluice_64 : decode cX12_sluice 64 = .ok (.aload_n 0, 1) := by decide +kernel
theorem dX12_sluice_65 : decode cX12_sluice 65 = .ok (.getfield 13, 3) := by decide +kernel
theorem dX12_sluice_68 : decode cX12_sluice 68 = .ok (.iload_n 1, 1) := by decide +kernel
theorem dX12_sluice_69 : decode cX12_sluice 69 = .ok (.iaload, 1) := by decide +kernel
theorem dX12_sluice_70 : decode cX12_sluice 70 = .ok (.ireturn, 1) := by decide +kernel
theorem dX12_sluice_71 : decode cX12_sluice 71 = .ok (.aload_n 0, 1) := by decide +kernel
theorem dX12_sluice_72 : decode cX12_sluice 72 = .ok (.getfield 16, 3) := by decide +kernel
theorem dX12_sluice_75 : decode cX12_sluice 75 = .ok (.iload_n 1, 1) := by decide +kernel
theorem dX12_sluice_76 : decode cX12_sluice 76 = .ok (.iaload, 1) := by decide +kernel
theorem dX12_sluice_77 : decode cX12_sluice 77 = .ok (.ireturn, 1) := by decide +kernel
theorem dX12_sluice_78 : decode cX12_sluice 78 = .ok (.aload_n 0, 1) := by decide +kernel
theorem dX12_sluice_79 : decode cX12_sluice 79 = .ok (.getfield 19, 3) := by decide +kernel
theorem dX12_sluice_82 : decode cX12_sluice 82 = .ok (.iload_n 1, 1) := by decide +kernel
theorem dX12_sluice_83 : decode cX12_sluice 83 = .ok (.iaload, 1) := by decide +kernel
theorem dX12_sluice_84 : decode cX12_sluice 84 = .ok (.ireturn, 1) := by decide +kernel
theorem dX12_sluice_85 : decode cX12_sluice 85 = .ok (.aload_n 0, 1) := by decide +kernel
theorem dX12_sluice_86 : decode cX12_sluice 86 = .ok (.getfield 9, 3) := by decide +kernel
theorem dX12_sluice_89 : decode cX12_sluice 89 = .ok (.bipush 12, 2) := by decide +kernel
theorem dX12_sluice_91 : decode cX12_sluice 91 = .ok (.iaload, 1) := by decide +kernel
theorem dX12_sluice_92 : decode cX12_sluice 92 = .ok (.iload_n 1, 1) := by decide +kernel
theorem dX12_sluice_93 : decode cX12_sluice 93 = .ok (.ishr, 1) := by decide +kernel
theorem dX12_sluice_94 : decode cX12_sluice 94 = .ok (.iconst 1, 1) := by decide +kernel
theorem dX12_sluice_95 : decode cX12_sluice 95 = .ok (.iand, 1) := by decide +kernel
theorem dX12_sluice_96 : decode cX12_sluice 96 = .ok (.ireturn, 1) := by decide +kernel
theorem dX12_sluice_97 : decode cX12_sluice 97 = .ok (.aload_n 0, 1) := by decide +kernel
theorem dX12_sluice_98 : decode cX12_sluice 98 = .ok (.getfield 9, 3) := by decide +kernel
theorem dX12_sluice_101 : decode cX12_sluice 101 = .ok (.bipush 13, 2) := by decide +kernel
theorem dX12_sluice_103 : decode cX12_sluice 103 = .ok (.iaload, 1) := by decide +kernel
theorem dX12_sluice_104 : decode cX12_sluice 104 = .ok (.iload_n 1, 1) := by decide +kernel
theorem dX12_sluice_105 : decode cX12_sluice 105 = .ok (.ishr, 1) := by decide +kernel
theorem dX12_sluice_106 : decode cX12_sluice 106 = .ok (.iconst 1, 1) := by decide +kernel
theorem dX12_sluice_107 : decode cX12_sluice 107 = .ok (.iand, 1) := by decide +kernel
theorem dX12_sluice_108 : decode cX12_sluice 108 = .ok (.ireturn, 1) := by decide +kernel
theorem dX12_sluice_109 : decode cX12_sluice 109 = .ok (.aload_n 0, 1) := by decide +kernel
theorem dX12_sluice_110 : decode cX12_sluice 110 = .ok (.aload_n 0, 1) := by decide +kernel
theorem dX12_sluice_111 : decode cX12_sluice 111 = .ok (.getfield 9, 3) := by decide +kernel
theorem dX12_sluice_114 : decode cX12_sluice 114 = .ok (.iload_n 1, 1) := by decide +kernel
theorem dX12_sluice_115 : decode cX12_sluice 115 = .ok (.invokevirtual 236, 3) := by decide +kernel
theorem dX12_sluice_118 : decode cX12_sluice 118 = .ok (.ireturn, 1) := by decide +kernel
def fn_X12_sluice (h : aH) (p0 : Nat) (p1 : Int32) (p2 : Int32) : Option (Int32 × aH) :=
  (pI h p0 11 11 0).bind fun h1 =>
  (ck h1 p0 11).bind fun u2 =>
  (fn_X12_isSluice h1 p0 p1).bind fun x3 =>
  if x3 = 0 then
    (ck h1 p0 11).bind fun u4 =>
    (fn_X12_lost h1 p0).bind fun o5 =>
    some (o5.1, o5.2)
  else
    (fn_X12_in h1 p2 0 5).bind fun x6 =>
    if x6 = 0 then
      (ck h1 p0 11).bind fun u25 =>
      (fn_X12_lost h1 p0).bind fun o26 =>
      some (o26.1, o26.2)
    else
      if p2 = 0 then
        (gR h1 p0 11 4).bind fun a8 =>
        (aI h1 a8 14 p1).bind fun x9 =>
        some (x9, h1)
      else
      if p2 = 1 then
        (gR h1 p0 11 5).bind fun a11 =>
        (aI h1 a11 14 p1).bind fun x12 =>
        some (x12, h1)
      else
      if p2 = 2 then
        (gR h1 p0 11 6).bind fun a14 =>
        (aI h1 a14 14 p1).bind fun x15 =>
        some (x15, h1)
      else
      if p2 = 3 then
        (gR h1 p0 11 0).bind fun a17 =>
        (aI h1 a17 14 12).bind fun x18 =>
        some (((x18 >>> (p1 &&& 31)) &&& 1), h1)
      else
      if p2 = 4 then
        (gR h1 p0 11 0).bind fun a20 =>
        (aI h1 a20 14 13).bind fun x21 =>
        some (((x21 >>> (p1 &&& 31)) &&& 1), h1)
      else
      (gR h1 p0 11 0).bind fun a22 =>
      (ck h1 p0 11).bind fun u23 =>
      (fn_X12_flowOf h1 p0 a22 p1).bind fun o24 =>
      some (o24.1, o24.2)
set_option maxRecDepth 20000 in
set_option maxHeartbeats 4000000 in
theorem ev_X12_sluice {l : Launch} {g : aG} {d : Nat} (hd : 245 ≤ d) (h : aH) (p0 : Nat) (p1 : Int32) (p2 : Int32) (o : Int32 × aH) (hf : fn_X12_sluice h p0 p1 p2 = some o) : EvM l g d yX12_sluice cX12_sluice 3 (some .int) [.ref p0, .int p1, .int p2] h (some (.int o.1), o.2) := by
  refine EvM.of mk_X12_sluice (Nat.le_of_ble_eq_true rfl) ?_
  intro Γ hl hg hq X
  have hd1 : 1 ≤ d := by omega
  have hk : RqI Γ o := hq
  unfold fn_X12_sluice at hf
  show Jd Γ (0, 0) 0 [some (.ref p0), some (.int p1), some (.int p2)] [] h
  refine r_aload_n (pc := 0) X dX12_sluice_0 rfl ?_
  refine r_iconst (pc := 1) X 0 dX12_sluice_1 (by decide) ?_
  obtain ⟨h1, eh1, hf⟩ := ob hf
  refine r_putI (pc := 2) X dX12_sluice_2 fp_X12_100 rfl eh1 ?_
  refine r_aload_n (pc := 5) X dX12_sluice_5 rfl ?_
  refine r_iload_n (pc := 6) X dX12_sluice_6 rfl ?_
  obtain ⟨u2, eu2, hf⟩ := ob hf
  obtain ⟨x3, ex3, hf⟩ := ob hf
  refine r_callVI (pc := 7) X [.int p1] dX12_sluice_7 ml_X12_233 vo_X12_isSluice ⟨Nat.le_refl _, Nat.le_refl _⟩ eu2 (ev_X12_isSluice (d := d - 1) (by omega) _ _ _ _ ex3) hd1 rfl (Nat.le_of_ble_eq_true rfl) rfl ?_
  refine r_if_eq (pc := 10) X 22 dX12_sluice_10 (by decide) (fun c28 => ?_) (fun c28 => ?_)
  · rw [if_pos c28] at hf
    refine r_aload_n (pc := 22) X dX12_sluice_22 rfl ?_
    obtain ⟨u4, eu4, hf⟩ := ob hf
    obtain ⟨o5, eo5, hf⟩ := ob hf
    refine r_callVI (pc := 23) X [] dX12_sluice_23 ml_X12_226 vo_X12_lost ⟨Nat.le_refl _, Nat.le_refl _⟩ eu4 (ev_X12_lost (d := d - 1) (by omega) _ _ _ eo5) hd1 rfl (Nat.le_of_ble_eq_true rfl) rfl ?_
    obtain rfl := Option.some.inj hf
    exact r_iret (pc := 26) X dX12_sluice_26 hk
  · rw [if_neg c28] at hf
    refine r_iload_n (pc := 13) X dX12_sluice_13 rfl ?_
    refine r_iconst (pc := 14) X 0 dX12_sluice_14 (by decide) ?_
    refine r_iconst (pc := 15) X 5 dX12_sluice_15 (by decide) ?_
    obtain ⟨x6, ex6, hf⟩ := ob hf
    refine r_callSI (pc := 16) X [.int p2, .int 0, .int 5] dX12_sluice_16 ml_X12_110 so_X12_in ⟨Nat.le_refl _, Nat.le_refl _⟩ (ev_X12_in (d := d - 1) (by omega) _ _ _ _ _ ex6) hd1 rfl (Nat.le_of_ble_eq_true rfl) rfl ?_
    refine r_if_ne (pc := 19) X 27 dX12_sluice_19 (by decide) (fun c27 => ?_) (fun c27 => ?_)
    · rw [if_neg c27] at hf
      refine r_iload_n (pc := 27) X dX12_sluice_27 rfl ?_
      by_cases c7 : p2 = 0
      · rw [if_pos c7] at hf
        refine r_tableIn (pc := 28) X 64 dX12_sluice_28 (by rw [c7] <;> decide) (by rw [c7] <;> decide) (by rw [c7] <;> rfl) (by decide) ?_
        refine r_aload_n (pc := 64) X dX12_sluice_64 rfl ?_
        obtain ⟨a8, ea8, hf⟩ := ob hf
        refine r_getR (pc := 65) X dX12_sluice_65 fl_X12_13 rfl ea8 ?_
        refine r_iload_n (pc := 68) X dX12_sluice_68 rfl ?_
        obtain ⟨x9, ex9, hf⟩ := ob hf
        refine r_iald (pc := 69) X dX12_sluice_69 ex9 ?_
        obtain rfl := Option.some.inj hf
        exact r_iret (pc := 70) X dX12_sluice_70 hk
      rw [if_neg c7] at hf
      by_cases c10 : p2 = 1
      · rw [if_pos c10] at hf
        refine r_tableIn (pc := 28) X 71 dX12_sluice_28 (by rw [c10] <;> decide) (by rw [c10] <;> decide) (by rw [c10] <;> rfl) (by decide) ?_
        refine r_aload_n (pc := 71) X dX12_sluice_71 rfl ?_
        obtain ⟨a11, ea11, hf⟩ := ob hf
        refine r_getR (pc := 72) X dX12_sluice_72 fl_X12_16 rfl ea11 ?_
        refine r_iload_n (pc := 75) X dX12_sluice_75 rfl ?_
        obtain ⟨x12, ex12, hf⟩ := ob hf
        refine r_iald (pc := 76) X dX12_sluice_76 ex12 ?_
        obtain rfl := Option.some.inj hf
        exact r_iret (pc := 77) X dX12_sluice_77 hk
      rw [if_neg c10] at hf
      by_cases c13 : p2 = 2
      · rw [if_pos c13] at hf
        refine r_tableIn (pc := 28) X 78 dX12_sluice_28 (by rw [c13] <;> decide) (by rw [c13] <;> decide) (by rw [c13] <;> rfl) (by decide) ?_
        refine r_aload_n (pc := 78) X dX12_sluice_78 rfl ?_
        obtain ⟨a14, ea14, hf⟩ := ob hf
        refine r_getR (pc := 79) X dX12_sluice_79 fl_X12_19 rfl ea14 ?_
        refine r_iload_n (pc := 82) X dX12_sluice_82 rfl ?_
        obtain ⟨x15, ex15, hf⟩ := ob hf
        refine r_iald (pc := 83) X dX12_sluice_83 ex15 ?_
        obtain rfl := Option.some.inj hf
        exact r_iret (pc := 84) X dX12_sluice_84 hk
      rw [if_neg c13] at hf
      by_cases c16 : p2 = 3
      · rw [if_pos c16] at hf
        refine r_tableIn (pc := 28) X 85 dX12_sluice_28 (by rw [c16] <;> decide) (by rw [c16] <;> decide) (by rw [c16] <;> rfl) (by decide) ?_
        refine r_aload_n (pc := 85) X dX12_sluice_85 rfl ?_
        obtain ⟨a17, ea17, hf⟩ := ob hf
        refine r_getR (pc := 86) X dX12_sluice_86 fl_X12_9 rfl ea17 ?_
        refine r_bipush (pc := 89) X 12 dX12_sluice_89 (by decide) ?_
        obtain ⟨x18, ex18, hf⟩ := ob hf
        refine r_iald (pc := 91) X dX12_sluice_91 ex18 ?_
        refine r_iload_n (pc := 92) X dX12_sluice_92 rfl ?_
        refine r_ishr (pc := 93) X dX12_sluice_93 ?_
        refine r_iconst (pc := 94) X 1 dX12_sluice_94 (by decide) ?_
        refine r_iand (pc := 95) X dX12_sluice_95 ?_
        obtain rfl := Option.some.inj hf
        exact r_iret (pc := 96) X dX12_sluice_96 hk
      rw [if_neg c16] at hf
      by_cases c19 : p2 = 4
      · rw [if_pos c19] at hf
        refine r_tableIn (pc := 28) X 97 dX12_sluice_28 (by rw [c19] <;> decide) (by rw [c19] <;> decide) (by rw [c19] <;> rfl) (by decide) ?_
        refine r_aload_n (pc := 97) X dX12_sluice_97 rfl ?_
        obtain ⟨a20, ea20, hf⟩ := ob hf
        refine r_getR (pc := 98) X dX12_sluice_98 fl_X12_9 rfl ea20 ?_
        refine r_bipush (pc := 101) X 13 dX12_sluice_101 (by decide) ?_
        obtain ⟨x21, ex21, hf⟩ := ob hf
        refine r_iald (pc := 103) X dX12_sluice_103 ex21 ?_
        refine r_iload_n (pc := 104) X dX12_sluice_104 rfl ?_
        refine r_ishr (pc := 105) X dX12_sluice_105 ?_
        refine r_iconst (pc := 106) X 1 dX12_sluice_106 (by decide) ?_
        refine r_iand (pc := 107) X dX12_sluice_107 ?_
        obtain rfl := Option.some.inj hf
        exact r_iret (pc := 108) X dX12_sluice_108 hk
      rw [if_neg c19] at hf
      have nc7 := lv_neT c7 (show (0 : Int32).toInt = 0 from by decide)
      have nc10 := lv_neT c10 (show (1 : Int32).toInt = 1 from by decide)
      have nc13 := lv_neT c13 (show (2 : Int32).toInt = 2 from by decide)
      have nc16 := lv_neT c16 (show (3 : Int32).toInt = 3 from by decide)
      have nc19 := lv_neT c19 (show (4 : Int32).toInt = 4 from by decide)
      refine r_tableOut (pc := 28) X 109 dX12_sluice_28 (by omega) (by decide) ?_
      refine r_aload_n (pc := 109) X dX12_sluice_109 rfl ?_
      refine r_aload_n (pc := 110) X dX12_sluice_110 rfl ?_
      obtain ⟨a22, ea22, hf⟩ := ob hf
      refine r_getR (pc := 111) X dX12_sluice_111 fl_X12_9 rfl ea22 ?_
      refine r_iload_n (pc := 114) X dX12_sluice_114 rfl ?_
      obtain ⟨u23, eu23, hf⟩ := ob hf
      obtain ⟨o24, eo24, hf⟩ := ob hf
      refine r_callVI (pc := 115) X [.ref a22, .int p1] dX12_sluice_115 ml_X12_236 vo_X12_flowOf ⟨Nat.le_refl _, Nat.le_refl _⟩ eu23 (ev_X12_flowOf (d := d - 1) (by omega) _ _ _ _ _ eo24) hd1 rfl (Nat.le_of_ble_eq_true rfl) rfl ?_
      obtain rfl := Option.some.inj hf
      exact r_iret (pc := 118) X dX12_sluice_118 hk
    · rw [if_pos c27] at hf
      refine r_aload_n (pc := 22) X dX12_sluice_22 rfl ?_
      obtain ⟨u25, eu25, hf⟩ := ob hf
      obtain ⟨o26, eo26, hf⟩ := ob hf
      refine r_callVI (pc := 23) X [] dX12_sluice_23 ml_X12_226 vo_X12_lost ⟨Nat.le_refl _, Nat.le_refl _⟩ eu25 (ev_X12_lost (d := d - 1) (by omega) _ _ _ eo26) hd1 rfl (Nat.le_of_ble_eq_true rfl) rfl ?_
      obtain rfl := Option.some.inj hf
      exact r_iret (pc := 26) X dX12_sluice_26 hk

theorem dX12_sumOf_0 : decode cX12_sumOf 0 = .ok (.iconst 0, 1) := by decide +kernel
theorem dX12_sumOf_1 : decode cX12_sumOf 1 = .ok (.istore_n 3, 1) := by decide +kernel
theorem dX12_sumOf_2 : decode cX12_sumOf 2 = .ok (.iconst 0, 1) := by decide +kernel
theorem dX12_sumOf_3 : decode cX12_sumOf 3 = .ok (.istore 4, 2) := by decide +kernel
theorem dX12_sumOf_5 : decode cX12_sumOf 5 = .ok (.iload 4, 2) := by decide +kernel
theorem dX12_sumOf_7 : decode cX12_sumOf 7 = .ok (.aload_n 0, 1) := by decide +kernel
theorem dX12_sumOf_8 : decode cX12_sumOf 8 = .ok (.getfield 107, 3) := by decide +kernel
theorem dX12_sumOf_11 : decode cX12_sumOf 11 = .ok (.if_icmp .ge 18, 3) := by decide +kernel
theorem dX12_sumOf_14 : decode cX12_sumOf 14 = .ok (.iload_n 3, 1) := by decide +kernel
theorem dX12_sumOf_15 : decode cX12_sumOf 15 = .ok (.aload_n 1, 1) := by decide +kernel
theorem dX12_sumOf_16 : decode cX12_sumOf 16 = .ok (.iload_n 2, 1) := by decide +kernel
theorem dX12_sumOf_17 : decode cX12_sumOf 17 = .ok (.iload 4, 2) := by decide +kernel
theorem dX12_sumOf_19 : decode cX12_sumOf 19 = .ok (.iadd, 1) := by decide +kernel
theorem dX12_sumOf_20 : decode cX12_sumOf 20 = .ok (.iaload, 1) := by decide +kernel
theorem dX12_sumOf_21 : decode cX12_sumOf 21 = .ok (.iadd, 1) := by decide +kernel
theorem dX12_sumOf_22 : decode cX12_sumOf 22 = .ok (.istore_n 3, 1) := by decide +kernel
theorem dX12_sumOf_23 : decode cX12_sumOf 23 = .ok (.iinc 4 1, 3) := by decide +kernel
theorem dX12_sumOf_26 : decode cX12_sumOf 26 = .ok (.goto (-21), 3) := by decide +kernel
theorem dX12_sumOf_29 : decode cX12_sumOf 29 = .ok (.iload_n 3, 1) := by decide +kernel
theorem dX12_sumOf_30 : decode cX12_sumOf 30 = .ok (.ireturn, 1) := by decide +kernel
def lb_X12_sumOf_5 (hh : aH) (v0 : Nat) (v1 : Nat) (v2 : Int32) (s : Int32 × Int32) : Option ((Int32 × Int32) ⊕ ((Int32))) :=
  (gI hh v0 11 1).bind fun x1 =>
  if s.2 < x1 then
    (aI hh v1 14 (v2 + s.2)).bind fun x2 =>
    (some (s.1 + x2)).bind fun x3 =>
    (some (s.2 + 1)).bind fun x4 =>
    some (.inl (x3, x4))
  else
    some (.inr s.1)
def hd_X12_sumOf_5 (Γ : aC) (hh : aH) (v0 : Nat) (v1 : Nat) (v2 : Int32) (s : Int32 × Int32) : Prop := Jd Γ (0, 0) 5 [some (.ref v0), some (.ref v1), some (.int v2), some (.int s.1), some (.int s.2)] [] hh
def ex_X12_sumOf_5 (Γ : aC) (hh : aH) (v0 : Nat) (v1 : Nat) (v2 : Int32) (r : (Int32)) : Prop := (fun r => RpI hh Γ r) r
set_option maxRecDepth 20000 in
set_option maxHeartbeats 4000000 in
theorem lw_X12_sumOf_5 {Γ : aC} {d : Nat} (X : Cx Γ RX12 cX12_sumOf 5 (some .int) (d, 0, 0)) (hd : 0 ≤ d) (hh : aH) (v0 : Nat) (v1 : Nat) (v2 : Int32) : ∀ n s o, lp (lb_X12_sumOf_5 hh v0 v1 v2) n s = some o → ex_X12_sumOf_5 Γ hh v0 v1 v2 o → hd_X12_sumOf_5 Γ hh v0 v1 v2 s := by
  have hd1 : 0 ≤ d := by omega
  refine J_lp _ _ _ ?_
  intro s o hf hk
  unfold lb_X12_sumOf_5 at hf
  refine r_iload (pc := 5) X dX12_sumOf_5 rfl ?_
  refine r_aload_n (pc := 7) X dX12_sumOf_7 rfl ?_
  obtain ⟨x1, ex1, hf⟩ := ob hf
  refine r_getI (pc := 8) X dX12_sumOf_8 fl_X12_107 rfl ex1 ?_
  refine r_icmp_ge (pc := 11) X 29 dX12_sumOf_11 (by decide) (fun c5 => ?_) (fun c5 => ?_)
  · rw [if_neg c5] at hf
    refine r_iload_n (pc := 29) X dX12_sumOf_29 rfl ?_
    obtain rfl := Option.some.inj hf
    exact r_iret (pc := 30) X dX12_sumOf_30 hk
  · rw [if_pos c5] at hf
    refine r_iload_n (pc := 14) X dX12_sumOf_14 rfl ?_
    refine r_aload_n (pc := 15) X dX12_sumOf_15 rfl ?_
    refine r_iload_n (pc := 16) X dX12_sumOf_16 rfl ?_
    refine r_iload (pc := 17) X dX12_sumOf_17 rfl ?_
    refine r_iadd (pc := 19) X dX12_sumOf_19 ?_
    obtain ⟨x2, ex2, hf⟩ := ob hf
    refine r_iald (pc := 20) X dX12_sumOf_20 ex2 ?_
    refine r_iadd (pc := 21) X dX12_sumOf_21 ?_
    obtain ⟨x3, ex3, hf⟩ := ob hf
    refine r_nmI ex3 ?_
    refine r_istore_n (pc := 22) X [some (.ref v0), some (.ref v1), some (.int v2), some (.int x3), some (.int s.2)] dX12_sumOf_22 (by decide) rfl ?_
    obtain ⟨x4, ex4, hf⟩ := ob hf
    refine r_iinc2 (pc := 23) X 1 [some (.ref v0), some (.ref v1), some (.int v2), some (.int x3), some (.int x4)] dX12_sumOf_23 (by decide) rfl (by decide) ex4 rfl ?_
    refine r_goto (pc := 26) X 5 dX12_sumOf_26 (by decide) ?_
    obtain rfl := Option.some.inj hf
    exact hk
def fn_X12_sumOf (h : aH) (p0 : Nat) (p1 : Nat) (p2 : Int32) : Option (Int32) :=
  (lp (lb_X12_sumOf_5 h p0 p1 p2) lpN (0, 0)).bind fun o6 =>
  some o6
set_option maxRecDepth 20000 in
set_option maxHeartbeats 4000000 in
theorem ev_X12_sumOf {l : Launch} {g : aG} {d : Nat} (hd : 0 ≤ d) (h : aH) (p0 : Nat) (p1 : Nat) (p2 : Int32) (o : Int32) (hf : fn_X12_sumOf h p0 p1 p2 = some o) : EvM l g d yX12_sumOf cX12_sumOf 5 (some .int) [.ref p0, .ref p1, .int p2] h (some (.int o), h) := by
  refine EvM.of mk_X12_sumOf (Nat.le_of_ble_eq_true rfl) ?_
  intro Γ hl hg hq X
  have hd1 : 0 ≤ d := by omega
  have hk : RpI h Γ o := hq
  unfold fn_X12_sumOf at hf
  show Jd Γ (0, 0) 0 [some (.ref p0), some (.ref p1), some (.int p2), none, none] [] h
  refine r_iconst (pc := 0) X 0 dX12_sumOf_0 (by decide) ?_
  refine r_istore_n (pc := 1) X [some (.ref p0), some (.ref p1), some (.int p2), some (.int 0), none] dX12_sumOf_1 (by decide) rfl ?_
  refine r_iconst (pc := 2) X 0 dX12_sumOf_2 (by decide) ?_
  refine r_istore (pc := 3) X [some (.ref p0), some (.ref p1), some (.int p2), some (.int 0), some (.int 0)] dX12_sumOf_3 (by decide) rfl ?_
  obtain ⟨o6, eo6, hf⟩ := ob hf
  refine (lw_X12_sumOf_5 X hd _ _ _ _ lpN _ o6 eo6 ?_)
  obtain rfl := Option.some.inj hf
  exact hk

theorem dX12_sheet_0 : decode cX12_sheet 0 = .ok (.aload_n 0, 1) := by decide +kernel
theorem dX12_sheet_1 : decode cX12_sheet 1 = .ok (.iconst 0, 1) := by decide +kernel
theorem dX12_sheet_2 : decode cX12_sheet 2 = .ok (.putfield 100, 3) := by decide +kernel
theorem dX12_sheet_5 : decode cX12_sheet 5 = .ok (.iload_n 1, 1) := by decide +kernel
theorem dX12_sheet_6 : decode cX12_sheet 6 = .ok (.iconst 0, 1) := by decide +kernel
theorem dX12_sheet_7 : decode cX12_sheet 7 = .ok (.iconst 3, 1) := by decide +kernel
theorem dX12_sheet_8 : decode cX12_sheet 8 = .ok (.invokestatic 110, 3) := by decide +kernel
theorem dX12_sheet_11 : decode cX12_sheet 11 = .ok (.ifCond .eq 9, 3) := by decide +kernel
theorem dX12_sheet_14 : decode cX12_sheet 14 = .ok (.iload_n 2, 1) := by decide +kernel
theorem dX12_sheet_15 : decode cX12_sheet 15 = .ok (.bipush 6, 2) := by decide +kernel
theorem dX12_sheet_17 : decode cX12_sheet 17 = .ok (.if_icmp .le 5, 3) := by decide +kernel
theorem dX12_sheet_20 : decode cX12_sheet 20 = .ok (.iconst (-1), 1) := by decide +kernel
theorem dX12_sheet_21 : decode cX12_sheet 21 = .ok (.ireturn, 1) := by decide +kernel
theorem dX12_sheet_22 : decode cX12_sheet 22 = .ok (.iload_n 1, 1) := by decide +kernel
theorem dX12_sheet_23 : decode cX12_sheet 23 = .ok (.iconst 3, 1) := by decide +kernel
theorem dX12_sheet_24 : decode cX12_sheet 24 = .ok (.if_icmp .ge 10, 3) := by decide +kernel
theorem dX12_sheet_27 : decode cX12_sheet 27 = .ok (.iload_n 2, 1) := by decide +kernel
theorem dX12_sheet_28 : decode cX12_sheet 28 = .ok (.ifCond .ge 6, 3) := by decide +kernel
theorem dX12_sheet_31 : decode cX12_sheet 31 = .ok (.bipush (-2), 2) := by decide +kernel
theorem dX12_sheet_33 : decode cX12_sheet 33 = .ok (.ireturn, 1) := by decide +kernel
theorem dX12_sheet_34 : decode cX12_sheet 34 = .ok (.iload_n 3, 1) := by decide +kernel
theorem dX12_sheet_35 : decode cX12_sheet 35 = .ok (.istore 5, 2) := by decide +kernel
theorem dX12_sheet_37 : decode cX12_sheet 37 = .ok (.iconst 0, 1) := by decide +kernel
theorem dX12_sheet_38 : decode cX12_sheet 38 = .ok (.istore 6, 2) := by decide +kernel
theorem dX12_sheet_40 : decode cX12_sheet 40 = .ok (.iload 6, 2) := by decide +kernel
theorem dX12_sheet_42 : decode cX12_sheet 42 = .ok (.aload_n 0, 1) := by decide +kernel
theorem dX12_sheet_43 : decode cX12_sheet 43 = .ok (.getfield 107, 3) := by decide +kernel
theorem dX12_sheet_46 : decode cX12_sheet 46 = .ok (.if_icmp .ge 74, 3) := by decide +kernel
theorem dX12_sheet_49 : decode cX12_sheet 49 = .ok (.iload_n 1, 1) := by decide +kernel
theorem dX12_sheet_50 : decode cX12_sheet 50 = .ok (.ifCond .ne 9, 3) := by decide +kernel
theorem dX12_sheet_53 : decode cX12_sheet 53 = .ok (.iload 5, 2) := by decide +kernel
theorem dX12_sheet_55 : decode cX12_sheet 55 = .ok (.i2b, 1) := by decide +kernel
theorem dX12_sheet_56 : decode cX12_sheet 56 = .ok (.goto 16, 3) := by decide +kernel
theorem dX12_sheet_59 : decode cX12_sheet 59 = .ok (.iload_n 1, 1) := by decide +kernel
theorem dX12_sheet_60 : decode cX12_sheet 60 = .ok (.iconst 1, 1) := by decide +kernel
theorem dX12_sheet_61 : decode cX12_sheet 61 = .ok (.if_icmp .ne 9, 3) := by decide +kernel
theorem dX12_sheet_64 : decode cX12_sheet 64 = .ok (.iload 5, 2) := by decide +kernel
theorem dX12_sheet_66 : decode cX12_sheet 66 = .ok (.i2s, 1) := by decide +kernel
theorem dX12_sheet_67 : decode cX12_sheet 67 = .ok (.goto 5, 3) := by decide +kernel
theorem dX12_sheet_70 : decode cX12_sheet 70 = .ok (.iload 5, 2) := by decide +kernel
theorem dX12_sheet_72 : decode cX12_sheet 72 = .ok (.istore 7, 2) := by decide +kernel
theorem dX12_sheet_74 : decode cX12_sheet 74 = .ok (.aload_n 0, 1) := by decide +kernel
theorem dX12_sheet_75 : decode cX12_sheet 75 = .ok (.getfield 9, 3) := by decide +kernel
theorem dX12_sheet_78 : decode cX12_sheet 78 = .ok (.iload 6, 2) := by decide +kernel
theorem dX12_sheet_80 : decode cX12_sheet 80 = .ok (.iload_n 1, 1) := by decide +kernel
theorem dX12_sheet_81 : decode cX12_sheet 81 = .ok (.iconst 3, 1) := by decide +kernel
theorem dX12_sheet_82 : decode cX12_sheet 82 = .ok (.if_icmp .eq 9, 3) := by decide +kernel
theorem dX12_sheet_85 : decode cX12_sheet 85 = .ok (.iload 6, 2) := by decide +kernel
theorem dX12_sheet_87 : decode cX12_sheet 87 = .ok (.iload_n 2, 1) := by decide +kernel
theorem dX12_sheet_88 : decode cX12_sheet 88 = .ok (.if_icmp .lt 7, 3) := by decide +kernel
theorem dX12_sheet_91 : decode cX12_sheet 91 = .ok (.iconst 0, 1) := by decide +kernel
theorem dX12_sheet_92 : decode cX12_sheet 92 = .ok (.goto 14, 3) := by decide +kernel
theorem dX12_sheet_95 : decode cX12_sheet 95 = .ok (.iconst 0, 1) := by decide +kernel
theorem dX12_sheet_96 : decode cX12_sheet 96 = .ok (.bipush 9, 2) := by decide +kernel
theorem dX12_sheet_98 : decode cX12_sheet 98 = .ok (.iload 7, 2) := by decide +kernel
theorem dX12_sheet_100 : decode cX12_sheet 100 = .ok (.invokestatic 217, 3) := by decide +kernel
theorem dX12_sheet_103 : decode cX12_sheet 103 = .ok (.invokestatic 223, 3) := by decide +kernel
theorem dX12_sheet_106 : decode cX12_sheet 106 = .ok (.iastore, 1) := by decide +kernel
theorem dX12_sheet_107 : decode cX12_sheet 107 = .ok (.iload 5, 2) := by decide +kernel
theorem dX12_sheet_109 : decode cX12_sheet 109 = .ok (.iload 4, 2) := by decide +kernel
theorem dX12_sheet_111 : decode cX12_sheet 111 = .ok (.iadd, 1) := by decide +kernel
theorem dX12_sheet_112 : decode cX12_sheet 112 = .ok (.istore 5, 2) := by decide +kernel
theorem dX12_sheet_114 : decode cX12_sheet 114 = .ok (.iinc 6 1, 3) := by decide +kernel
theorem dX12_sheet_117 : decode cX12_sheet 117 = .ok (.goto (-77), 3) := by decide +kernel
theorem dX12_sheet_120 : decode cX12_sheet 120 = .ok (.iload_n 1, 1) := by decide +kernel
theorem dX12_sheet_121 : decode cX12_sheet 121 = .ok (.iconst 3, 1) := by decide +kernel
theorem dX12_sheet_122 : decode cX12_sheet 122 = .ok (.if_icmp .ne 8, 3) := by decide +kernel
theorem dX12_sheet_125 : decode cX12_sheet 125 = .ok (.bipush (-3), 2) := by decide +kernel
theorem dX12_sheet_127 : decode cX12_sheet 127 = .ok (.goto 12, 3) := by decide +kernel
theorem dX12_sheet_130 : decode cX12_sheet 130 = .ok (.aload_n 0, 1) := by decide +kernel
theorem dX12_sheet_131 : decode cX12_sheet 131 = .ok (.aload_n 0, 1) := by decide +kernel
theorem dX12_sheet_132 : decode cX12_sheet 132 = .ok (.getfield 9, 3) := by decide +kernel
theorem dX12_sheet_135 : decode cX12_sheet 135 = .ok (.iconst 0, 1) := by decide +kernel
theorem dX12_sheet_136 : decode cX12_sheet 136 = .ok (.invokevirtual 239, 3) := by decide +kernel
theorem dX12_sheet_139 : decode cX12_sheet 139 = .ok (.ireturn, 1) := by decide +kernel
def lb_X12_sheet_40 (v0 : Nat) (v1 : Int32) (v2 : Int32) (v4 : Int32) (s : Int32 × Int32 × aH) : Option ((Int32 × Int32 × aH) ⊕ ((aH))) :=
  (gI s.2.2 v0 11 1).bind fun x3 =>
  if s.2.1 < x3 then
    ((
      if v1 = 0 then
        some (Int8.toInt32 (Int32.toInt8 s.1))
      else
        if v1 = 1 then
          some (Int16.toInt32 (Int32.toInt16 s.1))
        else
          some s.1
    ) : Option (Int32)).bind fun t4 =>
    (gR s.2.2 v0 11 0).bind fun a5 =>
    ((
      if v1 = 3 then
        some 0
      else
        if s.2.1 < v2 then
          some (mx 0 (mn 9 t4))
        else
          some 0
    ) : Option (Int32)).bind fun t6 =>
    (wI s.2.2 a5 s.2.1 t6).bind fun h7 =>
    (some (s.1 + v4)).bind fun x8 =>
    (some (s.2.1 + 1)).bind fun x9 =>
    some (.inl (x8, x9, h7))
  else
    some (.inr s.2.2)
def hd_X12_sheet_40 (Γ : aC) (v0 : Nat) (v1 : Int32) (v2 : Int32) (v4 : Int32) (s : Int32 × Int32 × aH) : Prop := ∀ (j3 : Option Value) (j7 : Option Value), Jd Γ (0, 0) 40 [some (.ref v0), some (.int v1), some (.int v2), j3, some (.int v4), some (.int s.1), some (.int s.2.1), j7] [] s.2.2
def ex_X12_sheet_40 (Γ : aC) (v0 : Nat) (v1 : Int32) (v2 : Int32) (v4 : Int32) (r : (aH)) : Prop := (fun r => ∀ (j3 : Option Value) (j5 : Option Value) (j6 : Option Value) (j7 : Option Value), Jd Γ (0, 0) 120 [some (.ref v0), some (.int v1), some (.int v2), j3, some (.int v4), j5, j6, j7] [] r) r
set_option maxRecDepth 20000 in
set_option maxHeartbeats 4000000 in
theorem lw_X12_sheet_40 {Γ : aC} {d : Nat} (X : Cx Γ RX12 cX12_sheet 8 (some .int) (d, 0, 0)) (hd : 1 ≤ d) (v0 : Nat) (v1 : Int32) (v2 : Int32) (v4 : Int32) : ∀ n s o, lp (lb_X12_sheet_40 v0 v1 v2 v4) n s = some o → ex_X12_sheet_40 Γ v0 v1 v2 v4 o → hd_X12_sheet_40 Γ v0 v1 v2 v4 s := by
  have hd1 : 1 ≤ d := by omega
  refine J_lp _ _ _ ?_
  intro s o hf hk j3 j7
  unfold lb_X12_sheet_40 at hf
  refine r_iload (pc := 40) X dX12_sheet_40 rfl ?_
  refine r_aload_n (pc := 42) X dX12_sheet_42 rfl ?_
  obtain ⟨x3, ex3, hf⟩ := ob hf
  refine r_getI (pc := 43) X dX12_sheet_43 fl_X12_107 rfl ex3 ?_
  refine r_icmp_ge (pc := 46) X 120 dX12_sheet_46 (by decide) (fun c14 => ?_) (fun c14 => ?_)
  · rw [if_neg c14] at hf
    obtain rfl := Option.some.inj hf
    exact hk _ _ _ _
  · rw [if_pos c14] at hf
    refine r_iload_n (pc := 49) X dX12_sheet_49 rfl ?_
    obtain ⟨t4, et4, hf⟩ := ob hf
    have Jt4 : Jd Γ (0, 0) 72 [some (.ref v0), some (.int v1), some (.int v2), j3, some (.int v4), some (.int s.1), some (.int s.2.1), j7] [.int t4] s.2.2 := by
      refine r_istore (pc := 72) X [some (.ref v0), some (.int v1), some (.int v2), j3, some (.int v4), some (.int s.1), some (.int s.2.1), some (.int t4)] dX12_sheet_72 (by decide) rfl ?_
      refine r_aload_n (pc := 74) X dX12_sheet_74 rfl ?_
      obtain ⟨a5, ea5, hf⟩ := ob hf
      refine r_getR (pc := 75) X dX12_sheet_75 fl_X12_9 rfl ea5 ?_
      refine r_iload (pc := 78) X dX12_sheet_78 rfl ?_
      refine r_iload_n (pc := 80) X dX12_sheet_80 rfl ?_
      refine r_iconst (pc := 81) X 3 dX12_sheet_81 (by decide) ?_
      obtain ⟨t6, et6, hf⟩ := ob hf
      have Jt6 : Jd Γ (0, 0) 106 [some (.ref v0), some (.int v1), some (.int v2), j3, some (.int v4), some (.int s.1), some (.int s.2.1), some (.int t4)] [.int t6, .int s.2.1, .ref a5] s.2.2 := by
        obtain ⟨h7, eh7, hf⟩ := ob hf
        refine r_iast (pc := 106) X dX12_sheet_106 eh7 ?_
        refine r_iload (pc := 107) X dX12_sheet_107 rfl ?_
        refine r_iload (pc := 109) X dX12_sheet_109 rfl ?_
        refine r_iadd (pc := 111) X dX12_sheet_111 ?_
        obtain ⟨x8, ex8, hf⟩ := ob hf
        refine r_nmI ex8 ?_
        refine r_istore (pc := 112) X [some (.ref v0), some (.int v1), some (.int v2), j3, some (.int v4), some (.int x8), some (.int s.2.1), some (.int t4)] dX12_sheet_112 (by decide) rfl ?_
        obtain ⟨x9, ex9, hf⟩ := ob hf
        refine r_iinc2 (pc := 114) X 1 [some (.ref v0), some (.int v1), some (.int v2), j3, some (.int v4), some (.int x8), some (.int x9), some (.int t4)] dX12_sheet_114 (by decide) rfl (by decide) ex9 rfl ?_
        refine r_goto (pc := 117) X 40 dX12_sheet_117 (by decide) ?_
        obtain rfl := Option.some.inj hf
        exact hk _ _
      refine r_icmp_eq (pc := 82) X 91 dX12_sheet_82 (by decide) (fun c11 => ?_) (fun c11 => ?_)
      · rw [if_pos c11] at et6
        refine r_iconst (pc := 91) X 0 dX12_sheet_91 (by decide) ?_
        refine r_goto (pc := 92) X 106 dX12_sheet_92 (by decide) ?_
        obtain rfl := Option.some.inj et6
        exact Jt6
      · rw [if_neg c11] at et6
        refine r_iload (pc := 85) X dX12_sheet_85 rfl ?_
        refine r_iload_n (pc := 87) X dX12_sheet_87 rfl ?_
        refine r_icmp_lt (pc := 88) X 95 dX12_sheet_88 (by decide) (fun c10 => ?_) (fun c10 => ?_)
        · rw [if_pos c10] at et6
          refine r_iconst (pc := 95) X 0 dX12_sheet_95 (by decide) ?_
          refine r_bipush (pc := 96) X 9 dX12_sheet_96 (by decide) ?_
          refine r_iload (pc := 98) X dX12_sheet_98 rfl ?_
          refine r_min (pc := 100) X dX12_sheet_100 ml_X12_217 ⟨Nat.le_refl _, Nat.le_refl _⟩ hd1 (Nat.le_of_ble_eq_true rfl) ?_
          refine r_max (pc := 103) X dX12_sheet_103 ml_X12_223 ⟨Nat.le_refl _, Nat.le_refl _⟩ hd1 (Nat.le_of_ble_eq_true rfl) ?_
          obtain rfl := Option.some.inj et6
          exact Jt6
        · rw [if_neg c10] at et6
          refine r_iconst (pc := 91) X 0 dX12_sheet_91 (by decide) ?_
          refine r_goto (pc := 92) X 106 dX12_sheet_92 (by decide) ?_
          obtain rfl := Option.some.inj et6
          exact Jt6
    refine r_if_ne (pc := 50) X 59 dX12_sheet_50 (by decide) (fun c13 => ?_) (fun c13 => ?_)
    · rw [if_neg c13] at et4
      refine r_iload_n (pc := 59) X dX12_sheet_59 rfl ?_
      refine r_iconst (pc := 60) X 1 dX12_sheet_60 (by decide) ?_
      refine r_icmp_ne (pc := 61) X 70 dX12_sheet_61 (by decide) (fun c12 => ?_) (fun c12 => ?_)
      · rw [if_neg c12] at et4
        refine r_iload (pc := 70) X dX12_sheet_70 rfl ?_
        obtain rfl := Option.some.inj et4
        exact Jt4
      · rw [if_pos c12] at et4
        refine r_iload (pc := 64) X dX12_sheet_64 rfl ?_
        refine r_i2s (pc := 66) X dX12_sheet_66 ?_
        refine r_goto (pc := 67) X 72 dX12_sheet_67 (by decide) ?_
        obtain rfl := Option.some.inj et4
        exact Jt4
    · rw [if_pos c13] at et4
      refine r_iload (pc := 53) X dX12_sheet_53 rfl ?_
      refine r_i2b (pc := 55) X dX12_sheet_55 ?_
      refine r_goto (pc := 56) X 72 dX12_sheet_56 (by decide) ?_
      obtain rfl := Option.some.inj et4
      exact Jt4
def fn_X12_sheet (h : aH) (p0 : Nat) (p1 : Int32) (p2 : Int32) (p3 : Int32) (p4 : Int32) : Option (Int32 × aH) :=
  (pI h p0 11 11 0).bind fun h1 =>
  (fn_X12_in h1 p1 0 3).bind fun x2 =>
  if x2 = 0 then
    some ((-1), h1)
  else
    if p2 ≤ 6 then
      if p1 < 3 then
        if p2 < 0 then
          some ((-2), h1)
        else
          (lp (lb_X12_sheet_40 p0 p1 p2 p4) lpN (p3, 0, h1)).bind fun o24 =>
          if p1 = 3 then
            some ((-3), o24)
          else
            (gR o24 p0 11 0).bind fun a29 =>
            (ck o24 p0 11).bind fun u30 =>
            (fn_X12_sumOf o24 p0 a29 0).bind fun x31 =>
            some (x31, o24)
      else
        (lp (lb_X12_sheet_40 p0 p1 p2 p4) lpN (p3, 0, h1)).bind fun o15 =>
        if p1 = 3 then
          some ((-3), o15)
        else
          (gR o15 p0 11 0).bind fun a20 =>
          (ck o15 p0 11).bind fun u21 =>
          (fn_X12_sumOf o15 p0 a20 0).bind fun x22 =>
          some (x22, o15)
    else
      some ((-1), h1)
set_option maxRecDepth 20000 in
set_option maxHeartbeats 4000000 in
theorem ev_X12_sheet {l : Launch} {g : aG} {d : Nat} (hd : 1 ≤ d) (h : aH) (p0 : Nat) (p1 : Int32) (p2 : Int32) (p3 : Int32) (p4 : Int32) (o : Int32 × aH) (hf : fn_X12_sheet h p0 p1 p2 p3 p4 = some o) : EvM l g d yX12_sheet cX12_sheet 8 (some .int) [.ref p0, .int p1, .int p2, .int p3, .int p4] h (some (.int o.1), o.2) := by
  refine EvM.of mk_X12_sheet (Nat.le_of_ble_eq_true rfl) ?_
  intro Γ hl hg hq X
  have hd1 : 1 ≤ d := by omega
  have hk : RqI Γ o := hq
  unfold fn_X12_sheet at hf
  show Jd Γ (0, 0) 0 [some (.ref p0), some (.int p1), some (.int p2), some (.int p3), some (.int p4), none, none, none] [] h
  refine r_aload_n (pc := 0) X dX12_sheet_0 rfl ?_
  refine r_iconst (pc := 1) X 0 dX12_sheet_1 (by decide) ?_
  obtain ⟨h1, eh1, hf⟩ := ob hf
  refine r_putI (pc := 2) X dX12_sheet_2 fp_X12_100 rfl eh1 ?_
  refine r_iload_n (pc := 5) X dX12_sheet_5 rfl ?_
  refine r_iconst (pc := 6) X 0 dX12_sheet_6 (by decide) ?_
  refine r_iconst (pc := 7) X 3 dX12_sheet_7 (by decide) ?_
  obtain ⟨x2, ex2, hf⟩ := ob hf
  refine r_callSI (pc := 8) X [.int p1, .int 0, .int 3] dX12_sheet_8 ml_X12_110 so_X12_in ⟨Nat.le_refl _, Nat.le_refl _⟩ (ev_X12_in (d := d - 1) (by omega) _ _ _ _ _ ex2) hd1 rfl (Nat.le_of_ble_eq_true rfl) rfl ?_
  refine r_if_eq (pc := 11) X 20 dX12_sheet_11 (by decide) (fun c36 => ?_) (fun c36 => ?_)
  · rw [if_pos c36] at hf
    refine r_iconst (pc := 20) X (-1) dX12_sheet_20 (by decide) ?_
    obtain rfl := Option.some.inj hf
    exact r_iret (pc := 21) X dX12_sheet_21 hk
  · rw [if_neg c36] at hf
    refine r_iload_n (pc := 14) X dX12_sheet_14 rfl ?_
    refine r_bipush (pc := 15) X 6 dX12_sheet_15 (by decide) ?_
    refine r_icmp_le (pc := 17) X 22 dX12_sheet_17 (by decide) (fun c35 => ?_) (fun c35 => ?_)
    · rw [if_pos c35] at hf
      refine r_iload_n (pc := 22) X dX12_sheet_22 rfl ?_
      refine r_iconst (pc := 23) X 3 dX12_sheet_23 (by decide) ?_
      refine r_icmp_ge (pc := 24) X 34 dX12_sheet_24 (by decide) (fun c34 => ?_) (fun c34 => ?_)
      · rw [if_neg c34] at hf
        refine r_iload_n (pc := 34) X dX12_sheet_34 rfl ?_
        refine r_istore (pc := 35) X [some (.ref p0), some (.int p1), some (.int p2), some (.int p3), some (.int p4), some (.int p3), none, none] dX12_sheet_35 (by decide) rfl ?_
        refine r_iconst (pc := 37) X 0 dX12_sheet_37 (by decide) ?_
        refine r_istore (pc := 38) X [some (.ref p0), some (.int p1), some (.int p2), some (.int p3), some (.int p4), some (.int p3), some (.int 0), none] dX12_sheet_38 (by decide) rfl ?_
        obtain ⟨o15, eo15, hf⟩ := ob hf
        refine (lw_X12_sheet_40 X hd _ _ _ _ lpN _ o15 eo15 ?_) _ _
        intro j16 j17 j18 j19
        refine r_iload_n (pc := 120) X dX12_sheet_120 rfl ?_
        refine r_iconst (pc := 121) X 3 dX12_sheet_121 (by decide) ?_
        refine r_icmp_ne (pc := 122) X 130 dX12_sheet_122 (by decide) (fun c23 => ?_) (fun c23 => ?_)
        · rw [if_neg c23] at hf
          refine r_aload_n (pc := 130) X dX12_sheet_130 rfl ?_
          refine r_aload_n (pc := 131) X dX12_sheet_131 rfl ?_
          obtain ⟨a20, ea20, hf⟩ := ob hf
          refine r_getR (pc := 132) X dX12_sheet_132 fl_X12_9 rfl ea20 ?_
          refine r_iconst (pc := 135) X 0 dX12_sheet_135 (by decide) ?_
          obtain ⟨u21, eu21, hf⟩ := ob hf
          obtain ⟨x22, ex22, hf⟩ := ob hf
          refine r_callVI (pc := 136) X [.ref a20, .int 0] dX12_sheet_136 ml_X12_239 vo_X12_sumOf ⟨Nat.le_refl _, Nat.le_refl _⟩ eu21 (ev_X12_sumOf (d := d - 1) (by omega) _ _ _ _ _ ex22) hd1 rfl (Nat.le_of_ble_eq_true rfl) rfl ?_
          obtain rfl := Option.some.inj hf
          exact r_iret (pc := 139) X dX12_sheet_139 hk
        · rw [if_pos c23] at hf
          refine r_bipush (pc := 125) X (-3) dX12_sheet_125 (by decide) ?_
          refine r_goto (pc := 127) X 139 dX12_sheet_127 (by decide) ?_
          obtain rfl := Option.some.inj hf
          exact r_iret (pc := 139) X dX12_sheet_139 hk
      · rw [if_pos c34] at hf
        refine r_iload_n (pc := 27) X dX12_sheet_27 rfl ?_
        refine r_if_ge (pc := 28) X 34 dX12_sheet_28 (by decide) (fun c33 => ?_) (fun c33 => ?_)
        · rw [if_neg c33] at hf
          refine r_iload_n (pc := 34) X dX12_sheet_34 rfl ?_
          refine r_istore (pc := 35) X [some (.ref p0), some (.int p1), some (.int p2), some (.int p3), some (.int p4), some (.int p3), none, none] dX12_sheet_35 (by decide) rfl ?_
          refine r_iconst (pc := 37) X 0 dX12_sheet_37 (by decide) ?_
          refine r_istore (pc := 38) X [some (.ref p0), some (.int p1), some (.int p2), some (.int p3), some (.int p4), some (.int p3), some (.int 0), none] dX12_sheet_38 (by decide) rfl ?_
          obtain ⟨o24, eo24, hf⟩ := ob hf
          refine (lw_X12_sheet_40 X hd _ _ _ _ lpN _ o24 eo24 ?_) _ _
          intro j25 j26 j27 j28
          refine r_iload_n (pc := 120) X dX12_sheet_120 rfl ?_
          refine r_iconst (pc := 121) X 3 dX12_sheet_121 (by decide) ?_
          refine r_icmp_ne (pc := 122) X 130 dX12_sheet_122 (by decide) (fun c32 => ?_) (fun c32 => ?_)
          · rw [if_neg c32] at hf
            refine r_aload_n (pc := 130) X dX12_sheet_130 rfl ?_
            refine r_aload_n (pc := 131) X dX12_sheet_131 rfl ?_
            obtain ⟨a29, ea29, hf⟩ := ob hf
            refine r_getR (pc := 132) X dX12_sheet_132 fl_X12_9 rfl ea29 ?_
            refine r_iconst (pc := 135) X 0 dX12_sheet_135 (by decide) ?_
            obtain ⟨u30, eu30, hf⟩ := ob hf
            obtain ⟨x31, ex31, hf⟩ := ob hf
            refine r_callVI (pc := 136) X [.ref a29, .int 0] dX12_sheet_136 ml_X12_239 vo_X12_sumOf ⟨Nat.le_refl _, Nat.le_refl _⟩ eu30 (ev_X12_sumOf (d := d - 1) (by omega) _ _ _ _ _ ex31) hd1 rfl (Nat.le_of_ble_eq_true rfl) rfl ?_
            obtain rfl := Option.some.inj hf
            exact r_iret (pc := 139) X dX12_sheet_139 hk
          · rw [if_pos c32] at hf
            refine r_bipush (pc := 125) X (-3) dX12_sheet_125 (by decide) ?_
            refine r_goto (pc := 127) X 139 dX12_sheet_127 (by decide) ?_
            obtain rfl := Option.some.inj hf
            exact r_iret (pc := 139) X dX12_sheet_139 hk
        · rw [if_pos c33] at hf
          refine r_bipush (pc := 31) X (-2) dX12_sheet_31 (by decide) ?_
          obtain rfl := Option.some.inj hf
          exact r_iret (pc := 33) X dX12_sheet_33 hk
    · rw [if_neg c35] at hf
      refine r_iconst (pc := 20) X (-1) dX12_sheet_20 (by decide) ?_
      obtain rfl := Option.some.inj hf
      exact r_iret (pc := 21) X dX12_sheet_21 hk

theorem dX12_lay_0 : decode cX12_lay 0 = .ok (.iconst 0, 1) := by decide +kernel
theorem dX12_lay_1 : decode cX12_lay 1 = .ok (.istore_n 3, 1) := by decide +kernel
theorem dX12_lay_2 : decode cX12_lay 2 = .ok (.iload_n 3, 1) := by decide +kernel
theorem dX12_lay_3 : decode cX12_lay 3 = .ok (.bipush 16, 2) := by decide +kernel
theorem dX12_lay_5 : decode cX12_lay 5 = .ok (.if_icmp .ge 17, 3) := by decide +kernel
theorem dX12_lay_8 : decode cX12_lay 8 = .ok (.aload_n 1, 1) := by decide +kernel
theorem dX12_lay_9 : decode cX12_lay 9 = .ok (.iload_n 2, 1) := by decide +kernel
theorem dX12_lay_10 : decode cX12_lay 10 = .ok (.iload_n 3, 1) := by decide +kernel
theorem dX12_lay_11 : decode cX12_lay 11 = .ok (.iadd, 1) := by decide +kernel
theorem dX12_lay_12 : decode cX12_lay 12 = .ok (.aload_n 0, 1) := by decide +kernel
theorem dX12_lay_13 : decode cX12_lay 13 = .ok (.iload_n 3, 1) := by decide +kernel
theorem dX12_lay_14 : decode cX12_lay 14 = .ok (.iaload, 1) := by decide +kernel
theorem dX12_lay_15 : decode cX12_lay 15 = .ok (.iastore, 1) := by decide +kernel
theorem dX12_lay_16 : decode cX12_lay 16 = .ok (.iinc 3 1, 3) := by decide +kernel
theorem dX12_lay_19 : decode cX12_lay 19 = .ok (.goto (-17), 3) := by decide +kernel
theorem dX12_lay_22 : decode cX12_lay 22 = .ok (.return_, 1) := by decide +kernel
def lb_X12_lay_2 (v0 : Nat) (v1 : Nat) (v2 : Int32) (s : Int32 × aH) : Option ((Int32 × aH) ⊕ ((aH))) :=
  if s.1 < 16 then
    (aI s.2 v0 14 s.1).bind fun x1 =>
    (wI s.2 v1 (v2 + s.1) x1).bind fun h2 =>
    (some (s.1 + 1)).bind fun x3 =>
    some (.inl (x3, h2))
  else
    some (.inr s.2)
def hd_X12_lay_2 (Γ : aC) (v0 : Nat) (v1 : Nat) (v2 : Int32) (s : Int32 × aH) : Prop := Jd Γ (0, 0) 2 [some (.ref v0), some (.ref v1), some (.int v2), some (.int s.1)] [] s.2
def ex_X12_lay_2 (Γ : aC) (v0 : Nat) (v1 : Nat) (v2 : Int32) (r : (aH)) : Prop := (fun r => RqV Γ r) r
set_option maxRecDepth 20000 in
set_option maxHeartbeats 4000000 in
theorem lw_X12_lay_2 {Γ : aC} {d : Nat} (X : Cx Γ RX12 cX12_lay 4 none (d, 0, 0)) (hd : 0 ≤ d) (v0 : Nat) (v1 : Nat) (v2 : Int32) : ∀ n s o, lp (lb_X12_lay_2 v0 v1 v2) n s = some o → ex_X12_lay_2 Γ v0 v1 v2 o → hd_X12_lay_2 Γ v0 v1 v2 s := by
  have hd1 : 0 ≤ d := by omega
  refine J_lp _ _ _ ?_
  intro s o hf hk
  unfold lb_X12_lay_2 at hf
  refine r_iload_n (pc := 2) X dX12_lay_2 rfl ?_
  refine r_bipush (pc := 3) X 16 dX12_lay_3 (by decide) ?_
  refine r_icmp_ge (pc := 5) X 22 dX12_lay_5 (by decide) (fun c4 => ?_) (fun c4 => ?_)
  · rw [if_neg c4] at hf
    obtain rfl := Option.some.inj hf
    exact r_vret (pc := 22) X dX12_lay_22 hk
  · rw [if_pos c4] at hf
    refine r_aload_n (pc := 8) X dX12_lay_8 rfl ?_
    refine r_iload_n (pc := 9) X dX12_lay_9 rfl ?_
    refine r_iload_n (pc := 10) X dX12_lay_10 rfl ?_
    refine r_iadd (pc := 11) X dX12_lay_11 ?_
    refine r_aload_n (pc := 12) X dX12_lay_12 rfl ?_
    refine r_iload_n (pc := 13) X dX12_lay_13 rfl ?_
    obtain ⟨x1, ex1, hf⟩ := ob hf
    refine r_iald (pc := 14) X dX12_lay_14 ex1 ?_
    obtain ⟨h2, eh2, hf⟩ := ob hf
    refine r_iast (pc := 15) X dX12_lay_15 eh2 ?_
    obtain ⟨x3, ex3, hf⟩ := ob hf
    refine r_iinc2 (pc := 16) X 1 [some (.ref v0), some (.ref v1), some (.int v2), some (.int x3)] dX12_lay_16 (by decide) rfl (by decide) ex3 rfl ?_
    refine r_goto (pc := 19) X 2 dX12_lay_19 (by decide) ?_
    obtain rfl := Option.some.inj hf
    exact hk
def fn_X12_lay (h : aH) (p0 : Nat) (p1 : Nat) (p2 : Int32) : Option (aH) :=
  (lp (lb_X12_lay_2 p0 p1 p2) lpN (0, h)).bind fun o5 =>
  some o5
set_option maxRecDepth 20000 in
set_option maxHeartbeats 4000000 in
theorem ev_X12_lay {l : Launch} {g : aG} {d : Nat} (hd : 0 ≤ d) (h : aH) (p0 : Nat) (p1 : Nat) (p2 : Int32) (o : aH) (hf : fn_X12_lay h p0 p1 p2 = some o) : EvM l g d yX12_lay cX12_lay 4 none [.ref p0, .ref p1, .int p2] h (none, o) := by
  refine EvM.of mk_X12_lay (Nat.le_of_ble_eq_true rfl) ?_
  intro Γ hl hg hq X
  have hd1 : 0 ≤ d := by omega
  have hk : RqV Γ o := hq
  unfold fn_X12_lay at hf
  show Jd Γ (0, 0) 0 [some (.ref p0), some (.ref p1), some (.int p2), none] [] h
  refine r_iconst (pc := 0) X 0 dX12_lay_0 (by decide) ?_
  refine r_istore_n (pc := 1) X [some (.ref p0), some (.ref p1), some (.int p2), some (.int 0)] dX12_lay_1 (by decide) rfl ?_
  obtain ⟨o5, eo5, hf⟩ := ob hf
  refine (lw_X12_lay_2 X hd _ _ _ lpN _ o5 eo5 ?_)
  obtain rfl := Option.some.inj hf
  exact hk

theorem dX12_remember_0 : decode cX12_remember 0 = .ok (.aload_n 0, 1) := by decide +kernel
theorem dX12_remember_1 : decode cX12_remember 1 = .ok (.getfield 163, 3) := by decide +kernel
theorem dX12_remember_4 : decode cX12_remember 4 = .ok (.bipush 12, 2) := by decide +kernel
theorem dX12_remember_6 : decode cX12_remember 6 = .ok (.if_icmp .ne 43, 3) := by decide +kernel
theorem dX12_remember_9 : decode cX12_remember 9 = .ok (.iconst 0, 1) := by decide +kernel
theorem dX12_remember_10 : decode cX12_remember 10 = .ok (.istore_n 2, 1) := by decide +kernel
theorem dX12_remember_11 : decode cX12_remember 11 = .ok (.iload_n 2, 1) := by decide +kernel
theorem dX12_remember_12 : decode cX12_remember 12 = .ok (.sipush 176, 3) := by decide +kernel
theorem dX12_remember_15 : decode cX12_remember 15 = .ok (.if_icmp .ge 24, 3) := by decide +kernel
theorem dX12_remember_18 : decode cX12_remember 18 = .ok (.aload_n 0, 1) := by decide +kernel
theorem dX12_remember_19 : decode cX12_remember 19 = .ok (.getfield 42, 3) := by decide +kernel
theorem dX12_remember_22 : decode cX12_remember 22 = .ok (.iload_n 2, 1) := by decide +kernel
theorem dX12_remember_23 : decode cX12_remember 23 = .ok (.aload_n 0, 1) := by decide +kernel
theorem dX12_remember_24 : decode cX12_remember 24 = .ok (.getfield 42, 3) := by decide +kernel
theorem dX12_remember_27 : decode cX12_remember 27 = .ok (.iload_n 2, 1) := by decide +kernel
theorem dX12_remember_28 : decode cX12_remember 28 = .ok (.bipush 16, 2) := by decide +kernel
theorem dX12_remember_30 : decode cX12_remember 30 = .ok (.iadd, 1) := by decide +kernel
theorem dX12_remember_31 : decode cX12_remember 31 = .ok (.iaload, 1) := by decide +kernel
theorem dX12_remember_32 : decode cX12_remember 32 = .ok (.iastore, 1) := by decide +kernel
theorem dX12_remember_33 : decode cX12_remember 33 = .ok (.iinc 2 1, 3) := by decide +kernel
theorem dX12_remember_36 : decode cX12_remember 36 = .ok (.goto (-25), 3) := by decide +kernel
theorem dX12_remember_39 : decode cX12_remember 39 = .ok (.aload_n 0, 1) := by decide +kernel
theorem dX12_remember_40 : decode cX12_remember 40 = .ok (.dup, 1) := by decide +kernel
theorem dX12_remember_41 : decode cX12_remember 41 = .ok (.getfield 163, 3) := by decide +kernel
theorem dX12_remember_44 : decode cX12_remember 44 = .ok (.iconst 1, 1) := by decide +kernel
theorem dX12_remember_45 : decode cX12_remember 45 = .ok (.isub, 1) := by decide +kernel
theorem dX12_remember_46 : decode cX12_remember 46 = .ok (.putfield 163, 3) := by decide +kernel
theorem dX12_remember_49 : decode cX12_remember 49 = .ok (.aload_n 1, 1) := by decide +kernel
theorem dX12_remember_50 : decode cX12_remember 50 = .ok (.aload_n 0, 1) := by decide +kernel
theorem dX12_remember_51 : decode cX12_remember 51 = .ok (.getfield 42, 3) := by decide +kernel
theorem dX12_remember_54 : decode cX12_remember 54 = .ok (.bipush 16, 2) := by decide +kernel
theorem dX12_remember_56 : decode cX12_remember 56 = .ok (.aload_n 0, 1) := by decide +kernel
theorem dX12_remember_57 : decode cX12_remember 57 = .ok (.getfield 163, 3) := by decide +kernel
theorem dX12_remember_60 : decode cX12_remember 60 = .ok (.imul, 1) := by decide +kernel
theorem dX12_remember_61 : decode cX12_remember 61 = .ok (.invokestatic 242, 3) := by decide +kernel
theorem dX12_remember_64 : decode cX12_remember 64 = .ok (.aload_n 0, 1) := by decide +kernel
theorem dX12_remember_65 : decode cX12_remember 65 = .ok (.dup, 1) := by decide +kernel
theorem dX12_remember_66 : decode cX12_remember 66 = .ok (.getfield 163, 3) := by decide +kernel
theorem dX12_remember_69 : decode cX12_remember 69 = .ok (.iconst 1, 1) := by decide +kernel
theorem dX12_remember_70 : decode cX12_remember 70 = .ok (.iadd, 1) := by decide +kernel
theorem dX12_remember_71 : decode cX12_remember 71 = .ok (.putfield 163, 3) := by decide +kernel
theorem dX12_remember_74 : decode cX12_remember 74 = .ok (.return_, 1) := by decide +kernel
def lb_X12_remember_11 (v0 : Nat) (v1 : Nat) (s : Int32 × aH) : Option ((Int32 × aH) ⊕ ((aH))) :=
  if s.1 < 176 then
    (gR s.2 v0 11 23).bind fun a9 =>
    (gR s.2 v0 11 23).bind fun a10 =>
    (aI s.2 a10 14 (s.1 + 16)).bind fun x11 =>
    (wI s.2 a9 s.1 x11).bind fun h12 =>
    (some (s.1 + 1)).bind fun x13 =>
    some (.inl (x13, h12))
  else
    some (.inr s.2)
def hd_X12_remember_11 (Γ : aC) (v0 : Nat) (v1 : Nat) (s : Int32 × aH) : Prop := Jd Γ (0, 0) 11 [some (.ref v0), some (.ref v1), some (.int s.1)] [] s.2
def ex_X12_remember_11 (Γ : aC) (v0 : Nat) (v1 : Nat) (r : (aH)) : Prop := (fun r => ∀ (j2 : Option Value), Jd Γ (0, 0) 39 [some (.ref v0), some (.ref v1), j2] [] r) r
set_option maxRecDepth 20000 in
set_option maxHeartbeats 4000000 in
theorem lw_X12_remember_11 {Γ : aC} {d : Nat} (X : Cx Γ RX12 cX12_remember 3 none (d, 0, 0)) (hd : 1 ≤ d) (v0 : Nat) (v1 : Nat) : ∀ n s o, lp (lb_X12_remember_11 v0 v1) n s = some o → ex_X12_remember_11 Γ v0 v1 o → hd_X12_remember_11 Γ v0 v1 s := by
  have hd1 : 1 ≤ d := by omega
  refine J_lp _ _ _ ?_
  intro s o hf hk
  unfold lb_X12_remember_11 at hf
  refine r_iload_n (pc := 11) X dX12_remember_11 rfl ?_
  refine r_sipush (pc := 12) X 176 dX12_remember_12 (by decide) ?_
  refine r_icmp_ge (pc := 15) X 39 dX12_remember_15 (by decide) (fun c14 => ?_) (fun c14 => ?_)
  · rw [if_neg c14] at hf
    obtain rfl := Option.some.inj hf
    exact hk _
  · rw [if_pos c14] at hf
    refine r_aload_n (pc := 18) X dX12_remember_18 rfl ?_
    obtain ⟨a9, ea9, hf⟩ := ob hf
    refine r_getR (pc := 19) X dX12_remember_19 fl_X12_42 rfl ea9 ?_
    refine r_iload_n (pc := 22) X dX12_remember_22 rfl ?_
    refine r_aload_n (pc := 23) X dX12_remember_23 rfl ?_
    obtain ⟨a10, ea10, hf⟩ := ob hf
    refine r_getR (pc := 24) X dX12_remember_24 fl_X12_42 rfl ea10 ?_
    refine r_iload_n (pc := 27) X dX12_remember_27 rfl ?_
    refine r_bipush (pc := 28) X 16 dX12_remember_28 (by decide) ?_
    refine r_iadd (pc := 30) X dX12_remember_30 ?_
    obtain ⟨x11, ex11, hf⟩ := ob hf
    refine r_iald (pc := 31) X dX12_remember_31 ex11 ?_
    obtain ⟨h12, eh12, hf⟩ := ob hf
    refine r_iast (pc := 32) X dX12_remember_32 eh12 ?_
    obtain ⟨x13, ex13, hf⟩ := ob hf
    refine r_iinc2 (pc := 33) X 1 [some (.ref v0), some (.ref v1), some (.int x13)] dX12_remember_33 (by decide) rfl (by decide) ex13 rfl ?_
    refine r_goto (pc := 36) X 11 dX12_remember_36 (by decide) ?_
    obtain rfl := Option.some.inj hf
    exact hk
def fn_X12_remember (h : aH) (p0 : Nat) (p1 : Nat) : Option (aH) :=
  (gI h p0 11 24).bind fun x1 =>
  ((
    if x1 = 12 then
      (lp (lb_X12_remember_11 p0 p1) lpN (0, h)).bind fun o15 =>
      (gI o15 p0 11 24).bind fun x17 =>
      (pI o15 p0 11 24 (x17 - 1)).bind fun h18 =>
      some h18
    else
      some h
  ) : Option (aH)).bind fun t2 =>
  (gR t2 p0 11 23).bind fun a4 =>
  (gI t2 p0 11 24).bind fun x5 =>
  (fn_X12_lay t2 p1 a4 (16 * x5)).bind fun h6 =>
  (gI h6 p0 11 24).bind fun x7 =>
  (pI h6 p0 11 24 (x7 + 1)).bind fun h8 =>
  some h8
set_option maxRecDepth 20000 in
set_option maxHeartbeats 4000000 in
theorem ev_X12_remember {l : Launch} {g : aG} {d : Nat} (hd : 1 ≤ d) (h : aH) (p0 : Nat) (p1 : Nat) (o : aH) (hf : fn_X12_remember h p0 p1 = some o) : EvM l g d yX12_remember cX12_remember 3 none [.ref p0, .ref p1] h (none, o) := by
  refine EvM.of mk_X12_remember (Nat.le_of_ble_eq_true rfl) ?_
  intro Γ hl hg hq X
  have hd1 : 1 ≤ d := by omega
  have hk : RqV Γ o := hq
  unfold fn_X12_remember at hf
  show Jd Γ (0, 0) 0 [some (.ref p0), some (.ref p1), none] [] h
  refine r_aload_n (pc := 0) X dX12_remember_0 rfl ?_
  obtain ⟨x1, ex1, hf⟩ := ob hf
  refine r_getI (pc := 1) X dX12_remember_1 fl_X12_163 rfl ex1 ?_
  refine r_bipush (pc := 4) X 12 dX12_remember_4 (by decide) ?_
  obtain ⟨t2, et2, hf⟩ := ob hf
  have Jt2 : ∀ (j3 : Option Value), Jd Γ (0, 0) 49 [some (.ref p0), some (.ref p1), j3] [] t2 := by
    intro j3
    refine r_aload_n (pc := 49) X dX12_remember_49 rfl ?_
    refine r_aload_n (pc := 50) X dX12_remember_50 rfl ?_
    obtain ⟨a4, ea4, hf⟩ := ob hf
    refine r_getR (pc := 51) X dX12_remember_51 fl_X12_42 rfl ea4 ?_
    refine r_bipush (pc := 54) X 16 dX12_remember_54 (by decide) ?_
    refine r_aload_n (pc := 56) X dX12_remember_56 rfl ?_
    obtain ⟨x5, ex5, hf⟩ := ob hf
    refine r_getI (pc := 57) X dX12_remember_57 fl_X12_163 rfl ex5 ?_
    refine r_imul (pc := 60) X dX12_remember_60 ?_
    obtain ⟨h6, eh6, hf⟩ := ob hf
    refine r_callSV (pc := 61) X [.ref p1, .ref a4, .int (16 * x5)] dX12_remember_61 ml_X12_242 so_X12_lay ⟨Nat.le_refl _, Nat.le_refl _⟩ (ev_X12_lay (d := d - 1) (by omega) _ _ _ _ _ eh6) hd1 rfl (Nat.le_of_ble_eq_true rfl) rfl ?_
    refine r_aload_n (pc := 64) X dX12_remember_64 rfl ?_
    refine r_dup (pc := 65) X dX12_remember_65 rfl ?_
    obtain ⟨x7, ex7, hf⟩ := ob hf
    refine r_getI (pc := 66) X dX12_remember_66 fl_X12_163 rfl ex7 ?_
    refine r_iconst (pc := 69) X 1 dX12_remember_69 (by decide) ?_
    refine r_iadd (pc := 70) X dX12_remember_70 ?_
    obtain ⟨h8, eh8, hf⟩ := ob hf
    refine r_putI (pc := 71) X dX12_remember_71 fp_X12_163 rfl eh8 ?_
    obtain rfl := Option.some.inj hf
    exact r_vret (pc := 74) X dX12_remember_74 hk
  refine r_icmp_ne (pc := 6) X 49 dX12_remember_6 (by decide) (fun c19 => ?_) (fun c19 => ?_)
  · rw [if_neg c19] at et2
    obtain rfl := Option.some.inj et2
    exact Jt2 _
  · rw [if_pos c19] at et2
    refine r_iconst (pc := 9) X 0 dX12_remember_9 (by decide) ?_
    refine r_istore_n (pc := 10) X [some (.ref p0), some (.ref p1), some (.int 0)] dX12_remember_10 (by decide) rfl ?_
    obtain ⟨o15, eo15, et2⟩ := ob et2
    refine (lw_X12_remember_11 X hd _ _ lpN _ o15 eo15 ?_)
    intro j16
    refine r_aload_n (pc := 39) X dX12_remember_39 rfl ?_
    refine r_dup (pc := 40) X dX12_remember_40 rfl ?_
    obtain ⟨x17, ex17, et2⟩ := ob et2
    refine r_getI (pc := 41) X dX12_remember_41 fl_X12_163 rfl ex17 ?_
    refine r_iconst (pc := 44) X 1 dX12_remember_44 (by decide) ?_
    refine r_isub (pc := 45) X dX12_remember_45 ?_
    obtain ⟨h18, eh18, et2⟩ := ob et2
    refine r_putI (pc := 46) X dX12_remember_46 fp_X12_163 rfl eh18 ?_
    obtain rfl := Option.some.inj et2
    exact Jt2 _

theorem dX12_clear_0 : decode cX12_clear 0 = .ok (.aload_n 0, 1) := by decide +kernel
theorem dX12_clear_1 : decode cX12_clear 1 = .ok (.iconst 0, 1) := by decide +kernel
theorem dX12_clear_2 : decode cX12_clear 2 = .ok (.putfield 246, 3) := by decide +kernel
theorem dX12_clear_5 : decode cX12_clear 5 = .ok (.aload_n 0, 1) := by decide +kernel
theorem dX12_clear_6 : decode cX12_clear 6 = .ok (.iconst 0, 1) := by decide +kernel
theorem dX12_clear_7 : decode cX12_clear 7 = .ok (.putfield 249, 3) := by decide +kernel
theorem dX12_clear_10 : decode cX12_clear 10 = .ok (.iconst 0, 1) := by decide +kernel
theorem dX12_clear_11 : decode cX12_clear 11 = .ok (.istore_n 1, 1) := by decide +kernel
theorem dX12_clear_12 : decode cX12_clear 12 = .ok (.iload_n 1, 1) := by decide +kernel
theorem dX12_clear_13 : decode cX12_clear 13 = .ok (.bipush 8, 2) := by decide +kernel
theorem dX12_clear_15 : decode cX12_clear 15 = .ok (.if_icmp .ge 16, 3) := by decide +kernel
theorem dX12_clear_18 : decode cX12_clear 18 = .ok (.aload_n 0, 1) := by decide +kernel
theorem dX12_clear_19 : decode cX12_clear 19 = .ok (.getfield 51, 3) := by decide +kernel
theorem dX12_clear_22 : decode cX12_clear 22 = .ok (.iload_n 1, 1) := by decide +kernel
theorem dX12_clear_23 : decode cX12_clear 23 = .ok (.iconst 0, 1) := by decide +kernel
theorem dX12_clear_24 : decode cX12_clear 24 = .ok (.iastore, 1) := by decide +kernel
theorem dX12_clear_25 : decode cX12_clear 25 = .ok (.iinc 1 1, 3) := by decide +kernel
theorem dX12_clear_28 : decode cX12_clear 28 = .ok (.goto (-16), 3) := by decide +kernel
theorem dX12_clear_31 : decode cX12_clear 31 = .ok (.return_, 1) := by decide +kernel
def lb_X12_clear_12 (v0 : Nat) (s : Int32 × aH) : Option ((Int32 × aH) ⊕ ((aH))) :=
  if s.1 < 8 then
    (gR s.2 v0 11 29).bind fun a3 =>
    (wI s.2 a3 s.1 0).bind fun h4 =>
    (some (s.1 + 1)).bind fun x5 =>
    some (.inl (x5, h4))
  else
    some (.inr s.2)
def hd_X12_clear_12 (Γ : aC) (v0 : Nat) (s : Int32 × aH) : Prop := Jd Γ (0, 0) 12 [some (.ref v0), some (.int s.1)] [] s.2
def ex_X12_clear_12 (Γ : aC) (v0 : Nat) (r : (aH)) : Prop := (fun r => RqV Γ r) r
set_option maxRecDepth 20000 in
set_option maxHeartbeats 4000000 in
theorem lw_X12_clear_12 {Γ : aC} {d : Nat} (X : Cx Γ RX12 cX12_clear 2 none (d, 0, 0)) (hd : 0 ≤ d) (v0 : Nat) : ∀ n s o, lp (lb_X12_clear_12 v0) n s = some o → ex_X12_clear_12 Γ v0 o → hd_X12_clear_12 Γ v0 s := by
  have hd1 : 0 ≤ d := by omega
  refine J_lp _ _ _ ?_
  intro s o hf hk
  unfold lb_X12_clear_12 at hf
  refine r_iload_n (pc := 12) X dX12_clear_12 rfl ?_
  refine r_bipush (pc := 13) X 8 dX12_clear_13 (by decide) ?_
  refine r_icmp_ge (pc := 15) X 31 dX12_clear_15 (by decide) (fun c6 => ?_) (fun c6 => ?_)
  · rw [if_neg c6] at hf
    obtain rfl := Option.some.inj hf
    exact r_vret (pc := 31) X dX12_clear_31 hk
  · rw [if_pos c6] at hf
    refine r_aload_n (pc := 18) X dX12_clear_18 rfl ?_
    obtain ⟨a3, ea3, hf⟩ := ob hf
    refine r_getR (pc := 19) X dX12_clear_19 fl_X12_51 rfl ea3 ?_
    refine r_iload_n (pc := 22) X dX12_clear_22 rfl ?_
    refine r_iconst (pc := 23) X 0 dX12_clear_23 (by decide) ?_
    obtain ⟨h4, eh4, hf⟩ := ob hf
    refine r_iast (pc := 24) X dX12_clear_24 eh4 ?_
    obtain ⟨x5, ex5, hf⟩ := ob hf
    refine r_iinc2 (pc := 25) X 1 [some (.ref v0), some (.int x5)] dX12_clear_25 (by decide) rfl (by decide) ex5 rfl ?_
    refine r_goto (pc := 28) X 12 dX12_clear_28 (by decide) ?_
    obtain rfl := Option.some.inj hf
    exact hk
def fn_X12_clear (h : aH) (p0 : Nat) : Option (aH) :=
  (pI h p0 11 27 0).bind fun h1 =>
  (pI h1 p0 11 28 0).bind fun h2 =>
  (lp (lb_X12_clear_12 p0) lpN (0, h2)).bind fun o7 =>
  some o7
set_option maxRecDepth 20000 in
set_option maxHeartbeats 4000000 in
theorem ev_X12_clear {l : Launch} {g : aG} {d : Nat} (hd : 0 ≤ d) (h : aH) (p0 : Nat) (o : aH) (hf : fn_X12_clear h p0 = some o) : EvM l g d yX12_clear cX12_clear 2 none [.ref p0] h (none, o) := by
  refine EvM.of mk_X12_clear (Nat.le_of_ble_eq_true rfl) ?_
  intro Γ hl hg hq X
  have hd1 : 0 ≤ d := by omega
  have hk : RqV Γ o := hq
  unfold fn_X12_clear at hf
  show Jd Γ (0, 0) 0 [some (.ref p0), none] [] h
  refine r_aload_n (pc := 0) X dX12_clear_0 rfl ?_
  refine r_iconst (pc := 1) X 0 dX12_clear_1 (by decide) ?_
  obtain ⟨h1, eh1, hf⟩ := ob hf
  refine r_putI (pc := 2) X dX12_clear_2 fp_X12_246 rfl eh1 ?_
  refine r_aload_n (pc := 5) X dX12_clear_5 rfl ?_
  refine r_iconst (pc := 6) X 0 dX12_clear_6 (by decide) ?_
  obtain ⟨h2, eh2, hf⟩ := ob hf
  refine r_putI (pc := 7) X dX12_clear_7 fp_X12_249 rfl eh2 ?_
  refine r_iconst (pc := 10) X 0 dX12_clear_10 (by decide) ?_
  refine r_istore_n (pc := 11) X [some (.ref p0), some (.int 0)] dX12_clear_11 (by decide) rfl ?_
  obtain ⟨o7, eo7, hf⟩ := ob hf
  refine (lw_X12_clear_12 X hd _ lpN _ o7 eo7 ?_)
  obtain rfl := Option.some.inj hf
  exact hk

theorem dX12_isOpen_0 : decode cX12_isOpen 0 = .ok (.aload_n 1, 1) := by decide +kernel
theorem dX12_isOpen_1 : decode cX12_isOpen 1 = .ok (.aload_n 0, 1) := by decide +kernel
theorem dX12_isOpen_2 : decode cX12_isOpen 2 = .ok (.getfield 13, 3) := by decide +kernel
theorem dX12_isOpen_5 : decode cX12_isOpen 5 = .ok (.iload_n 2, 1) := by decide +kernel
theorem dX12_isOpen_6 : decode cX12_isOpen 6 = .ok (.iaload, 1) := by decide +kernel
theorem dX12_isOpen_7 : decode cX12_isOpen 7 = .ok (.iaload, 1) := by decide +kernel
theorem dX12_isOpen_8 : decode cX12_isOpen 8 = .ok (.istore_n 3, 1) := by decide +kernel
theorem dX12_isOpen_9 : decode cX12_isOpen 9 = .ok (.aload_n 0, 1) := by decide +kernel
theorem dX12_isOpen_10 : decode cX12_isOpen 10 = .ok (.getfield 19, 3) := by decide +kernel
theorem dX12_isOpen_13 : decode cX12_isOpen 13 = .ok (.iload_n 2, 1) := by decide +kernel
theorem dX12_isOpen_14 : decode cX12_isOpen 14 = .ok (.iaload, 1) := by decide +kernel
theorem dX12_isOpen_15 : decode cX12_isOpen 15 = .ok (.ifCond .ne 21, 3) := by decide +kernel
theorem dX12_isOpen_18 : decode cX12_isOpen 18 = .ok (.iload_n 3, 1) := by decide +kernel
theorem dX12_isOpen_19 : decode cX12_isOpen 19 = .ok (.aload_n 1, 1) := by decide +kernel
theorem dX12_isOpen_20 : decode cX12_isOpen 20 = .ok (.aload_n 0, 1) := by decide +kernel
theorem dX12_isOpen_21 : decode cX12_isOpen 21 = .ok (.getfield 16, 3) := by decide +kernel
theorem dX12_isOpen_24 : decode cX12_isOpen 24 = .ok (.iload_n 2, 1) := by decide +kernel
theorem dX12_isOpen_25 : decode cX12_isOpen 25 = .ok (.iaload, 1) := by decide +kernel
theorem dX12_isOpen_26 : decode cX12_isOpen 26 = .ok (.iaload, 1) := by decide +kernel
theorem dX12_isOpen_27 : decode cX12_isOpen 27 = .ok (.if_icmp .le 7, 3) := by decide +kernel
theorem dX12_isOpen_30 : decode cX12_isOpen 30 = .ok (.iconst 1, 1) := by decide +kernel
theorem dX12_isOpen_31 : decode cX12_isOpen 31 = .ok (.goto 4, 3) := by decide +kernel
theorem dX12_isOpen_34 : decode cX12_isOpen 34 = .ok (.iconst 0, 1) := by decide +kernel
theorem dX12_isOpen_35 : decode cX12_isOpen 35 = .ok (.ireturn, 1) := by decide +kernel
theorem dX12_isOpen_36 : decode cX12_isOpen 36 = .ok (.aload_n 0, 1) := by decide +kernel
theorem dX12_isOpen_37 : decode cX12_isOpen 37 = .ok (.getfield 19, 3) := by decide +kernel
theorem dX12_isOpen_40 : decode cX12_isOpen 40 = .ok (.iload_n 2, 1) := by decide +kernel
theorem dX12_isOpen_41 : decode cX12_isOpen 41 = .ok (.iaload, 1) := by decide +kernel
theorem dX12_isOpen_42 : decode cX12_isOpen 42 = .ok (.iconst 1, 1) := by decide +kernel
theorem dX12_isOpen_43 : decode cX12_isOpen 43 = .ok (.if_icmp .ne 24, 3) := by decide +kernel
theorem dX12_isOpen_46 : decode cX12_isOpen 46 = .ok (.iload_n 3, 1) := by decide +kernel
theorem dX12_isOpen_47 : decode cX12_isOpen 47 = .ok (.aload_n 1, 1) := by decide +kernel
theorem dX12_isOpen_48 : decode cX12_isOpen 48 = .ok (.bipush 6, 2) := by decide +kernel
theorem dX12_isOpen_50 : decode cX12_isOpen 50 = .ok (.aload_n 0, 1) := by decide +kernel
theorem dX12_isOpen_51 : decode cX12_isOpen 51 = .ok (.getfield 13, 3) := by decide +kernel
theorem dX12_isOpen_54 : decode cX12_isOpen 54 = .ok (.iload_n 2, 1) := by decide +kernel
theorem dX12_isOpen_55 : decode cX12_isOpen 55 = .ok (.iaload, 1) := by decide +kernel
theorem dX12_isOpen_56 : decode cX12_isOpen 56 = .ok (.iadd, 1) := by decide +kernel
theorem dX12_isOpen_57 : decode cX12_isOpen 57 = .ok (.iaload, 1) := by decide +kernel
theorem dX12_isOpen_58 : decode cX12_isOpen 58 = .ok (.if_icmp .le 7, 3) := by decide +kernel
theorem dX12_isOpen_61 : decode cX12_isOpen 61 = .ok (.iconst 1, 1) := by decide +kernel
theorem dX12_isOpen_62 : decode cX12_isOpen 62 = .ok (.goto 4, 3) := by decide +kernel
theorem dX12_isOpen_65 : decode cX12_isOpen 65 = .ok (.iconst 0, 1) := by decide +kernel
theorem dX12_isOpen_66 : decode cX12_isOpen 66 = .ok (.ireturn, 1) := by decide +kernel
theorem dX12_isOpen_67 : decode cX12_isOpen 67 = .ok (.iload_n 3, 1) := by decide +kernel
theorem dX12_isOpen_68 : decode cX12_isOpen 68 = .ok (.aload_n 1, 1) := by decide +kernel
theorem dX12_isOpen_69 : decode cX12_isOpen 69 = .ok (.bipush 6, 2) := by decide +kernel
theorem dX12_isOpen_71 : decode cX12_isOpen 71 = .ok (.aload_n 0, 1) := by decide +kernel
theorem dX12_isOpen_72 : decode cX12_isOpen 72 = .ok (.getfield 13, 3) := by decide +kernel
theorem dX12_isOpen_75 : decode cX12_isOpen 75 = .ok (.iload_n 2, 1) := by decide +kernel
theorem dX12_isOpen_76 : decode cX12_isOpen 76 = .ok (.iaload, 1) := by decide +kernel
theorem dX12_isOpen_77 : decode cX12_isOpen 77 = .ok (.iadd, 1) := by decide +kernel
theorem dX12_isOpen_78 : decode cX12_isOpen 78 = .ok (.iaload, 1) := by decide +kernel
theorem dX12_isOpen_79 : decode cX12_isOpen 79 = .ok (.if_icmp .lt 13, 3) := by decide +kernel
theorem dX12_isOpen_82 : decode cX12_isOpen 82 = .ok (.aload_n 1, 1) := by decide +kernel
theorem dX12_isOpen_83 : decode cX12_isOpen 83 = .ok (.bipush 12, 2) := by decide +kernel
theorem dX12_isOpen_85 : decode cX12_isOpen 85 = .ok (.dup2, 1) := by decide +kernel
theorem dX12_isOpen_86 : decode cX12_isOpen 86 = .ok (.iaload, 1) := by decide +kernel
theorem dX12_isOpen_87 : decode cX12_isOpen 87 = .ok (.iconst 1, 1) := by decide +kernel
theorem dX12_isOpen_88 : decode cX12_isOpen 88 = .ok (.iload_n 2, 1) := by decide +kernel
theorem dX12_isOpen_89 : decode cX12_isOpen 89 = .ok (.ishl, 1) := by decide +kernel
theorem dX12_isOpen_90 : decode cX12_isOpen 90 = .ok (.ior, 1) := by decide +kernel
theorem dX12_isOpen_91 : decode cX12_isOpen 91 = .ok (.iastore, 1) := by decide +kernel
theorem dX12_isOpen_92 : decode cX12_isOpen 92 = .ok (.iload_n 3, 1) := by decide +kernel
theorem dX12_isOpen_93 : decode cX12_isOpen 93 = .ok (.ifCond .ne 15, 3) := by decide +kernel
theorem dX12_isOpen_96 : decode cX12_isOpen 96 = .ok (.aload_n 1, 1) := by decide +kernel
theorem dX12_isOpen_97 : decode cX12_isOpen 97 = .ok (.bipush 12, 2) := by decide +kernel
theorem dX12_isOpen_99 : decode cX12_isOpen 99 = .ok (.dup2, 1) := by decide +kernel
theorem dX12_isOpen_100 : decode cX12_isOpen 100 = .ok (.iaload, 1) := by decide +kernel
theorem dX12_isOpen_101 : decode cX12_isOpen 101 = .ok (.iconst 1, 1) := by decide +kernel
theorem dX12_isOpen_102 : decode cX12_isOpen 102 = .ok (.iload_n 2, 1) := by decide +kernel
theorem dX12_isOpen_103 : decode cX12_isOpen 103 = .ok (.ishl, 1) := by decide +kernel
theorem dX12_isOpen_104 : decode cX12_isOpen 104 = .ok (.iconst (-1), 1) := by decide +kernel
theorem dX12_isOpen_105 : decode cX12_isOpen 105 = .ok (.ixor, 1) := by decide +kernel
theorem dX12_isOpen_106 : decode cX12_isOpen 106 = .ok (.iand, 1) := by decide +kernel
theorem dX12_isOpen_107 : decode cX12_isOpen 107 = .ok (.iastore, 1) := by decide +kernel
theorem dX12_isOpen_108 : decode cX12_isOpen 108 = .ok (.aload_n 1, 1) := by decide +kernel
theorem dX12_isOpen_109 : decode cX12_isOpen 109 = .ok (.bipush 12, 2) := by decide +kernel
theorem dX12_isOpen_111 : decode cX12_isOpen 111 = .ok (.iaload, 1) := by decide +kernel
theorem dX12_isOpen_112 : decode cX12_isOpen 112 = .ok (.iload_n 2, 1) := by decide +kernel
theorem dX12_isOpen_113 : decode cX12_isOpen 113 = .ok (.invokestatic 252, 3) := by decide +kernel
theorem dX12_isOpen_116 : decode cX12_isOpen 116 = .ok (.ireturn, 1) := by decide +kernel
def fn_X12_isOpen (h : aH) (p0 : Nat) (p1 : Nat) (p2 : Int32) : Option (Int32 × aH) :=
  (gR h p0 11 4).bind fun a1 =>
  (aI h a1 14 p2).bind fun x2 =>
  (aI h p1 14 x2).bind fun x3 =>
  (gR h p0 11 6).bind fun a4 =>
  (aI h a4 14 p2).bind fun x5 =>
  if x5 = 0 then
    (gR h p0 11 5).bind fun a27 =>
    (aI h a27 14 p2).bind fun x28 =>
    (aI h p1 14 x28).bind fun x29 =>
    if x3 ≤ x29 then
      some (0, h)
    else
      some (1, h)
  else
    (gR h p0 11 6).bind fun a6 =>
    (aI h a6 14 p2).bind fun x7 =>
    if x7 = 1 then
      (gR h p0 11 4).bind fun a22 =>
      (aI h a22 14 p2).bind fun x23 =>
      (aI h p1 14 (6 + x23)).bind fun x24 =>
      if x3 ≤ x24 then
        some (0, h)
      else
        some (1, h)
    else
      (gR h p0 11 4).bind fun a8 =>
      (aI h a8 14 p2).bind fun x9 =>
      (aI h p1 14 (6 + x9)).bind fun x10 =>
      ((
        if x3 < x10 then
          some h
        else
          (aI h p1 14 12).bind fun x19 =>
          (wI h p1 12 (x19 ||| (1 <<< (p2 &&& 31)))).bind fun h20 =>
          some h20
      ) : Option (aH)).bind fun t11 =>
      ((
        if x3 = 0 then
          (aI t11 p1 14 12).bind fun x16 =>
          (wI t11 p1 12 (x16 &&& ((1 <<< (p2 &&& 31)) ^^^ (-1)))).bind fun h17 =>
          some h17
        else
          some t11
      ) : Option (aH)).bind fun t12 =>
      (aI t12 p1 14 12).bind fun x13 =>
      (fn_X12_has t12 x13 p2).bind fun x14 =>
      (bz x14).bind fun x15 =>
      some (x15, t12)
set_option maxRecDepth 20000 in
set_option maxHeartbeats 4000000 in
theorem ev_X12_isOpen {l : Launch} {g : aG} {d : Nat} (hd : 1 ≤ d) (h : aH) (p0 : Nat) (p1 : Nat) (p2 : Int32) (o : Int32 × aH) (hf : fn_X12_isOpen h p0 p1 p2 = some o) : EvM l g d yX12_isOpen cX12_isOpen 4 (some .boolean) [.ref p0, .ref p1, .int p2] h (some (.int o.1), o.2) := by
  refine EvM.of mk_X12_isOpen (Nat.le_of_ble_eq_true rfl) ?_
  intro Γ hl hg hq X
  have hd1 : 1 ≤ d := by omega
  have hk : RqI Γ o := hq
  unfold fn_X12_isOpen at hf
  show Jd Γ (0, 0) 0 [some (.ref p0), some (.ref p1), some (.int p2), none] [] h
  refine r_aload_n (pc := 0) X dX12_isOpen_0 rfl ?_
  refine r_aload_n (pc := 1) X dX12_isOpen_1 rfl ?_
  obtain ⟨a1, ea1, hf⟩ := ob hf
  refine r_getR (pc := 2) X dX12_isOpen_2 fl_X12_13 rfl ea1 ?_
  refine r_iload_n (pc := 5) X dX12_isOpen_5 rfl ?_
  obtain ⟨x2, ex2, hf⟩ := ob hf
  refine r_iald (pc := 6) X dX12_isOpen_6 ex2 ?_
  obtain ⟨x3, ex3, hf⟩ := ob hf
  refine r_iald (pc := 7) X dX12_isOpen_7 ex3 ?_
  refine r_istore_n (pc := 8) X [some (.ref p0), some (.ref p1), some (.int p2), some (.int x3)] dX12_isOpen_8 (by decide) rfl ?_
  refine r_aload_n (pc := 9) X dX12_isOpen_9 rfl ?_
  obtain ⟨a4, ea4, hf⟩ := ob hf
  refine r_getR (pc := 10) X dX12_isOpen_10 fl_X12_19 rfl ea4 ?_
  refine r_iload_n (pc := 13) X dX12_isOpen_13 rfl ?_
  obtain ⟨x5, ex5, hf⟩ := ob hf
  refine r_iald (pc := 14) X dX12_isOpen_14 ex5 ?_
  refine r_if_ne (pc := 15) X 36 dX12_isOpen_15 (by decide) (fun c31 => ?_) (fun c31 => ?_)
  · rw [if_neg c31] at hf
    refine r_aload_n (pc := 36) X dX12_isOpen_36 rfl ?_
    obtain ⟨a6, ea6, hf⟩ := ob hf
    refine r_getR (pc := 37) X dX12_isOpen_37 fl_X12_19 rfl ea6 ?_
    refine r_iload_n (pc := 40) X dX12_isOpen_40 rfl ?_
    obtain ⟨x7, ex7, hf⟩ := ob hf
    refine r_iald (pc := 41) X dX12_isOpen_41 ex7 ?_
    refine r_iconst (pc := 42) X 1 dX12_isOpen_42 (by decide) ?_
    refine r_icmp_ne (pc := 43) X 67 dX12_isOpen_43 (by decide) (fun c26 => ?_) (fun c26 => ?_)
    · rw [if_neg c26] at hf
      refine r_iload_n (pc := 67) X dX12_isOpen_67 rfl ?_
      refine r_aload_n (pc := 68) X dX12_isOpen_68 rfl ?_
      refine r_bipush (pc := 69) X 6 dX12_isOpen_69 (by decide) ?_
      refine r_aload_n (pc := 71) X dX12_isOpen_71 rfl ?_
      obtain ⟨a8, ea8, hf⟩ := ob hf
      refine r_getR (pc := 72) X dX12_isOpen_72 fl_X12_13 rfl ea8 ?_
      refine r_iload_n (pc := 75) X dX12_isOpen_75 rfl ?_
      obtain ⟨x9, ex9, hf⟩ := ob hf
      refine r_iald (pc := 76) X dX12_isOpen_76 ex9 ?_
      refine r_iadd (pc := 77) X dX12_isOpen_77 ?_
      obtain ⟨x10, ex10, hf⟩ := ob hf
      refine r_iald (pc := 78) X dX12_isOpen_78 ex10 ?_
      obtain ⟨t11, et11, hf⟩ := ob hf
      have Jt11 : Jd Γ (0, 0) 92 [some (.ref p0), some (.ref p1), some (.int p2), some (.int x3)] [] t11 := by
        refine r_iload_n (pc := 92) X dX12_isOpen_92 rfl ?_
        obtain ⟨t12, et12, hf⟩ := ob hf
        have Jt12 : Jd Γ (0, 0) 108 [some (.ref p0), some (.ref p1), some (.int p2), some (.int x3)] [] t12 := by
          refine r_aload_n (pc := 108) X dX12_isOpen_108 rfl ?_
          refine r_bipush (pc := 109) X 12 dX12_isOpen_109 (by decide) ?_
          obtain ⟨x13, ex13, hf⟩ := ob hf
          refine r_iald (pc := 111) X dX12_isOpen_111 ex13 ?_
          refine r_iload_n (pc := 112) X dX12_isOpen_112 rfl ?_
          obtain ⟨x14, ex14, hf⟩ := ob hf
          refine r_callSI (pc := 113) X [.int x13, .int p2] dX12_isOpen_113 ml_X12_252 so_X12_has ⟨Nat.le_refl _, Nat.le_refl _⟩ (ev_X12_has (d := d - 1) (by omega) _ _ _ _ ex14) hd1 rfl (Nat.le_of_ble_eq_true rfl) rfl ?_
          obtain ⟨x15, ex15, hf⟩ := ob hf
          obtain rfl := Option.some.inj hf
          exact r_zretB (pc := 116) X dX12_isOpen_116 ex15 hk
        refine r_if_ne (pc := 93) X 108 dX12_isOpen_93 (by decide) (fun c18 => ?_) (fun c18 => ?_)
        · rw [if_neg c18] at et12
          obtain rfl := Option.some.inj et12
          exact Jt12
        · rw [if_pos c18] at et12
          refine r_aload_n (pc := 96) X dX12_isOpen_96 rfl ?_
          refine r_bipush (pc := 97) X 12 dX12_isOpen_97 (by decide) ?_
          refine r_dup2 (pc := 99) X dX12_isOpen_99 rfl rfl ?_
          obtain ⟨x16, ex16, et12⟩ := ob et12
          refine r_iald (pc := 100) X dX12_isOpen_100 ex16 ?_
          refine r_iconst (pc := 101) X 1 dX12_isOpen_101 (by decide) ?_
          refine r_iload_n (pc := 102) X dX12_isOpen_102 rfl ?_
          refine r_ishl (pc := 103) X dX12_isOpen_103 ?_
          refine r_iconst (pc := 104) X (-1) dX12_isOpen_104 (by decide) ?_
          refine r_ixor (pc := 105) X dX12_isOpen_105 ?_
          refine r_iand (pc := 106) X dX12_isOpen_106 ?_
          obtain ⟨h17, eh17, et12⟩ := ob et12
          refine r_iast (pc := 107) X dX12_isOpen_107 eh17 ?_
          obtain rfl := Option.some.inj et12
          exact Jt12
      refine r_icmp_lt (pc := 79) X 92 dX12_isOpen_79 (by decide) (fun c21 => ?_) (fun c21 => ?_)
      · rw [if_pos c21] at et11
        obtain rfl := Option.some.inj et11
        exact Jt11
      · rw [if_neg c21] at et11
        refine r_aload_n (pc := 82) X dX12_isOpen_82 rfl ?_
        refine r_bipush (pc := 83) X 12 dX12_isOpen_83 (by decide) ?_
        refine r_dup2 (pc := 85) X dX12_isOpen_85 rfl rfl ?_
        obtain ⟨x19, ex19, et11⟩ := ob et11
        refine r_iald (pc := 86) X dX12_isOpen_86 ex19 ?_
        refine r_iconst (pc := 87) X 1 dX12_isOpen_87 (by decide) ?_
        refine r_iload_n (pc := 88) X dX12_isOpen_88 rfl ?_
        refine r_ishl (pc := 89) X dX12_isOpen_89 ?_
        refine r_ior (pc := 90) X dX12_isOpen_90 ?_
        obtain ⟨h20, eh20, et11⟩ := ob et11
        refine r_iast (pc := 91) X dX12_isOpen_91 eh20 ?_
        obtain rfl := Option.some.inj et11
        exact Jt11
    · rw [if_pos c26] at hf
      refine r_iload_n (pc := 46) X dX12_isOpen_46 rfl ?_
      refine r_aload_n (pc := 47) X dX12_isOpen_47 rfl ?_
      refine r_bipush (pc := 48) X 6 dX12_isOpen_48 (by decide) ?_
      refine r_aload_n (pc := 50) X dX12_isOpen_50 rfl ?_
      obtain ⟨a22, ea22, hf⟩ := ob hf
      refine r_getR (pc := 51) X dX12_isOpen_51 fl_X12_13 rfl ea22 ?_
      refine r_iload_n (pc := 54) X dX12_isOpen_54 rfl ?_
      obtain ⟨x23, ex23, hf⟩ := ob hf
      refine r_iald (pc := 55) X dX12_isOpen_55 ex23 ?_
      refine r_iadd (pc := 56) X dX12_isOpen_56 ?_
      obtain ⟨x24, ex24, hf⟩ := ob hf
      refine r_iald (pc := 57) X dX12_isOpen_57 ex24 ?_
      refine r_icmp_le (pc := 58) X 65 dX12_isOpen_58 (by decide) (fun c25 => ?_) (fun c25 => ?_)
      · rw [if_pos c25] at hf
        refine r_iconst (pc := 65) X 0 dX12_isOpen_65 (by decide) ?_
        obtain rfl := Option.some.inj hf
        exact r_zret (pc := 66) X dX12_isOpen_66 (Or.inl rfl) hk
      · rw [if_neg c25] at hf
        refine r_iconst (pc := 61) X 1 dX12_isOpen_61 (by decide) ?_
        refine r_goto (pc := 62) X 66 dX12_isOpen_62 (by decide) ?_
        obtain rfl := Option.some.inj hf
        exact r_zret (pc := 66) X dX12_isOpen_66 (Or.inr rfl) hk
  · rw [if_pos c31] at hf
    refine r_iload_n (pc := 18) X dX12_isOpen_18 rfl ?_
    refine r_aload_n (pc := 19) X dX12_isOpen_19 rfl ?_
    refine r_aload_n (pc := 20) X dX12_isOpen_20 rfl ?_
    obtain ⟨a27, ea27, hf⟩ := ob hf
    refine r_getR (pc := 21) X dX12_isOpen_21 fl_X12_16 rfl ea27 ?_
    refine r_iload_n (pc := 24) X dX12_isOpen_24 rfl ?_
    obtain ⟨x28, ex28, hf⟩ := ob hf
    refine r_iald (pc := 25) X dX12_isOpen_25 ex28 ?_
    obtain ⟨x29, ex29, hf⟩ := ob hf
    refine r_iald (pc := 26) X dX12_isOpen_26 ex29 ?_
    refine r_icmp_le (pc := 27) X 34 dX12_isOpen_27 (by decide) (fun c30 => ?_) (fun c30 => ?_)
    · rw [if_pos c30] at hf
      refine r_iconst (pc := 34) X 0 dX12_isOpen_34 (by decide) ?_
      obtain rfl := Option.some.inj hf
      exact r_zret (pc := 35) X dX12_isOpen_35 (Or.inl rfl) hk
    · rw [if_neg c30] at hf
      refine r_iconst (pc := 30) X 1 dX12_isOpen_30 (by decide) ?_
      refine r_goto (pc := 31) X 35 dX12_isOpen_31 (by decide) ?_
      obtain rfl := Option.some.inj hf
      exact r_zret (pc := 35) X dX12_isOpen_35 (Or.inr rfl) hk

theorem dX12_goHour_0 : decode cX12_goHour 0 = .ok (.iconst 0, 1) := by decide +kernel
theorem dX12_goHour_1 : decode cX12_goHour 1 = .ok (.istore_n 2, 1) := by decide +kernel
theorem dX12_goHour_2 : decode cX12_goHour 2 = .ok (.iload_n 2, 1) := by decide +kernel
theorem dX12_goHour_3 : decode cX12_goHour 3 = .ok (.aload_n 0, 1) := by decide +kernel
theorem dX12_goHour_4 : decode cX12_goHour 4 = .ok (.getfield 118, 3) := by decide +kernel
theorem dX12_goHour_7 : decode cX12_goHour 7 = .ok (.if_icmp .ge 83, 3) := by decide +kernel
theorem dX12_goHour_10 : decode cX12_goHour 10 = .ok (.aload_n 1, 1) := by decide +kernel
theorem dX12_goHour_11 : decode cX12_goHour 11 = .ok (.bipush 13, 2) := by decide +kernel
theorem dX12_goHour_13 : decode cX12_goHour 13 = .ok (.iaload, 1) := by decide +kernel
theorem dX12_goHour_14 : decode cX12_goHour 14 = .ok (.iload_n 2, 1) := by decide +kernel
theorem dX12_goHour_15 : decode cX12_goHour 15 = .ok (.invokestatic 252, 3) := by decide +kernel
theorem dX12_goHour_18 : decode cX12_goHour 18 = .ok (.ifCond .ne 66, 3) := by decide +kernel
theorem dX12_goHour_21 : decode cX12_goHour 21 = .ok (.aload_n 0, 1) := by decide +kernel
theorem dX12_goHour_22 : decode cX12_goHour 22 = .ok (.aload_n 1, 1) := by decide +kernel
theorem dX12_goHour_23 : decode cX12_goHour 23 = .ok (.iload_n 2, 1) := by decide +kernel
theorem dX12_goHour_24 : decode cX12_goHour 24 = .ok (.invokevirtual 256, 3) := by decide +kernel
theorem dX12_goHour_27 : decode cX12_goHour 27 = .ok (.ifCond .ne 6, 3) := by decide +kernel
theorem dX12_goHour_30 : decode cX12_goHour 30 = .ok (.goto 54, 3) := by decide +kernel
theorem dX12_goHour_33 : decode cX12_goHour 33 = .ok (.aload_n 0, 1) := by decide +kernel
theorem dX12_goHour_34 : decode cX12_goHour 34 = .ok (.aload_n 1, 1) := by decide +kernel
theorem dX12_goHour_35 : decode cX12_goHour 35 = .ok (.iload_n 2, 1) := by decide +kernel
theorem dX12_goHour_36 : decode cX12_goHour 36 = .ok (.invokevirtual 236, 3) := by decide +kernel
theorem dX12_goHour_39 : decode cX12_goHour 39 = .ok (.istore_n 3, 1) := by decide +kernel
theorem dX12_goHour_40 : decode cX12_goHour 40 = .ok (.aload_n 1, 1) := by decide +kernel
theorem dX12_goHour_41 : decode cX12_goHour 41 = .ok (.aload_n 0, 1) := by decide +kernel
theorem dX12_goHour_42 : decode cX12_goHour 42 = .ok (.getfield 13, 3) := by decide +kernel
theorem dX12_goHour_45 : decode cX12_goHour 45 = .ok (.iload_n 2, 1) := by decide +kernel
theorem dX12_goHour_46 : decode cX12_goHour 46 = .ok (.iaload, 1) := by decide +kernel
theorem dX12_goHour_47 : decode cX12_goHour 47 = .ok (.dup2, 1) := by decide +kernel
theorem dX12_goHour_48 : decode cX12_goHour 48 = .ok (.iaload, 1) := by decide +kernel
theorem dX12_goHour_49 : decode cX12_goHour 49 = .ok (.iload_n 3, 1) := by decide +kernel
theorem dX12_goHour_50 : decode cX12_goHour 50 = .ok (.isub, 1) := by decide +kernel
theorem dX12_goHour_51 : decode cX12_goHour 51 = .ok (.iastore, 1) := by decide +kernel
theorem dX12_goHour_52 : decode cX12_goHour 52 = .ok (.aload_n 1, 1) := by decide +kernel
theorem dX12_goHour_53 : decode cX12_goHour 53 = .ok (.aload_n 0, 1) := by decide +kernel
theorem dX12_goHour_54 : decode cX12_goHour 54 = .ok (.getfield 16, 3) := by decide +kernel
theorem dX12_goHour_57 : decode cX12_goHour 57 = .ok (.iload_n 2, 1) := by decide +kernel
theorem dX12_goHour_58 : decode cX12_goHour 58 = .ok (.iaload, 1) := by decide +kernel
theorem dX12_goHour_59 : decode cX12_goHour 59 = .ok (.dup2, 1) := by decide +kernel
theorem dX12_goHour_60 : decode cX12_goHour 60 = .ok (.iaload, 1) := by decide +kernel
theorem dX12_goHour_61 : decode cX12_goHour 61 = .ok (.iload_n 3, 1) := by decide +kernel
theorem dX12_goHour_62 : decode cX12_goHour 62 = .ok (.iadd, 1) := by decide +kernel
theorem dX12_goHour_63 : decode cX12_goHour 63 = .ok (.iastore, 1) := by decide +kernel
theorem dX12_goHour_64 : decode cX12_goHour 64 = .ok (.aload_n 0, 1) := by decide +kernel
theorem dX12_goHour_65 : decode cX12_goHour 65 = .ok (.dup, 1) := by decide +kernel
theorem dX12_goHour_66 : decode cX12_goHour 66 = .ok (.getfield 246, 3) := by decide +kernel
theorem dX12_goHour_69 : decode cX12_goHour 69 = .ok (.iload_n 3, 1) := by decide +kernel
theorem dX12_goHour_70 : decode cX12_goHour 70 = .ok (.iadd, 1) := by decide +kernel
theorem dX12_goHour_71 : decode cX12_goHour 71 = .ok (.putfield 246, 3) := by decide +kernel
theorem dX12_goHour_74 : decode cX12_goHour 74 = .ok (.aload_n 0, 1) := by decide +kernel
theorem dX12_goHour_75 : decode cX12_goHour 75 = .ok (.getfield 51, 3) := by decide +kernel
theorem dX12_goHour_78 : decode cX12_goHour 78 = .ok (.iload_n 2, 1) := by decide +kernel
theorem dX12_goHour_79 : decode cX12_goHour 79 = .ok (.dup2, 1) := by decide +kernel
theorem dX12_goHour_80 : decode cX12_goHour 80 = .ok (.iaload, 1) := by decide +kernel
theorem dX12_goHour_81 : decode cX12_goHour 81 = .ok (.iload_n 3, 1) := by decide +kernel
theorem dX12_goHour_82 : decode cX12_goHour 82 = .ok (.iadd, 1) := by decide +kernel
theorem dX12_goHour_83 : decode cX12_goHour 83 = .ok (.iastore, 1) := by decide +kernel
theorem dX12_goHour_84 : decode cX12_goHour 84 = .ok (.iinc 2 1, 3) := by decide +kernel
theorem dX12_goHour_87 : decode cX12_goHour 87 = .ok (.goto (-85), 3) := by decide +kernel
theorem dX12_goHour_90 : decode cX12_goHour 90 = .ok (.iconst 0, 1) := by decide +kernel
theorem dX12_goHour_91 : decode cX12_goHour 91 = .ok (.istore_n 2, 1) := by decide +kernel
theorem dX12_goHour_92 : decode cX12_goHour 92 = .ok (.iload_n 2, 1) := by decide +kernel
theorem dX12_goHour_93 : decode cX12_goHour 93 = .ok (.aload_n 0, 1) := by decide +kernel
theorem dX12_goHour_94 : decode cX12_goHour 94 = .ok (.getfield 107, 3) := by decide +kernel
theorem dX12_goHour_97 : decode cX12_goHour 97 = .ok (.if_icmp .ge 62, 3) := by decide +kernel
theorem dX12_goHour_100 : decode cX12_goHour 100 = .ok (.aload_n 0, 1) := by decide +kernel
theorem dX12_goHour_101 : decode cX12_goHour 101 = .ok (.getfield 175, 3) := by decide +kernel
theorem dX12_goHour_104 : decode cX12_goHour 104 = .ok (.iload_n 2, 1) := by decide +kernel
theorem dX12_goHour_105 : decode cX12_goHour 105 = .ok (.invokestatic 252, 3) := by decide +kernel
theorem dX12_goHour_108 : decode cX12_goHour 108 = .ok (.ifCond .eq 45, 3) := by decide +kernel
theorem dX12_goHour_111 : decode cX12_goHour 111 = .ok (.aload_n 1, 1) := by decide +kernel
theorem dX12_goHour_112 : decode cX12_goHour 112 = .ok (.iload_n 2, 1) := by decide +kernel
theorem dX12_goHour_113 : decode cX12_goHour 113 = .ok (.iaload, 1) := by decide +kernel
theorem dX12_goHour_114 : decode cX12_goHour 114 = .ok (.ifCond .ne 6, 3) := by decide +kernel
theorem dX12_goHour_117 : decode cX12_goHour 117 = .ok (.goto 36, 3) := by decide +kernel
theorem dX12_goHour_120 : decode cX12_goHour 120 = .ok (.aload_n 1, 1) := by decide +kernel
theorem dX12_goHour_121 : decode cX12_goHour 121 = .ok (.iload_n 2, 1) := by decide +kernel
theorem dX12_goHour_122 : decode cX12_goHour 122 = .ok (.dup2, 1) := by decide +kernel
theorem dX12_goHour_123 : decode cX12_goHour 123 = .ok (.iaload, 1) := by decide +kernel
theorem dX12_goHour_124 : decode cX12_goHour 124 = .ok (.iconst 1, 1) := by decide +kernel
theorem dX12_goHour_125 : decode cX12_goHour 125 = .ok (.isub, 1) := by decide +kernel
theorem dX12_goHour_126 : decode cX12_goHour 126 = .ok (.iastore, 1) := by decide +kernel
theorem dX12_goHour_127 : decode cX12_goHour 127 = .ok (.aload_n 0, 1) := by decide +kernel
theorem dX12_goHour_128 : decode cX12_goHour 128 = .ok (.dup, 1) := by decide +kernel
theorem dX12_goHour_129 : decode cX12_goHour 129 = .ok (.getfield 249, 3) := by decide +kernel
theorem dX12_goHour_132 : decode cX12_goHour 132 = .ok (.iconst 1, 1) := by decide +kernel
theorem dX12_goHour_133 : decode cX12_goHour 133 = .ok (.iadd, 1) := by decide +kernel
theorem dX12_goHour_134 : decode cX12_goHour 134 = .ok (.putfield 249, 3) := by decide +kernel
theorem dX12_goHour_137 : decode cX12_goHour 137 = .ok (.aload_n 1, 1) := by decide +kernel
theorem dX12_goHour_138 : decode cX12_goHour 138 = .ok (.bipush 15, 2) := by decide +kernel
theorem dX12_goHour_140 : decode cX12_goHour 140 = .ok (.sipush 9999, 3) := by decide +kernel
theorem dX12_goHour_143 : decode cX12_goHour 143 = .ok (.aload_n 1, 1) := by decide +kernel
theorem dX12_goHour_144 : decode cX12_goHour 144 = .ok (.bipush 15, 2) := by decide +kernel
theorem dX12_goHour_146 : decode cX12_goHour 146 = .ok (.iaload, 1) := by decide +kernel
theorem dX12_goHour_147 : decode cX12_goHour 147 = .ok (.iconst 1, 1) := by decide +kernel
theorem dX12_goHour_148 : decode cX12_goHour 148 = .ok (.iadd, 1) := by decide +kernel
theorem dX12_goHour_149 : decode cX12_goHour 149 = .ok (.invokestatic 217, 3) := by decide +kernel
theorem dX12_goHour_152 : decode cX12_goHour 152 = .ok (.iastore, 1) := by decide +kernel
theorem dX12_goHour_153 : decode cX12_goHour 153 = .ok (.iinc 2 1, 3) := by decide +kernel
theorem dX12_goHour_156 : decode cX12_goHour 156 = .ok (.goto (-64), 3) := by decide +kernel
theorem dX12_goHour_159 : decode cX12_goHour 159 = .ok (.aload_n 1, 1) := by decide +kernel
theorem dX12_goHour_160 : decode cX12_goHour 160 = .ok (.bipush 14, 2) := by decide +kernel
theorem dX12_goHour_162 : decode cX12_goHour 162 = .ok (.dup2, 1) := by decide +kernel
theorem dX12_goHour_163 : decode cX12_goHour 163 = .ok (.iaload, 1) := by decide +kernel
theorem dX12_goHour_164 : decode cX12_goHour 164 = .ok (.iconst 1, 1) := by decide +kernel
theorem dX12_goHour_165 : decode cX12_goHour 165 = .ok (.iadd, 1) := by decide +kernel
theorem dX12_goHour_166 : decode cX12_goHour 166 = .ok (.iastore, 1) := by decide +kernel
theorem dX12_goHour_167 : decode cX12_goHour 167 = .ok (.return_, 1) := by decide +kernel
def lb_X12_goHour_2 (v0 : Nat) (v1 : Nat) (s : Int32 × aH) : Option ((Int32 × aH) ⊕ ((aH))) :=
  (gI s.2 v0 11 2).bind fun x1 =>
  if s.1 < x1 then
    (aI s.2 v1 14 13).bind fun x2 =>
    (fn_X12_has s.2 x2 s.1).bind fun x3 =>
    if x3 = 0 then
      (ck s.2 v0 11).bind fun u5 =>
      (fn_X12_isOpen s.2 v0 v1 s.1).bind fun o6 =>
      if o6.1 = 0 then
        (some (s.1 + 1)).bind fun x23 =>
        some (.inl (x23, o6.2))
      else
        (ck o6.2 v0 11).bind fun u7 =>
        (fn_X12_flowOf o6.2 v0 v1 s.1).bind fun o8 =>
        (gR o8.2 v0 11 4).bind fun a9 =>
        (aI o8.2 a9 14 s.1).bind fun x10 =>
        (aI o8.2 v1 14 x10).bind fun x11 =>
        (wI o8.2 v1 x10 (x11 - o8.1)).bind fun h12 =>
        (gR h12 v0 11 5).bind fun a13 =>
        (aI h12 a13 14 s.1).bind fun x14 =>
        (aI h12 v1 14 x14).bind fun x15 =>
        (wI h12 v1 x14 (x15 + o8.1)).bind fun h16 =>
        (gI h16 v0 11 27).bind fun x17 =>
        (pI h16 v0 11 27 (x17 + o8.1)).bind fun h18 =>
        (gR h18 v0 11 29).bind fun a19 =>
        (aI h18 a19 14 s.1).bind fun x20 =>
        (wI h18 a19 s.1 (x20 + o8.1)).bind fun h21 =>
        (some (s.1 + 1)).bind fun x22 =>
        some (.inl (x22, h21))
    else
      (some (s.1 + 1)).bind fun x4 =>
      some (.inl (x4, s.2))
  else
    some (.inr s.2)
def hd_X12_goHour_2 (Γ : aC) (v0 : Nat) (v1 : Nat) (s : Int32 × aH) : Prop := ∀ (j3 : Option Value), Jd Γ (0, 0) 2 [some (.ref v0), some (.ref v1), some (.int s.1), j3] [] s.2
def ex_X12_goHour_2 (Γ : aC) (v0 : Nat) (v1 : Nat) (r : (aH)) : Prop := (fun r => ∀ (j2 : Option Value) (j3 : Option Value), Jd Γ (0, 0) 90 [some (.ref v0), some (.ref v1), j2, j3] [] r) r
set_option maxRecDepth 20000 in
set_option maxHeartbeats 4000000 in
theorem lw_X12_goHour_2 {Γ : aC} {d : Nat} (X : Cx Γ RX12 cX12_goHour 4 none (d, 0, 0)) (hd : 245 ≤ d) (v0 : Nat) (v1 : Nat) : ∀ n s o, lp (lb_X12_goHour_2 v0 v1) n s = some o → ex_X12_goHour_2 Γ v0 v1 o → hd_X12_goHour_2 Γ v0 v1 s := by
  have hd1 : 1 ≤ d := by omega
  refine J_lp _ _ _ ?_
  intro s o hf hk j3
  unfold lb_X12_goHour_2 at hf
  refine r_iload_n (pc := 2) X dX12_goHour_2 rfl ?_
  refine r_aload_n (pc := 3) X dX12_goHour_3 rfl ?_
  obtain ⟨x1, ex1, hf⟩ := ob hf
  refine r_getI (pc := 4) X dX12_goHour_4 fl_X12_118 rfl ex1 ?_
  refine r_icmp_ge (pc := 7) X 90 dX12_goHour_7 (by decide) (fun c26 => ?_) (fun c26 => ?_)
  · rw [if_neg c26] at hf
    obtain rfl := Option.some.inj hf
    exact hk _ _
  · rw [if_pos c26] at hf
    refine r_aload_n (pc := 10) X dX12_goHour_10 rfl ?_
    refine r_bipush (pc := 11) X 13 dX12_goHour_11 (by decide) ?_
    obtain ⟨x2, ex2, hf⟩ := ob hf
    refine r_iald (pc := 13) X dX12_goHour_13 ex2 ?_
    refine r_iload_n (pc := 14) X dX12_goHour_14 rfl ?_
    obtain ⟨x3, ex3, hf⟩ := ob hf
    refine r_callSI (pc := 15) X [.int x2, .int s.1] dX12_goHour_15 ml_X12_252 so_X12_has ⟨Nat.le_refl _, Nat.le_refl _⟩ (ev_X12_has (d := d - 1) (by omega) _ _ _ _ ex3) hd1 rfl (Nat.le_of_ble_eq_true rfl) rfl ?_
    refine r_if_ne (pc := 18) X 84 dX12_goHour_18 (by decide) (fun c25 => ?_) (fun c25 => ?_)
    · rw [if_neg c25] at hf
      obtain ⟨x4, ex4, hf⟩ := ob hf
      refine r_iinc2 (pc := 84) X 1 [some (.ref v0), some (.ref v1), some (.int x4), j3] dX12_goHour_84 (by decide) rfl (by decide) ex4 rfl ?_
      refine r_goto (pc := 87) X 2 dX12_goHour_87 (by decide) ?_
      obtain rfl := Option.some.inj hf
      exact hk _
    · rw [if_pos c25] at hf
      refine r_aload_n (pc := 21) X dX12_goHour_21 rfl ?_
      refine r_aload_n (pc := 22) X dX12_goHour_22 rfl ?_
      refine r_iload_n (pc := 23) X dX12_goHour_23 rfl ?_
      obtain ⟨u5, eu5, hf⟩ := ob hf
      obtain ⟨o6, eo6, hf⟩ := ob hf
      refine r_callVI (pc := 24) X [.ref v1, .int s.1] dX12_goHour_24 ml_X12_256 vo_X12_isOpen ⟨Nat.le_refl _, Nat.le_refl _⟩ eu5 (ev_X12_isOpen (d := d - 1) (by omega) _ _ _ _ _ eo6) hd1 rfl (Nat.le_of_ble_eq_true rfl) rfl ?_
      refine r_if_ne (pc := 27) X 33 dX12_goHour_27 (by decide) (fun c24 => ?_) (fun c24 => ?_)
      · rw [if_neg c24] at hf
        refine r_aload_n (pc := 33) X dX12_goHour_33 rfl ?_
        refine r_aload_n (pc := 34) X dX12_goHour_34 rfl ?_
        refine r_iload_n (pc := 35) X dX12_goHour_35 rfl ?_
        obtain ⟨u7, eu7, hf⟩ := ob hf
        obtain ⟨o8, eo8, hf⟩ := ob hf
        refine r_callVI (pc := 36) X [.ref v1, .int s.1] dX12_goHour_36 ml_X12_236 vo_X12_flowOf ⟨Nat.le_refl _, Nat.le_refl _⟩ eu7 (ev_X12_flowOf (d := d - 1) (by omega) _ _ _ _ _ eo8) hd1 rfl (Nat.le_of_ble_eq_true rfl) rfl ?_
        refine r_istore_n (pc := 39) X [some (.ref v0), some (.ref v1), some (.int s.1), some (.int o8.1)] dX12_goHour_39 (by decide) rfl ?_
        refine r_aload_n (pc := 40) X dX12_goHour_40 rfl ?_
        refine r_aload_n (pc := 41) X dX12_goHour_41 rfl ?_
        obtain ⟨a9, ea9, hf⟩ := ob hf
        refine r_getR (pc := 42) X dX12_goHour_42 fl_X12_13 rfl ea9 ?_
        refine r_iload_n (pc := 45) X dX12_goHour_45 rfl ?_
        obtain ⟨x10, ex10, hf⟩ := ob hf
        refine r_iald (pc := 46) X dX12_goHour_46 ex10 ?_
        refine r_dup2 (pc := 47) X dX12_goHour_47 rfl rfl ?_
        obtain ⟨x11, ex11, hf⟩ := ob hf
        refine r_iald (pc := 48) X dX12_goHour_48 ex11 ?_
        refine r_iload_n (pc := 49) X dX12_goHour_49 rfl ?_
        refine r_isub (pc := 50) X dX12_goHour_50 ?_
        obtain ⟨h12, eh12, hf⟩ := ob hf
        refine r_iast (pc := 51) X dX12_goHour_51 eh12 ?_
        refine r_aload_n (pc := 52) X dX12_goHour_52 rfl ?_
        refine r_aload_n (pc := 53) X dX12_goHour_53 rfl ?_
        obtain ⟨a13, ea13, hf⟩ := ob hf
        refine r_getR (pc := 54) X dX12_goHour_54 fl_X12_16 rfl ea13 ?_
        refine r_iload_n (pc := 57) X dX12_goHour_57 rfl ?_
        obtain ⟨x14, ex14, hf⟩ := ob hf
        refine r_iald (pc := 58) X dX12_goHour_58 ex14 ?_
        refine r_dup2 (pc := 59) X dX12_goHour_59 rfl rfl ?_
        obtain ⟨x15, ex15, hf⟩ := ob hf
        refine r_iald (pc := 60) X dX12_goHour_60 ex15 ?_
        refine r_iload_n (pc := 61) X dX12_goHour_61 rfl ?_
        refine r_iadd (pc := 62) X dX12_goHour_62 ?_
        obtain ⟨h16, eh16, hf⟩ := ob hf
        refine r_iast (pc := 63) X dX12_goHour_63 eh16 ?_
        refine r_aload_n (pc := 64) X dX12_goHour_64 rfl ?_
        refine r_dup (pc := 65) X dX12_goHour_65 rfl ?_
        obtain ⟨x17, ex17, hf⟩ := ob hf
        refine r_getI (pc := 66) X dX12_goHour_66 fl_X12_246 rfl ex17 ?_
        refine r_iload_n (pc := 69) X dX12_goHour_69 rfl ?_
        refine r_iadd (pc := 70) X dX12_goHour_70 ?_
        obtain ⟨h18, eh18, hf⟩ := ob hf
        refine r_putI (pc := 71) X dX12_goHour_71 fp_X12_246 rfl eh18 ?_
        refine r_aload_n (pc := 74) X dX12_goHour_74 rfl ?_
        obtain ⟨a19, ea19, hf⟩ := ob hf
        refine r_getR (pc := 75) X dX12_goHour_75 fl_X12_51 rfl ea19 ?_
        refine r_iload_n (pc := 78) X dX12_goHour_78 rfl ?_
        refine r_dup2 (pc := 79) X dX12_goHour_79 rfl rfl ?_
        obtain ⟨x20, ex20, hf⟩ := ob hf
        refine r_iald (pc := 80) X dX12_goHour_80 ex20 ?_
        refine r_iload_n (pc := 81) X dX12_goHour_81 rfl ?_
        refine r_iadd (pc := 82) X dX12_goHour_82 ?_
        obtain ⟨h21, eh21, hf⟩ := ob hf
        refine r_iast (pc := 83) X dX12_goHour_83 eh21 ?_
        obtain ⟨x22, ex22, hf⟩ := ob hf
        refine r_iinc2 (pc := 84) X 1 [some (.ref v0), some (.ref v1), some (.int x22), some (.int o8.1)] dX12_goHour_84 (by decide) rfl (by decide) ex22 rfl ?_
        refine r_goto (pc := 87) X 2 dX12_goHour_87 (by decide) ?_
        obtain rfl := Option.some.inj hf
        exact hk _
      · rw [if_pos c24] at hf
        refine r_goto (pc := 30) X 84 dX12_goHour_30 (by decide) ?_
        obtain ⟨x23, ex23, hf⟩ := ob hf
        refine r_iinc2 (pc := 84) X 1 [some (.ref v0), some (.ref v1), some (.int x23), j3] dX12_goHour_84 (by decide) rfl (by decide) ex23 rfl ?_
        refine r_goto (pc := 87) X 2 dX12_goHour_87 (by decide) ?_
        obtain rfl := Option.some.inj hf
        exact hk _
def lb_X12_goHour_92 (v0 : Nat) (v1 : Nat) (s : Int32 × aH) : Option ((Int32 × aH) ⊕ ((aH))) :=
  (gI s.2 v0 11 1).bind fun x30 =>
  if s.1 < x30 then
    (gI s.2 v0 11 3).bind fun x31 =>
    (fn_X12_has s.2 x31 s.1).bind fun x32 =>
    if x32 = 0 then
      (some (s.1 + 1)).bind fun x33 =>
      some (.inl (x33, s.2))
    else
      (aI s.2 v1 14 s.1).bind fun x34 =>
      if x34 = 0 then
        (some (s.1 + 1)).bind fun x42 =>
        some (.inl (x42, s.2))
      else
        (aI s.2 v1 14 s.1).bind fun x35 =>
        (wI s.2 v1 s.1 (x35 - 1)).bind fun h36 =>
        (gI h36 v0 11 28).bind fun x37 =>
        (pI h36 v0 11 28 (x37 + 1)).bind fun h38 =>
        (aI h38 v1 14 15).bind fun x39 =>
        (wI h38 v1 15 (mn 9999 (x39 + 1))).bind fun h40 =>
        (some (s.1 + 1)).bind fun x41 =>
        some (.inl (x41, h40))
  else
    some (.inr s.2)
def hd_X12_goHour_92 (Γ : aC) (v0 : Nat) (v1 : Nat) (s : Int32 × aH) : Prop := ∀ (j3 : Option Value), Jd Γ (0, 0) 92 [some (.ref v0), some (.ref v1), some (.int s.1), j3] [] s.2
def ex_X12_goHour_92 (Γ : aC) (v0 : Nat) (v1 : Nat) (r : (aH)) : Prop := (fun r => ∀ (j2 : Option Value) (j3 : Option Value), Jd Γ (0, 0) 159 [some (.ref v0), some (.ref v1), j2, j3] [] r) r
set_option maxRecDepth 20000 in
set_option maxHeartbeats 4000000 in
theorem lw_X12_goHour_92 {Γ : aC} {d : Nat} (X : Cx Γ RX12 cX12_goHour 4 none (d, 0, 0)) (hd : 245 ≤ d) (v0 : Nat) (v1 : Nat) : ∀ n s o, lp (lb_X12_goHour_92 v0 v1) n s = some o → ex_X12_goHour_92 Γ v0 v1 o → hd_X12_goHour_92 Γ v0 v1 s := by
  have hd1 : 1 ≤ d := by omega
  refine J_lp _ _ _ ?_
  intro s o hf hk j3
  unfold lb_X12_goHour_92 at hf
  refine r_iload_n (pc := 92) X dX12_goHour_92 rfl ?_
  refine r_aload_n (pc := 93) X dX12_goHour_93 rfl ?_
  obtain ⟨x30, ex30, hf⟩ := ob hf
  refine r_getI (pc := 94) X dX12_goHour_94 fl_X12_107 rfl ex30 ?_
  refine r_icmp_ge (pc := 97) X 159 dX12_goHour_97 (by decide) (fun c45 => ?_) (fun c45 => ?_)
  · rw [if_neg c45] at hf
    obtain rfl := Option.some.inj hf
    exact hk _ _
  · rw [if_pos c45] at hf
    refine r_aload_n (pc := 100) X dX12_goHour_100 rfl ?_
    obtain ⟨x31, ex31, hf⟩ := ob hf
    refine r_getI (pc := 101) X dX12_goHour_101 fl_X12_175 rfl ex31 ?_
    refine r_iload_n (pc := 104) X dX12_goHour_104 rfl ?_
    obtain ⟨x32, ex32, hf⟩ := ob hf
    refine r_callSI (pc := 105) X [.int x31, .int s.1] dX12_goHour_105 ml_X12_252 so_X12_has ⟨Nat.le_refl _, Nat.le_refl _⟩ (ev_X12_has (d := d - 1) (by omega) _ _ _ _ ex32) hd1 rfl (Nat.le_of_ble_eq_true rfl) rfl ?_
    refine r_if_eq (pc := 108) X 153 dX12_goHour_108 (by decide) (fun c44 => ?_) (fun c44 => ?_)
    · rw [if_pos c44] at hf
      obtain ⟨x33, ex33, hf⟩ := ob hf
      refine r_iinc2 (pc := 153) X 1 [some (.ref v0), some (.ref v1), some (.int x33), j3] dX12_goHour_153 (by decide) rfl (by decide) ex33 rfl ?_
      refine r_goto (pc := 156) X 92 dX12_goHour_156 (by decide) ?_
      obtain rfl := Option.some.inj hf
      exact hk _
    · rw [if_neg c44] at hf
      refine r_aload_n (pc := 111) X dX12_goHour_111 rfl ?_
      refine r_iload_n (pc := 112) X dX12_goHour_112 rfl ?_
      obtain ⟨x34, ex34, hf⟩ := ob hf
      refine r_iald (pc := 113) X dX12_goHour_113 ex34 ?_
      refine r_if_ne (pc := 114) X 120 dX12_goHour_114 (by decide) (fun c43 => ?_) (fun c43 => ?_)
      · rw [if_neg c43] at hf
        refine r_aload_n (pc := 120) X dX12_goHour_120 rfl ?_
        refine r_iload_n (pc := 121) X dX12_goHour_121 rfl ?_
        refine r_dup2 (pc := 122) X dX12_goHour_122 rfl rfl ?_
        obtain ⟨x35, ex35, hf⟩ := ob hf
        refine r_iald (pc := 123) X dX12_goHour_123 ex35 ?_
        refine r_iconst (pc := 124) X 1 dX12_goHour_124 (by decide) ?_
        refine r_isub (pc := 125) X dX12_goHour_125 ?_
        obtain ⟨h36, eh36, hf⟩ := ob hf
        refine r_iast (pc := 126) X dX12_goHour_126 eh36 ?_
        refine r_aload_n (pc := 127) X dX12_goHour_127 rfl ?_
        refine r_dup (pc := 128) X dX12_goHour_128 rfl ?_
        obtain ⟨x37, ex37, hf⟩ := ob hf
        refine r_getI (pc := 129) X dX12_goHour_129 fl_X12_249 rfl ex37 ?_
        refine r_iconst (pc := 132) X 1 dX12_goHour_132 (by decide) ?_
        refine r_iadd (pc := 133) X dX12_goHour_133 ?_
        obtain ⟨h38, eh38, hf⟩ := ob hf
        refine r_putI (pc := 134) X dX12_goHour_134 fp_X12_249 rfl eh38 ?_
        refine r_aload_n (pc := 137) X dX12_goHour_137 rfl ?_
        refine r_bipush (pc := 138) X 15 dX12_goHour_138 (by decide) ?_
        refine r_sipush (pc := 140) X 9999 dX12_goHour_140 (by decide) ?_
        refine r_aload_n (pc := 143) X dX12_goHour_143 rfl ?_
        refine r_bipush (pc := 144) X 15 dX12_goHour_144 (by decide) ?_
        obtain ⟨x39, ex39, hf⟩ := ob hf
        refine r_iald (pc := 146) X dX12_goHour_146 ex39 ?_
        refine r_iconst (pc := 147) X 1 dX12_goHour_147 (by decide) ?_
        refine r_iadd (pc := 148) X dX12_goHour_148 ?_
        refine r_min (pc := 149) X dX12_goHour_149 ml_X12_217 ⟨Nat.le_refl _, Nat.le_refl _⟩ hd1 (Nat.le_of_ble_eq_true rfl) ?_
        obtain ⟨h40, eh40, hf⟩ := ob hf
        refine r_iast (pc := 152) X dX12_goHour_152 eh40 ?_
        obtain ⟨x41, ex41, hf⟩ := ob hf
        refine r_iinc2 (pc := 153) X 1 [some (.ref v0), some (.ref v1), some (.int x41), j3] dX12_goHour_153 (by decide) rfl (by decide) ex41 rfl ?_
        refine r_goto (pc := 156) X 92 dX12_goHour_156 (by decide) ?_
        obtain rfl := Option.some.inj hf
        exact hk _
      · rw [if_pos c43] at hf
        refine r_goto (pc := 117) X 153 dX12_goHour_117 (by decide) ?_
        obtain ⟨x42, ex42, hf⟩ := ob hf
        refine r_iinc2 (pc := 153) X 1 [some (.ref v0), some (.ref v1), some (.int x42), j3] dX12_goHour_153 (by decide) rfl (by decide) ex42 rfl ?_
        refine r_goto (pc := 156) X 92 dX12_goHour_156 (by decide) ?_
        obtain rfl := Option.some.inj hf
        exact hk _
def fn_X12_goHour (h : aH) (p0 : Nat) (p1 : Nat) : Option (aH) :=
  (lp (lb_X12_goHour_2 p0 p1) lpN (0, h)).bind fun o27 =>
  (lp (lb_X12_goHour_92 p0 p1) lpN (0, o27)).bind fun o46 =>
  (aI o46 p1 14 14).bind fun x49 =>
  (wI o46 p1 14 (x49 + 1)).bind fun h50 =>
  some h50
set_option maxRecDepth 20000 in
set_option maxHeartbeats 4000000 in
theorem ev_X12_goHour {l : Launch} {g : aG} {d : Nat} (hd : 245 ≤ d) (h : aH) (p0 : Nat) (p1 : Nat) (o : aH) (hf : fn_X12_goHour h p0 p1 = some o) : EvM l g d yX12_goHour cX12_goHour 4 none [.ref p0, .ref p1] h (none, o) := by
  refine EvM.of mk_X12_goHour (Nat.le_of_ble_eq_true rfl) ?_
  intro Γ hl hg hq X
  have hd1 : 1 ≤ d := by omega
  have hk : RqV Γ o := hq
  unfold fn_X12_goHour at hf
  show Jd Γ (0, 0) 0 [some (.ref p0), some (.ref p1), none, none] [] h
  refine r_iconst (pc := 0) X 0 dX12_goHour_0 (by decide) ?_
  refine r_istore_n (pc := 1) X [some (.ref p0), some (.ref p1), some (.int 0), none] dX12_goHour_1 (by decide) rfl ?_
  obtain ⟨o27, eo27, hf⟩ := ob hf
  refine (lw_X12_goHour_2 X hd _ _ lpN _ o27 eo27 ?_) _
  intro j28 j29
  refine r_iconst (pc := 90) X 0 dX12_goHour_90 (by decide) ?_
  refine r_istore_n (pc := 91) X [some (.ref p0), some (.ref p1), some (.int 0), j29] dX12_goHour_91 (by decide) rfl ?_
  obtain ⟨o46, eo46, hf⟩ := ob hf
  refine (lw_X12_goHour_92 X hd _ _ lpN _ o46 eo46 ?_) _
  intro j47 j48
  refine r_aload_n (pc := 159) X dX12_goHour_159 rfl ?_
  refine r_bipush (pc := 160) X 14 dX12_goHour_160 (by decide) ?_
  refine r_dup2 (pc := 162) X dX12_goHour_162 rfl rfl ?_
  obtain ⟨x49, ex49, hf⟩ := ob hf
  refine r_iald (pc := 163) X dX12_goHour_163 ex49 ?_
  refine r_iconst (pc := 164) X 1 dX12_goHour_164 (by decide) ?_
  refine r_iadd (pc := 165) X dX12_goHour_165 ?_
  obtain ⟨h50, eh50, hf⟩ := ob hf
  refine r_iast (pc := 166) X dX12_goHour_166 eh50 ?_
  obtain rfl := Option.some.inj hf
  exact r_vret (pc := 167) X dX12_goHour_167 hk

theorem dX12_goHours_0 : decode cX12_goHours 0 = .ok (.iconst 0, 1) := by decide +kernel
theorem dX12_goHours_1 : decode cX12_goHours 1 = .ok (.istore_n 3, 1) := by decide +kernel
theorem dX12_goHours_2 : decode cX12_goHours 2 = .ok (.iload_n 3, 1) := by decide +kernel
theorem dX12_goHours_3 : decode cX12_goHours 3 = .ok (.iload_n 2, 1) := by decide +kernel
theorem dX12_goHours_4 : decode cX12_goHours 4 = .ok (.if_icmp .ge 14, 3) := by decide +kernel
theorem dX12_goHours_7 : decode cX12_goHours 7 = .ok (.aload_n 0, 1) := by decide +kernel
theorem dX12_goHours_8 : decode cX12_goHours 8 = .ok (.aload_n 1, 1) := by decide +kernel
theorem dX12_goHours_9 : decode cX12_goHours 9 = .ok (.invokevirtual 260, 3) := by decide +kernel
theorem dX12_goHours_12 : decode cX12_goHours 12 = .ok (.iinc 3 1, 3) := by decide +kernel
theorem dX12_goHours_15 : decode cX12_goHours 15 = .ok (.goto (-13), 3) := by decide +kernel
theorem dX12_goHours_18 : decode cX12_goHours 18 = .ok (.return_, 1) := by decide +kernel
def lb_X12_goHours_2 (v0 : Nat) (v1 : Nat) (v2 : Int32) (s : Int32 × aH) : Option ((Int32 × aH) ⊕ ((aH))) :=
  if s.1 < v2 then
    (ck s.2 v0 11).bind fun u1 =>
    (fn_X12_goHour s.2 v0 v1).bind fun h2 =>
    (some (s.1 + 1)).bind fun x3 =>
    some (.inl (x3, h2))
  else
    some (.inr s.2)
def hd_X12_goHours_2 (Γ : aC) (v0 : Nat) (v1 : Nat) (v2 : Int32) (s : Int32 × aH) : Prop := Jd Γ (0, 0) 2 [some (.ref v0), some (.ref v1), some (.int v2), some (.int s.1)] [] s.2
def ex_X12_goHours_2 (Γ : aC) (v0 : Nat) (v1 : Nat) (v2 : Int32) (r : (aH)) : Prop := (fun r => RqV Γ r) r
set_option maxRecDepth 20000 in
set_option maxHeartbeats 4000000 in
theorem lw_X12_goHours_2 {Γ : aC} {d : Nat} (X : Cx Γ RX12 cX12_goHours 4 none (d, 0, 0)) (hd : 246 ≤ d) (v0 : Nat) (v1 : Nat) (v2 : Int32) : ∀ n s o, lp (lb_X12_goHours_2 v0 v1 v2) n s = some o → ex_X12_goHours_2 Γ v0 v1 v2 o → hd_X12_goHours_2 Γ v0 v1 v2 s := by
  have hd1 : 1 ≤ d := by omega
  refine J_lp _ _ _ ?_
  intro s o hf hk
  unfold lb_X12_goHours_2 at hf
  refine r_iload_n (pc := 2) X dX12_goHours_2 rfl ?_
  refine r_iload_n (pc := 3) X dX12_goHours_3 rfl ?_
  refine r_icmp_ge (pc := 4) X 18 dX12_goHours_4 (by decide) (fun c4 => ?_) (fun c4 => ?_)
  · rw [if_neg c4] at hf
    obtain rfl := Option.some.inj hf
    exact r_vret (pc := 18) X dX12_goHours_18 hk
  · rw [if_pos c4] at hf
    refine r_aload_n (pc := 7) X dX12_goHours_7 rfl ?_
    refine r_aload_n (pc := 8) X dX12_goHours_8 rfl ?_
    obtain ⟨u1, eu1, hf⟩ := ob hf
    obtain ⟨h2, eh2, hf⟩ := ob hf
    refine r_callVV (pc := 9) X [.ref v1] dX12_goHours_9 ml_X12_260 vo_X12_goHour ⟨Nat.le_refl _, Nat.le_refl _⟩ eu1 (ev_X12_goHour (d := d - 1) (by omega) _ _ _ _ eh2) hd1 rfl (Nat.le_of_ble_eq_true rfl) rfl ?_
    obtain ⟨x3, ex3, hf⟩ := ob hf
    refine r_iinc2 (pc := 12) X 1 [some (.ref v0), some (.ref v1), some (.int v2), some (.int x3)] dX12_goHours_12 (by decide) rfl (by decide) ex3 rfl ?_
    refine r_goto (pc := 15) X 2 dX12_goHours_15 (by decide) ?_
    obtain rfl := Option.some.inj hf
    exact hk
def fn_X12_goHours (h : aH) (p0 : Nat) (p1 : Nat) (p2 : Int32) : Option (aH) :=
  (lp (lb_X12_goHours_2 p0 p1 p2) lpN (0, h)).bind fun o5 =>
  some o5
set_option maxRecDepth 20000 in
set_option maxHeartbeats 4000000 in
theorem ev_X12_goHours {l : Launch} {g : aG} {d : Nat} (hd : 246 ≤ d) (h : aH) (p0 : Nat) (p1 : Nat) (p2 : Int32) (o : aH) (hf : fn_X12_goHours h p0 p1 p2 = some o) : EvM l g d yX12_goHours cX12_goHours 4 none [.ref p0, .ref p1, .int p2] h (none, o) := by
  refine EvM.of mk_X12_goHours (Nat.le_of_ble_eq_true rfl) ?_
  intro Γ hl hg hq X
  have hd1 : 1 ≤ d := by omega
  have hk : RqV Γ o := hq
  unfold fn_X12_goHours at hf
  show Jd Γ (0, 0) 0 [some (.ref p0), some (.ref p1), some (.int p2), none] [] h
  refine r_iconst (pc := 0) X 0 dX12_goHours_0 (by decide) ?_
  refine r_istore_n (pc := 1) X [some (.ref p0), some (.ref p1), some (.int p2), some (.int 0)] dX12_goHours_1 (by decide) rfl ?_
  obtain ⟨o5, eo5, hf⟩ := ob hf
  refine (lw_X12_goHours_2 X hd _ _ _ lpN _ o5 eo5 ?_)
  obtain rfl := Option.some.inj hf
  exact hk

theorem dX12_goThen_0 : decode cX12_goThen 0 = .ok (.aload_n 0, 1) := by decide +kernel
theorem dX12_goThen_1 : decode cX12_goThen 1 = .ok (.getfield 9, 3) := by decide +kernel
theorem dX12_goThen_4 : decode cX12_goThen 4 = .ok (.aload_n 0, 1) := by decide +kernel
theorem dX12_goThen_5 : decode cX12_goThen 5 = .ok (.getfield 48, 3) := by decide +kernel
theorem dX12_goThen_8 : decode cX12_goThen 8 = .ok (.iconst 0, 1) := by decide +kernel
theorem dX12_goThen_9 : decode cX12_goThen 9 = .ok (.invokestatic 242, 3) := by decide +kernel
theorem dX12_goThen_12 : decode cX12_goThen 12 = .ok (.aload_n 0, 1) := by decide +kernel
theorem dX12_goThen_13 : decode cX12_goThen 13 = .ok (.invokevirtual 264, 3) := by decide +kernel
theorem dX12_goThen_16 : decode cX12_goThen 16 = .ok (.aload_n 0, 1) := by decide +kernel
theorem dX12_goThen_17 : decode cX12_goThen 17 = .ok (.aload_n 0, 1) := by decide +kernel
theorem dX12_goThen_18 : decode cX12_goThen 18 = .ok (.getfield 48, 3) := by decide +kernel
theorem dX12_goThen_21 : decode cX12_goThen 21 = .ok (.iload_n 1, 1) := by decide +kernel
theorem dX12_goThen_22 : decode cX12_goThen 22 = .ok (.invokevirtual 267, 3) := by decide +kernel
theorem dX12_goThen_25 : decode cX12_goThen 25 = .ok (.return_, 1) := by decide +kernel
def fn_X12_goThen (h : aH) (p0 : Nat) (p1 : Int32) : Option (aH) :=
  (gR h p0 11 0).bind fun a1 =>
  (gR h p0 11 26).bind fun a2 =>
  (fn_X12_lay h a1 a2 0).bind fun h3 =>
  (ck h3 p0 11).bind fun u4 =>
  (fn_X12_clear h3 p0).bind fun h5 =>
  (gR h5 p0 11 26).bind fun a6 =>
  (ck h5 p0 11).bind fun u7 =>
  (fn_X12_goHours h5 p0 a6 p1).bind fun h8 =>
  some h8
set_option maxRecDepth 20000 in
set_option maxHeartbeats 4000000 in
theorem ev_X12_goThen {l : Launch} {g : aG} {d : Nat} (hd : 247 ≤ d) (h : aH) (p0 : Nat) (p1 : Int32) (o : aH) (hf : fn_X12_goThen h p0 p1 = some o) : EvM l g d yX12_goThen cX12_goThen 2 none [.ref p0, .int p1] h (none, o) := by
  refine EvM.of mk_X12_goThen (Nat.le_of_ble_eq_true rfl) ?_
  intro Γ hl hg hq X
  have hd1 : 1 ≤ d := by omega
  have hk : RqV Γ o := hq
  unfold fn_X12_goThen at hf
  show Jd Γ (0, 0) 0 [some (.ref p0), some (.int p1)] [] h
  refine r_aload_n (pc := 0) X dX12_goThen_0 rfl ?_
  obtain ⟨a1, ea1, hf⟩ := ob hf
  refine r_getR (pc := 1) X dX12_goThen_1 fl_X12_9 rfl ea1 ?_
  refine r_aload_n (pc := 4) X dX12_goThen_4 rfl ?_
  obtain ⟨a2, ea2, hf⟩ := ob hf
  refine r_getR (pc := 5) X dX12_goThen_5 fl_X12_48 rfl ea2 ?_
  refine r_iconst (pc := 8) X 0 dX12_goThen_8 (by decide) ?_
  obtain ⟨h3, eh3, hf⟩ := ob hf
  refine r_callSV (pc := 9) X [.ref a1, .ref a2, .int 0] dX12_goThen_9 ml_X12_242 so_X12_lay ⟨Nat.le_refl _, Nat.le_refl _⟩ (ev_X12_lay (d := d - 1) (by omega) _ _ _ _ _ eh3) hd1 rfl (Nat.le_of_ble_eq_true rfl) rfl ?_
  refine r_aload_n (pc := 12) X dX12_goThen_12 rfl ?_
  obtain ⟨u4, eu4, hf⟩ := ob hf
  obtain ⟨h5, eh5, hf⟩ := ob hf
  refine r_callVV (pc := 13) X [] dX12_goThen_13 ml_X12_264 vo_X12_clear ⟨Nat.le_refl _, Nat.le_refl _⟩ eu4 (ev_X12_clear (d := d - 1) (by omega) _ _ _ eh5) hd1 rfl (Nat.le_of_ble_eq_true rfl) rfl ?_
  refine r_aload_n (pc := 16) X dX12_goThen_16 rfl ?_
  refine r_aload_n (pc := 17) X dX12_goThen_17 rfl ?_
  obtain ⟨a6, ea6, hf⟩ := ob hf
  refine r_getR (pc := 18) X dX12_goThen_18 fl_X12_48 rfl ea6 ?_
  refine r_iload_n (pc := 21) X dX12_goThen_21 rfl ?_
  obtain ⟨u7, eu7, hf⟩ := ob hf
  obtain ⟨h8, eh8, hf⟩ := ob hf
  refine r_callVV (pc := 22) X [.ref a6, .int p1] dX12_goThen_22 ml_X12_267 vo_X12_goHours ⟨Nat.le_refl _, Nat.le_refl _⟩ eu7 (ev_X12_goHours (d := d - 1) (by omega) _ _ _ _ _ eh8) hd1 rfl (Nat.le_of_ble_eq_true rfl) rfl ?_
  obtain rfl := Option.some.inj hf
  exact r_vret (pc := 25) X dX12_goThen_25 hk

theorem dX12_hours_0 : decode cX12_hours 0 = .ok (.aload_n 0, 1) := by decide +kernel
theorem dX12_hours_1 : decode cX12_hours 1 = .ok (.iconst 0, 1) := by decide +kernel
theorem dX12_hours_2 : decode cX12_hours 2 = .ok (.putfield 100, 3) := by decide +kernel
theorem dX12_hours_5 : decode cX12_hours 5 = .ok (.iload_n 1, 1) := by decide +kernel
theorem dX12_hours_6 : decode cX12_hours 6 = .ok (.iconst 0, 1) := by decide +kernel
theorem dX12_hours_7 : decode cX12_hours 7 = .ok (.bipush 60, 2) := by decide +kernel
theorem dX12_hours_9 : decode cX12_hours 9 = .ok (.invokestatic 110, 3) := by decide +kernel
theorem dX12_hours_12 : decode cX12_hours 12 = .ok (.ifCond .ne 5, 3) := by decide +kernel
theorem dX12_hours_15 : decode cX12_hours 15 = .ok (.iconst (-1), 1) := by decide +kernel
theorem dX12_hours_16 : decode cX12_hours 16 = .ok (.ireturn, 1) := by decide +kernel
theorem dX12_hours_17 : decode cX12_hours 17 = .ok (.iload_n 1, 1) := by decide +kernel
theorem dX12_hours_18 : decode cX12_hours 18 = .ok (.ifCond .le 11, 3) := by decide +kernel
theorem dX12_hours_21 : decode cX12_hours 21 = .ok (.aload_n 0, 1) := by decide +kernel
theorem dX12_hours_22 : decode cX12_hours 22 = .ok (.aload_n 0, 1) := by decide +kernel
theorem dX12_hours_23 : decode cX12_hours 23 = .ok (.getfield 9, 3) := by decide +kernel
theorem dX12_hours_26 : decode cX12_hours 26 = .ok (.invokevirtual 271, 3) := by decide +kernel
theorem dX12_hours_29 : decode cX12_hours 29 = .ok (.aload_n 0, 1) := by decide +kernel
theorem dX12_hours_30 : decode cX12_hours 30 = .ok (.invokevirtual 264, 3) := by decide +kernel
theorem dX12_hours_33 : decode cX12_hours 33 = .ok (.aload_n 0, 1) := by decide +kernel
theorem dX12_hours_34 : decode cX12_hours 34 = .ok (.aload_n 0, 1) := by decide +kernel
theorem dX12_hours_35 : decode cX12_hours 35 = .ok (.getfield 9, 3) := by decide +kernel
theorem dX12_hours_38 : decode cX12_hours 38 = .ok (.iload_n 1, 1) := by decide +kernel
theorem dX12_hours_39 : decode cX12_hours 39 = .ok (.invokevirtual 267, 3) := by decide +kernel
theorem dX12_hours_42 : decode cX12_hours 42 = .ok (.aload_n 0, 1) := by decide +kernel
theorem dX12_hours_43 : decode cX12_hours 43 = .ok (.iconst 0, 1) := by decide +kernel
theorem dX12_hours_44 : decode cX12_hours 44 = .ok (.putfield 104, 3) := by decide +kernel
theorem dX12_hours_47 : decode cX12_hours 47 = .ok (.aload_n 0, 1) := by decide +kernel
theorem dX12_hours_48 : decode cX12_hours 48 = .ok (.aload_n 0, 1) := by decide +kernel
theorem dX12_hours_49 : decode cX12_hours 49 = .ok (.getfield 246, 3) := by decide +kernel
theorem dX12_hours_52 : decode cX12_hours 52 = .ok (.i2l, 1) := by decide +kernel
theorem dX12_hours_53 : decode cX12_hours 53 = .ok (.invokevirtual 274, 3) := by decide +kernel
theorem dX12_hours_56 : decode cX12_hours 56 = .ok (.aload_n 0, 1) := by decide +kernel
theorem dX12_hours_57 : decode cX12_hours 57 = .ok (.aload_n 0, 1) := by decide +kernel
theorem dX12_hours_58 : decode cX12_hours 58 = .ok (.getfield 249, 3) := by decide +kernel
theorem dX12_hours_61 : decode cX12_hours 61 = .ok (.i2l, 1) := by decide +kernel
theorem dX12_hours_62 : decode cX12_hours 62 = .ok (.invokevirtual 274, 3) := by decide +kernel
theorem dX12_hours_65 : decode cX12_hours 65 = .ok (.aload_n 0, 1) := by decide +kernel
theorem dX12_hours_66 : decode cX12_hours 66 = .ok (.aload_n 0, 1) := by decide +kernel
theorem dX12_hours_67 : decode cX12_hours 67 = .ok (.getfield 9, 3) := by decide +kernel
theorem dX12_hours_70 : decode cX12_hours 70 = .ok (.iconst 0, 1) := by decide +kernel
theorem dX12_hours_71 : decode cX12_hours 71 = .ok (.invokevirtual 239, 3) := by decide +kernel
theorem dX12_hours_74 : decode cX12_hours 74 = .ok (.ireturn, 1) := by decide +kernel
def fn_X12_hours (h : aH) (p0 : Nat) (p1 : Int32) : Option (Int32 × aH) :=
  (pI h p0 11 11 0).bind fun h1 =>
  (fn_X12_in h1 p1 0 60).bind fun x2 =>
  if x2 = 0 then
    some ((-1), h1)
  else
    ((
      if p1 ≤ 0 then
        some h1
      else
        (gR h1 p0 11 0).bind fun a19 =>
        (ck h1 p0 11).bind fun u20 =>
        (fn_X12_remember h1 p0 a19).bind fun h21 =>
        some h21
    ) : Option (aH)).bind fun t3 =>
    (ck t3 p0 11).bind fun u4 =>
    (fn_X12_clear t3 p0).bind fun h5 =>
    (gR h5 p0 11 0).bind fun a6 =>
    (ck h5 p0 11).bind fun u7 =>
    (fn_X12_goHours h5 p0 a6 p1).bind fun h8 =>
    (pI h8 p0 11 10 0).bind fun h9 =>
    (gI h9 p0 11 27).bind fun x10 =>
    (ck h9 p0 11).bind fun u11 =>
    (fn_X12_tell h9 p0 (Int32.toInt64 x10)).bind fun h12 =>
    (gI h12 p0 11 28).bind fun x13 =>
    (ck h12 p0 11).bind fun u14 =>
    (fn_X12_tell h12 p0 (Int32.toInt64 x13)).bind fun h15 =>
    (gR h15 p0 11 0).bind fun a16 =>
    (ck h15 p0 11).bind fun u17 =>
    (fn_X12_sumOf h15 p0 a16 0).bind fun x18 =>
    some (x18, h15)
set_option maxRecDepth 20000 in
set_option maxHeartbeats 4000000 in
theorem ev_X12_hours {l : Launch} {g : aG} {d : Nat} (hd : 247 ≤ d) (h : aH) (p0 : Nat) (p1 : Int32) (o : Int32 × aH) (hf : fn_X12_hours h p0 p1 = some o) : EvM l g d yX12_hours cX12_hours 2 (some .int) [.ref p0, .int p1] h (some (.int o.1), o.2) := by
  refine EvM.of mk_X12_hours (Nat.le_of_ble_eq_true rfl) ?_
  intro Γ hl hg hq X
  have hd1 : 1 ≤ d := by omega
  have hk : RqI Γ o := hq
  unfold fn_X12_hours at hf
  show Jd Γ (0, 0) 0 [some (.ref p0), some (.int p1)] [] h
  refine r_aload_n (pc := 0) X dX12_hours_0 rfl ?_
  refine r_iconst (pc := 1) X 0 dX12_hours_1 (by decide) ?_
  obtain ⟨h1, eh1, hf⟩ := ob hf
  refine r_putI (pc := 2) X dX12_hours_2 fp_X12_100 rfl eh1 ?_
  refine r_iload_n (pc := 5) X dX12_hours_5 rfl ?_
  refine r_iconst (pc := 6) X 0 dX12_hours_6 (by decide) ?_
  refine r_bipush (pc := 7) X 60 dX12_hours_7 (by decide) ?_
  obtain ⟨x2, ex2, hf⟩ := ob hf
  refine r_callSI (pc := 9) X [.int p1, .int 0, .int 60] dX12_hours_9 ml_X12_110 so_X12_in ⟨Nat.le_refl _, Nat.le_refl _⟩ (ev_X12_in (d := d - 1) (by omega) _ _ _ _ _ ex2) hd1 rfl (Nat.le_of_ble_eq_true rfl) rfl ?_
  refine r_if_ne (pc := 12) X 17 dX12_hours_12 (by decide) (fun c23 => ?_) (fun c23 => ?_)
  · rw [if_neg c23] at hf
    refine r_iload_n (pc := 17) X dX12_hours_17 rfl ?_
    obtain ⟨t3, et3, hf⟩ := ob hf
    have Jt3 : Jd Γ (0, 0) 29 [some (.ref p0), some (.int p1)] [] t3 := by
      refine r_aload_n (pc := 29) X dX12_hours_29 rfl ?_
      obtain ⟨u4, eu4, hf⟩ := ob hf
      obtain ⟨h5, eh5, hf⟩ := ob hf
      refine r_callVV (pc := 30) X [] dX12_hours_30 ml_X12_264 vo_X12_clear ⟨Nat.le_refl _, Nat.le_refl _⟩ eu4 (ev_X12_clear (d := d - 1) (by omega) _ _ _ eh5) hd1 rfl (Nat.le_of_ble_eq_true rfl) rfl ?_
      refine r_aload_n (pc := 33) X dX12_hours_33 rfl ?_
      refine r_aload_n (pc := 34) X dX12_hours_34 rfl ?_
      obtain ⟨a6, ea6, hf⟩ := ob hf
      refine r_getR (pc := 35) X dX12_hours_35 fl_X12_9 rfl ea6 ?_
      refine r_iload_n (pc := 38) X dX12_hours_38 rfl ?_
      obtain ⟨u7, eu7, hf⟩ := ob hf
      obtain ⟨h8, eh8, hf⟩ := ob hf
      refine r_callVV (pc := 39) X [.ref a6, .int p1] dX12_hours_39 ml_X12_267 vo_X12_goHours ⟨Nat.le_refl _, Nat.le_refl _⟩ eu7 (ev_X12_goHours (d := d - 1) (by omega) _ _ _ _ _ eh8) hd1 rfl (Nat.le_of_ble_eq_true rfl) rfl ?_
      refine r_aload_n (pc := 42) X dX12_hours_42 rfl ?_
      refine r_iconst (pc := 43) X 0 dX12_hours_43 (by decide) ?_
      obtain ⟨h9, eh9, hf⟩ := ob hf
      refine r_putI (pc := 44) X dX12_hours_44 fp_X12_104 rfl eh9 ?_
      refine r_aload_n (pc := 47) X dX12_hours_47 rfl ?_
      refine r_aload_n (pc := 48) X dX12_hours_48 rfl ?_
      obtain ⟨x10, ex10, hf⟩ := ob hf
      refine r_getI (pc := 49) X dX12_hours_49 fl_X12_246 rfl ex10 ?_
      refine r_i2l (pc := 52) X dX12_hours_52 ?_
      obtain ⟨u11, eu11, hf⟩ := ob hf
      obtain ⟨h12, eh12, hf⟩ := ob hf
      refine r_callVV (pc := 53) X [.long (Int32.toInt64 x10)] dX12_hours_53 ml_X12_274 vo_X12_tell ⟨Nat.le_refl _, Nat.le_refl _⟩ eu11 (ev_X12_tell (d := d - 1) (by omega) _ _ _ _ eh12) hd1 rfl (Nat.le_of_ble_eq_true rfl) rfl ?_
      refine r_aload_n (pc := 56) X dX12_hours_56 rfl ?_
      refine r_aload_n (pc := 57) X dX12_hours_57 rfl ?_
      obtain ⟨x13, ex13, hf⟩ := ob hf
      refine r_getI (pc := 58) X dX12_hours_58 fl_X12_249 rfl ex13 ?_
      refine r_i2l (pc := 61) X dX12_hours_61 ?_
      obtain ⟨u14, eu14, hf⟩ := ob hf
      obtain ⟨h15, eh15, hf⟩ := ob hf
      refine r_callVV (pc := 62) X [.long (Int32.toInt64 x13)] dX12_hours_62 ml_X12_274 vo_X12_tell ⟨Nat.le_refl _, Nat.le_refl _⟩ eu14 (ev_X12_tell (d := d - 1) (by omega) _ _ _ _ eh15) hd1 rfl (Nat.le_of_ble_eq_true rfl) rfl ?_
      refine r_aload_n (pc := 65) X dX12_hours_65 rfl ?_
      refine r_aload_n (pc := 66) X dX12_hours_66 rfl ?_
      obtain ⟨a16, ea16, hf⟩ := ob hf
      refine r_getR (pc := 67) X dX12_hours_67 fl_X12_9 rfl ea16 ?_
      refine r_iconst (pc := 70) X 0 dX12_hours_70 (by decide) ?_
      obtain ⟨u17, eu17, hf⟩ := ob hf
      obtain ⟨x18, ex18, hf⟩ := ob hf
      refine r_callVI (pc := 71) X [.ref a16, .int 0] dX12_hours_71 ml_X12_239 vo_X12_sumOf ⟨Nat.le_refl _, Nat.le_refl _⟩ eu17 (ev_X12_sumOf (d := d - 1) (by omega) _ _ _ _ _ ex18) hd1 rfl (Nat.le_of_ble_eq_true rfl) rfl ?_
      obtain rfl := Option.some.inj hf
      exact r_iret (pc := 74) X dX12_hours_74 hk
    refine r_if_le (pc := 18) X 29 dX12_hours_18 (by decide) (fun c22 => ?_) (fun c22 => ?_)
    · rw [if_pos c22] at et3
      obtain rfl := Option.some.inj et3
      exact Jt3
    · rw [if_neg c22] at et3
      refine r_aload_n (pc := 21) X dX12_hours_21 rfl ?_
      refine r_aload_n (pc := 22) X dX12_hours_22 rfl ?_
      obtain ⟨a19, ea19, et3⟩ := ob et3
      refine r_getR (pc := 23) X dX12_hours_23 fl_X12_9 rfl ea19 ?_
      obtain ⟨u20, eu20, et3⟩ := ob et3
      obtain ⟨h21, eh21, et3⟩ := ob et3
      refine r_callVV (pc := 26) X [.ref a19] dX12_hours_26 ml_X12_271 vo_X12_remember ⟨Nat.le_refl _, Nat.le_refl _⟩ eu20 (ev_X12_remember (d := d - 1) (by omega) _ _ _ _ eh21) hd1 rfl (Nat.le_of_ble_eq_true rfl) rfl ?_
      obtain rfl := Option.some.inj et3
      exact Jt3
  · rw [if_pos c23] at hf
    refine r_iconst (pc := 15) X (-1) dX12_hours_15 (by decide) ?_
    obtain rfl := Option.some.inj hf
    exact r_iret (pc := 16) X dX12_hours_16 hk

theorem dX12_refusesWater_0 : decode cX12_refusesWater 0 = .ok (.aload_n 0, 1) := by decide +kernel
theorem dX12_refusesWater_1 : decode cX12_refusesWater 1 = .ok (.iload_n 2, 1) := by decide +kernel
theorem dX12_refusesWater_2 : decode cX12_refusesWater 2 = .ok (.invokevirtual 114, 3) := by decide +kernel
theorem dX12_refusesWater_5 : decode cX12_refusesWater 5 = .ok (.ifCond .eq 16, 3) := by decide +kernel
theorem dX12_refusesWater_8 : decode cX12_refusesWater 8 = .ok (.iload_n 3, 1) := by decide +kernel
theorem dX12_refusesWater_9 : decode cX12_refusesWater 9 = .ok (.invokestatic 278, 3) := by decide +kernel
theorem dX12_refusesWater_12 : decode cX12_refusesWater 12 = .ok (.iconst 1, 1) := by decide +kernel
theorem dX12_refusesWater_13 : decode cX12_refusesWater 13 = .ok (.bipush 9, 2) := by decide +kernel
theorem dX12_refusesWater_15 : decode cX12_refusesWater 15 = .ok (.invokestatic 110, 3) := by decide +kernel
theorem dX12_refusesWater_18 : decode cX12_refusesWater 18 = .ok (.ifCond .ne 5, 3) := by decide +kernel
theorem dX12_refusesWater_21 : decode cX12_refusesWater 21 = .ok (.iconst (-1), 1) := by decide +kernel
theorem dX12_refusesWater_22 : decode cX12_refusesWater 22 = .ok (.ireturn, 1) := by decide +kernel
theorem dX12_refusesWater_23 : decode cX12_refusesWater 23 = .ok (.aload_n 1, 1) := by decide +kernel
theorem dX12_refusesWater_24 : decode cX12_refusesWater 24 = .ok (.iload_n 2, 1) := by decide +kernel
theorem dX12_refusesWater_25 : decode cX12_refusesWater 25 = .ok (.iaload, 1) := by decide +kernel
theorem dX12_refusesWater_26 : decode cX12_refusesWater 26 = .ok (.iload_n 3, 1) := by decide +kernel
theorem dX12_refusesWater_27 : decode cX12_refusesWater 27 = .ok (.iadd, 1) := by decide +kernel
theorem dX12_refusesWater_28 : decode cX12_refusesWater 28 = .ok (.iconst 0, 1) := by decide +kernel
theorem dX12_refusesWater_29 : decode cX12_refusesWater 29 = .ok (.bipush 9, 2) := by decide +kernel
theorem dX12_refusesWater_31 : decode cX12_refusesWater 31 = .ok (.invokestatic 110, 3) := by decide +kernel
theorem dX12_refusesWater_34 : decode cX12_refusesWater 34 = .ok (.ifCond .eq 7, 3) := by decide +kernel
theorem dX12_refusesWater_37 : decode cX12_refusesWater 37 = .ok (.iconst 0, 1) := by decide +kernel
theorem dX12_refusesWater_38 : decode cX12_refusesWater 38 = .ok (.goto 5, 3) := by decide +kernel
theorem dX12_refusesWater_41 : decode cX12_refusesWater 41 = .ok (.bipush (-2), 2) := by decide +kernel
theorem dX12_refusesWater_43 : decode cX12_refusesWater 43 = .ok (.ireturn, 1) := by decide +kernel
def fn_X12_refusesWater (h : aH) (p0 : Nat) (p1 : Nat) (p2 : Int32) (p3 : Int32) : Option (Int32) :=
  (ck h p0 11).bind fun u1 =>
  (fn_X12_isBasin h p0 p2).bind fun x2 =>
  if x2 = 0 then
    some (-1)
  else
    (fn_X12_in h (mab p3) 1 9).bind fun x3 =>
    if x3 = 0 then
      some (-1)
    else
      (aI h p1 14 p2).bind fun x4 =>
      (fn_X12_in h (x4 + p3) 0 9).bind fun x5 =>
      if x5 = 0 then
        some (-2)
      else
        some 0
set_option maxRecDepth 20000 in
set_option maxHeartbeats 4000000 in
theorem ev_X12_refusesWater {l : Launch} {g : aG} {d : Nat} (hd : 2 ≤ d) (h : aH) (p0 : Nat) (p1 : Nat) (p2 : Int32) (p3 : Int32) (o : Int32) (hf : fn_X12_refusesWater h p0 p1 p2 p3 = some o) : EvM l g d yX12_refusesWater cX12_refusesWater 4 (some .int) [.ref p0, .ref p1, .int p2, .int p3] h (some (.int o), h) := by
  refine EvM.of mk_X12_refusesWater (Nat.le_of_ble_eq_true rfl) ?_
  intro Γ hl hg hq X
  have hd1 : 1 ≤ d := by omega
  have hk : RpI h Γ o := hq
  unfold fn_X12_refusesWater at hf
  show Jd Γ (0, 0) 0 [some (.ref p0), some (.ref p1), some (.int p2), some (.int p3)] [] h
  refine r_aload_n (pc := 0) X dX12_refusesWater_0 rfl ?_
  refine r_iload_n (pc := 1) X dX12_refusesWater_1 rfl ?_
  obtain ⟨u1, eu1, hf⟩ := ob hf
  obtain ⟨x2, ex2, hf⟩ := ob hf
  refine r_callVI (pc := 2) X [.int p2] dX12_refusesWater_2 ml_X12_114 vo_X12_isBasin ⟨Nat.le_refl _, Nat.le_refl _⟩ eu1 (ev_X12_isBasin (d := d - 1) (by omega) _ _ _ _ ex2) hd1 rfl (Nat.le_of_ble_eq_true rfl) rfl ?_
  refine r_if_eq (pc := 5) X 21 dX12_refusesWater_5 (by decide) (fun c8 => ?_) (fun c8 => ?_)
  · rw [if_pos c8] at hf
    refine r_iconst (pc := 21) X (-1) dX12_refusesWater_21 (by decide) ?_
    obtain rfl := Option.some.inj hf
    exact r_iret (pc := 22) X dX12_refusesWater_22 hk
  · rw [if_neg c8] at hf
    refine r_iload_n (pc := 8) X dX12_refusesWater_8 rfl ?_
    refine r_abs (pc := 9) X dX12_refusesWater_9 ml_X12_278 ⟨Nat.le_refl _, Nat.le_refl _⟩ hd1 (Nat.le_of_ble_eq_true rfl) ?_
    refine r_iconst (pc := 12) X 1 dX12_refusesWater_12 (by decide) ?_
    refine r_bipush (pc := 13) X 9 dX12_refusesWater_13 (by decide) ?_
    obtain ⟨x3, ex3, hf⟩ := ob hf
    refine r_callSI (pc := 15) X [.int (mab p3), .int 1, .int 9] dX12_refusesWater_15 ml_X12_110 so_X12_in ⟨Nat.le_refl _, Nat.le_refl _⟩ (ev_X12_in (d := d - 1) (by omega) _ _ _ _ _ ex3) hd1 rfl (Nat.le_of_ble_eq_true rfl) rfl ?_
    refine r_if_ne (pc := 18) X 23 dX12_refusesWater_18 (by decide) (fun c7 => ?_) (fun c7 => ?_)
    · rw [if_neg c7] at hf
      refine r_aload_n (pc := 23) X dX12_refusesWater_23 rfl ?_
      refine r_iload_n (pc := 24) X dX12_refusesWater_24 rfl ?_
      obtain ⟨x4, ex4, hf⟩ := ob hf
      refine r_iald (pc := 25) X dX12_refusesWater_25 ex4 ?_
      refine r_iload_n (pc := 26) X dX12_refusesWater_26 rfl ?_
      refine r_iadd (pc := 27) X dX12_refusesWater_27 ?_
      refine r_iconst (pc := 28) X 0 dX12_refusesWater_28 (by decide) ?_
      refine r_bipush (pc := 29) X 9 dX12_refusesWater_29 (by decide) ?_
      obtain ⟨x5, ex5, hf⟩ := ob hf
      refine r_callSI (pc := 31) X [.int (x4 + p3), .int 0, .int 9] dX12_refusesWater_31 ml_X12_110 so_X12_in ⟨Nat.le_refl _, Nat.le_refl _⟩ (ev_X12_in (d := d - 1) (by omega) _ _ _ _ _ ex5) hd1 rfl (Nat.le_of_ble_eq_true rfl) rfl ?_
      refine r_if_eq (pc := 34) X 41 dX12_refusesWater_34 (by decide) (fun c6 => ?_) (fun c6 => ?_)
      · rw [if_pos c6] at hf
        refine r_bipush (pc := 41) X (-2) dX12_refusesWater_41 (by decide) ?_
        obtain rfl := Option.some.inj hf
        exact r_iret (pc := 43) X dX12_refusesWater_43 hk
      · rw [if_neg c6] at hf
        refine r_iconst (pc := 37) X 0 dX12_refusesWater_37 (by decide) ?_
        refine r_goto (pc := 38) X 43 dX12_refusesWater_38 (by decide) ?_
        obtain rfl := Option.some.inj hf
        exact r_iret (pc := 43) X dX12_refusesWater_43 hk
    · rw [if_pos c7] at hf
      refine r_iconst (pc := 21) X (-1) dX12_refusesWater_21 (by decide) ?_
      obtain rfl := Option.some.inj hf
      exact r_iret (pc := 22) X dX12_refusesWater_22 hk

theorem dX12_waters_0 : decode cX12_waters 0 = .ok (.aload_n 0, 1) := by decide +kernel
theorem dX12_waters_1 : decode cX12_waters 1 = .ok (.aload_n 0, 1) := by decide +kernel
theorem dX12_waters_2 : decode cX12_waters 2 = .ok (.getfield 9, 3) := by decide +kernel
theorem dX12_waters_5 : decode cX12_waters 5 = .ok (.iload_n 1, 1) := by decide +kernel
theorem dX12_waters_6 : decode cX12_waters 6 = .ok (.iload_n 2, 1) := by decide +kernel
theorem dX12_waters_7 : decode cX12_waters 7 = .ok (.invokevirtual 281, 3) := by decide +kernel
theorem dX12_waters_10 : decode cX12_waters 10 = .ok (.istore_n 3, 1) := by decide +kernel
theorem dX12_waters_11 : decode cX12_waters 11 = .ok (.iload_n 3, 1) := by decide +kernel
theorem dX12_waters_12 : decode cX12_waters 12 = .ok (.ifCond .ge 5, 3) := by decide +kernel
theorem dX12_waters_15 : decode cX12_waters 15 = .ok (.iload_n 3, 1) := by decide +kernel
theorem dX12_waters_16 : decode cX12_waters 16 = .ok (.ireturn, 1) := by decide +kernel
theorem dX12_waters_17 : decode cX12_waters 17 = .ok (.aload_n 0, 1) := by decide +kernel
theorem dX12_waters_18 : decode cX12_waters 18 = .ok (.aload_n 0, 1) := by decide +kernel
theorem dX12_waters_19 : decode cX12_waters 19 = .ok (.getfield 9, 3) := by decide +kernel
theorem dX12_waters_22 : decode cX12_waters 22 = .ok (.invokevirtual 271, 3) := by decide +kernel
theorem dX12_waters_25 : decode cX12_waters 25 = .ok (.aload_n 0, 1) := by decide +kernel
theorem dX12_waters_26 : decode cX12_waters 26 = .ok (.getfield 9, 3) := by decide +kernel
theorem dX12_waters_29 : decode cX12_waters 29 = .ok (.iload_n 1, 1) := by decide +kernel
theorem dX12_waters_30 : decode cX12_waters 30 = .ok (.dup2, 1) := by decide +kernel
theorem dX12_waters_31 : decode cX12_waters 31 = .ok (.iaload, 1) := by decide +kernel
theorem dX12_waters_32 : decode cX12_waters 32 = .ok (.iload_n 2, 1) := by decide +kernel
theorem dX12_waters_33 : decode cX12_waters 33 = .ok (.iadd, 1) := by decide +kernel
theorem dX12_waters_34 : decode cX12_waters 34 = .ok (.iastore, 1) := by decide +kernel
theorem dX12_waters_35 : decode cX12_waters 35 = .ok (.aload_n 0, 1) := by decide +kernel
theorem dX12_waters_36 : decode cX12_waters 36 = .ok (.getfield 9, 3) := by decide +kernel
theorem dX12_waters_39 : decode cX12_waters 39 = .ok (.iload_n 1, 1) := by decide +kernel
theorem dX12_waters_40 : decode cX12_waters 40 = .ok (.iaload, 1) := by decide +kernel
theorem dX12_waters_41 : decode cX12_waters 41 = .ok (.ireturn, 1) := by decide +kernel
def fn_X12_waters (h : aH) (p0 : Nat) (p1 : Int32) (p2 : Int32) : Option (Int32 × aH) :=
  (gR h p0 11 0).bind fun a1 =>
  (ck h p0 11).bind fun u2 =>
  (fn_X12_refusesWater h p0 a1 p1 p2).bind fun x3 =>
  if x3 < 0 then
    some (x3, h)
  else
    (gR h p0 11 0).bind fun a4 =>
    (ck h p0 11).bind fun u5 =>
    (fn_X12_remember h p0 a4).bind fun h6 =>
    (gR h6 p0 11 0).bind fun a7 =>
    (aI h6 a7 14 p1).bind fun x8 =>
    (wI h6 a7 p1 (x8 + p2)).bind fun h9 =>
    (gR h9 p0 11 0).bind fun a10 =>
    (aI h9 a10 14 p1).bind fun x11 =>
    some (x11, h9)
set_option maxRecDepth 20000 in
set_option maxHeartbeats 4000000 in
theorem ev_X12_waters {l : Launch} {g : aG} {d : Nat} (hd : 3 ≤ d) (h : aH) (p0 : Nat) (p1 : Int32) (p2 : Int32) (o : Int32 × aH) (hf : fn_X12_waters h p0 p1 p2 = some o) : EvM l g d yX12_waters cX12_waters 4 (some .int) [.ref p0, .int p1, .int p2] h (some (.int o.1), o.2) := by
  refine EvM.of mk_X12_waters (Nat.le_of_ble_eq_true rfl) ?_
  intro Γ hl hg hq X
  have hd1 : 1 ≤ d := by omega
  have hk : RqI Γ o := hq
  unfold fn_X12_waters at hf
  show Jd Γ (0, 0) 0 [some (.ref p0), some (.int p1), some (.int p2), none] [] h
  refine r_aload_n (pc := 0) X dX12_waters_0 rfl ?_
  refine r_aload_n (pc := 1) X dX12_waters_1 rfl ?_
  obtain ⟨a1, ea1, hf⟩ := ob hf
  refine r_getR (pc := 2) X dX12_waters_2 fl_X12_9 rfl ea1 ?_
  refine r_iload_n (pc := 5) X dX12_waters_5 rfl ?_
  refine r_iload_n (pc := 6) X dX12_waters_6 rfl ?_
  obtain ⟨u2, eu2, hf⟩ := ob hf
  obtain ⟨x3, ex3, hf⟩ := ob hf
  refine r_callVI (pc := 7) X [.ref a1, .int p1, .int p2] dX12_waters_7 ml_X12_281 vo_X12_refusesWater ⟨Nat.le_refl _, Nat.le_refl _⟩ eu2 (ev_X12_refusesWater (d := d - 1) (by omega) _ _ _ _ _ _ ex3) hd1 rfl (Nat.le_of_ble_eq_true rfl) rfl ?_
  refine r_istore_n (pc := 10) X [some (.ref p0), some (.int p1), some (.int p2), some (.int x3)] dX12_waters_10 (by decide) rfl ?_
  refine r_iload_n (pc := 11) X dX12_waters_11 rfl ?_
  refine r_if_ge (pc := 12) X 17 dX12_waters_12 (by decide) (fun c12 => ?_) (fun c12 => ?_)
  · rw [if_neg c12] at hf
    refine r_aload_n (pc := 17) X dX12_waters_17 rfl ?_
    refine r_aload_n (pc := 18) X dX12_waters_18 rfl ?_
    obtain ⟨a4, ea4, hf⟩ := ob hf
    refine r_getR (pc := 19) X dX12_waters_19 fl_X12_9 rfl ea4 ?_
    obtain ⟨u5, eu5, hf⟩ := ob hf
    obtain ⟨h6, eh6, hf⟩ := ob hf
    refine r_callVV (pc := 22) X [.ref a4] dX12_waters_22 ml_X12_271 vo_X12_remember ⟨Nat.le_refl _, Nat.le_refl _⟩ eu5 (ev_X12_remember (d := d - 1) (by omega) _ _ _ _ eh6) hd1 rfl (Nat.le_of_ble_eq_true rfl) rfl ?_
    refine r_aload_n (pc := 25) X dX12_waters_25 rfl ?_
    obtain ⟨a7, ea7, hf⟩ := ob hf
    refine r_getR (pc := 26) X dX12_waters_26 fl_X12_9 rfl ea7 ?_
    refine r_iload_n (pc := 29) X dX12_waters_29 rfl ?_
    refine r_dup2 (pc := 30) X dX12_waters_30 rfl rfl ?_
    obtain ⟨x8, ex8, hf⟩ := ob hf
    refine r_iald (pc := 31) X dX12_waters_31 ex8 ?_
    refine r_iload_n (pc := 32) X dX12_waters_32 rfl ?_
    refine r_iadd (pc := 33) X dX12_waters_33 ?_
    obtain ⟨h9, eh9, hf⟩ := ob hf
    refine r_iast (pc := 34) X dX12_waters_34 eh9 ?_
    refine r_aload_n (pc := 35) X dX12_waters_35 rfl ?_
    obtain ⟨a10, ea10, hf⟩ := ob hf
    refine r_getR (pc := 36) X dX12_waters_36 fl_X12_9 rfl ea10 ?_
    refine r_iload_n (pc := 39) X dX12_waters_39 rfl ?_
    obtain ⟨x11, ex11, hf⟩ := ob hf
    refine r_iald (pc := 40) X dX12_waters_40 ex11 ?_
    obtain rfl := Option.some.inj hf
    exact r_iret (pc := 41) X dX12_waters_41 hk
  · rw [if_pos c12] at hf
    refine r_iload_n (pc := 15) X dX12_waters_15 rfl ?_
    obtain rfl := Option.some.inj hf
    exact r_iret (pc := 16) X dX12_waters_16 hk

theorem dX12_pours_0 : decode cX12_pours 0 = .ok (.aload_n 0, 1) := by decide +kernel
theorem dX12_pours_1 : decode cX12_pours 1 = .ok (.iconst 0, 1) := by decide +kernel
theorem dX12_pours_2 : decode cX12_pours 2 = .ok (.putfield 100, 3) := by decide +kernel
theorem dX12_pours_5 : decode cX12_pours 5 = .ok (.iload_n 2, 1) := by decide +kernel
theorem dX12_pours_6 : decode cX12_pours 6 = .ok (.iconst 1, 1) := by decide +kernel
theorem dX12_pours_7 : decode cX12_pours 7 = .ok (.bipush 9, 2) := by decide +kernel
theorem dX12_pours_9 : decode cX12_pours 9 = .ok (.invokestatic 110, 3) := by decide +kernel
theorem dX12_pours_12 : decode cX12_pours 12 = .ok (.ifCond .eq 12, 3) := by decide +kernel
theorem dX12_pours_15 : decode cX12_pours 15 = .ok (.aload_n 0, 1) := by decide +kernel
theorem dX12_pours_16 : decode cX12_pours 16 = .ok (.iload_n 1, 1) := by decide +kernel
theorem dX12_pours_17 : decode cX12_pours 17 = .ok (.iload_n 2, 1) := by decide +kernel
theorem dX12_pours_18 : decode cX12_pours 18 = .ok (.invokevirtual 285, 3) := by decide +kernel
theorem dX12_pours_21 : decode cX12_pours 21 = .ok (.goto 4, 3) := by decide +kernel
theorem dX12_pours_24 : decode cX12_pours 24 = .ok (.iconst (-1), 1) := by decide +kernel
theorem dX12_pours_25 : decode cX12_pours 25 = .ok (.ireturn, 1) := by decide +kernel
def fn_X12_pours (h : aH) (p0 : Nat) (p1 : Int32) (p2 : Int32) : Option (Int32 × aH) :=
  (pI h p0 11 11 0).bind fun h1 =>
  (fn_X12_in h1 p2 1 9).bind fun x2 =>
  if x2 = 0 then
    some ((-1), h1)
  else
    (ck h1 p0 11).bind fun u3 =>
    (fn_X12_waters h1 p0 p1 p2).bind fun o4 =>
    some (o4.1, o4.2)
set_option maxRecDepth 20000 in
set_option maxHeartbeats 4000000 in
theorem ev_X12_pours {l : Launch} {g : aG} {d : Nat} (hd : 4 ≤ d) (h : aH) (p0 : Nat) (p1 : Int32) (p2 : Int32) (o : Int32 × aH) (hf : fn_X12_pours h p0 p1 p2 = some o) : EvM l g d yX12_pours cX12_pours 3 (some .int) [.ref p0, .int p1, .int p2] h (some (.int o.1), o.2) := by
  refine EvM.of mk_X12_pours (Nat.le_of_ble_eq_true rfl) ?_
  intro Γ hl hg hq X
  have hd1 : 1 ≤ d := by omega
  have hk : RqI Γ o := hq
  unfold fn_X12_pours at hf
  show Jd Γ (0, 0) 0 [some (.ref p0), some (.int p1), some (.int p2)] [] h
  refine r_aload_n (pc := 0) X dX12_pours_0 rfl ?_
  refine r_iconst (pc := 1) X 0 dX12_pours_1 (by decide) ?_
  obtain ⟨h1, eh1, hf⟩ := ob hf
  refine r_putI (pc := 2) X dX12_pours_2 fp_X12_100 rfl eh1 ?_
  refine r_iload_n (pc := 5) X dX12_pours_5 rfl ?_
  refine r_iconst (pc := 6) X 1 dX12_pours_6 (by decide) ?_
  refine r_bipush (pc := 7) X 9 dX12_pours_7 (by decide) ?_
  obtain ⟨x2, ex2, hf⟩ := ob hf
  refine r_callSI (pc := 9) X [.int p2, .int 1, .int 9] dX12_pours_9 ml_X12_110 so_X12_in ⟨Nat.le_refl _, Nat.le_refl _⟩ (ev_X12_in (d := d - 1) (by omega) _ _ _ _ _ ex2) hd1 rfl (Nat.le_of_ble_eq_true rfl) rfl ?_
  refine r_if_eq (pc := 12) X 24 dX12_pours_12 (by decide) (fun c5 => ?_) (fun c5 => ?_)
  · rw [if_pos c5] at hf
    refine r_iconst (pc := 24) X (-1) dX12_pours_24 (by decide) ?_
    obtain rfl := Option.some.inj hf
    exact r_iret (pc := 25) X dX12_pours_25 hk
  · rw [if_neg c5] at hf
    refine r_aload_n (pc := 15) X dX12_pours_15 rfl ?_
    refine r_iload_n (pc := 16) X dX12_pours_16 rfl ?_
    refine r_iload_n (pc := 17) X dX12_pours_17 rfl ?_
    obtain ⟨u3, eu3, hf⟩ := ob hf
    obtain ⟨o4, eo4, hf⟩ := ob hf
    refine r_callVI (pc := 18) X [.int p1, .int p2] dX12_pours_18 ml_X12_285 vo_X12_waters ⟨Nat.le_refl _, Nat.le_refl _⟩ eu3 (ev_X12_waters (d := d - 1) (by omega) _ _ _ _ _ eo4) hd1 rfl (Nat.le_of_ble_eq_true rfl) rfl ?_
    refine r_goto (pc := 21) X 25 dX12_pours_21 (by decide) ?_
    obtain rfl := Option.some.inj hf
    exact r_iret (pc := 25) X dX12_pours_25 hk

theorem dX12_lets_0 : decode cX12_lets 0 = .ok (.aload_n 0, 1) := by decide +kernel
theorem dX12_lets_1 : decode cX12_lets 1 = .ok (.iconst 0, 1) := by decide +kernel
theorem dX12_lets_2 : decode cX12_lets 2 = .ok (.putfield 100, 3) := by decide +kernel
theorem dX12_lets_5 : decode cX12_lets 5 = .ok (.iload_n 2, 1) := by decide +kernel
theorem dX12_lets_6 : decode cX12_lets 6 = .ok (.iconst 1, 1) := by decide +kernel
theorem dX12_lets_7 : decode cX12_lets 7 = .ok (.bipush 9, 2) := by decide +kernel
theorem dX12_lets_9 : decode cX12_lets 9 = .ok (.invokestatic 110, 3) := by decide +kernel
theorem dX12_lets_12 : decode cX12_lets 12 = .ok (.ifCond .eq 13, 3) := by decide +kernel
theorem dX12_lets_15 : decode cX12_lets 15 = .ok (.aload_n 0, 1) := by decide +kernel
theorem dX12_lets_16 : decode cX12_lets 16 = .ok (.iload_n 1, 1) := by decide +kernel
theorem dX12_lets_17 : decode cX12_lets 17 = .ok (.iload_n 2, 1) := by decide +kernel
theorem dX12_lets_18 : decode cX12_lets 18 = .ok (.ineg, 1) := by decide +kernel
theorem dX12_lets_19 : decode cX12_lets 19 = .ok (.invokevirtual 285, 3) := by decide +kernel
theorem dX12_lets_22 : decode cX12_lets 22 = .ok (.goto 4, 3) := by decide +kernel
theorem dX12_lets_25 : decode cX12_lets 25 = .ok (.iconst (-1), 1) := by decide +kernel
theorem dX12_lets_26 : decode cX12_lets 26 = .ok (.ireturn, 1) := by decide +kernel
def fn_X12_lets (h : aH) (p0 : Nat) (p1 : Int32) (p2 : Int32) : Option (Int32 × aH) :=
  (pI h p0 11 11 0).bind fun h1 =>
  (fn_X12_in h1 p2 1 9).bind fun x2 =>
  if x2 = 0 then
    some ((-1), h1)
  else
    (ck h1 p0 11).bind fun u3 =>
    (fn_X12_waters h1 p0 p1 (-p2)).bind fun o4 =>
    some (o4.1, o4.2)
set_option maxRecDepth 20000 in
set_option maxHeartbeats 4000000 in
theorem ev_X12_lets {l : Launch} {g : aG} {d : Nat} (hd : 4 ≤ d) (h : aH) (p0 : Nat) (p1 : Int32) (p2 : Int32) (o : Int32 × aH) (hf : fn_X12_lets h p0 p1 p2 = some o) : EvM l g d yX12_lets cX12_lets 3 (some .int) [.ref p0, .int p1, .int p2] h (some (.int o.1), o.2) := by
  refine EvM.of mk_X12_lets (Nat.le_of_ble_eq_true rfl) ?_
  intro Γ hl hg hq X
  have hd1 : 1 ≤ d := by omega
  have hk : RqI Γ o := hq
  unfold fn_X12_lets at hf
  show Jd Γ (0, 0) 0 [some (.ref p0), some (.int p1), some (.int p2)] [] h
  refine r_aload_n (pc := 0) X dX12_lets_0 rfl ?_
  refine r_iconst (pc := 1) X 0 dX12_lets_1 (by decide) ?_
  obtain ⟨h1, eh1, hf⟩ := ob hf
  refine r_putI (pc := 2) X dX12_lets_2 fp_X12_100 rfl eh1 ?_
  refine r_iload_n (pc := 5) X dX12_lets_5 rfl ?_
  refine r_iconst (pc := 6) X 1 dX12_lets_6 (by decide) ?_
  refine r_bipush (pc := 7) X 9 dX12_lets_7 (by decide) ?_
  obtain ⟨x2, ex2, hf⟩ := ob hf
  refine r_callSI (pc := 9) X [.int p2, .int 1, .int 9] dX12_lets_9 ml_X12_110 so_X12_in ⟨Nat.le_refl _, Nat.le_refl _⟩ (ev_X12_in (d := d - 1) (by omega) _ _ _ _ _ ex2) hd1 rfl (Nat.le_of_ble_eq_true rfl) rfl ?_
  refine r_if_eq (pc := 12) X 25 dX12_lets_12 (by decide) (fun c5 => ?_) (fun c5 => ?_)
  · rw [if_pos c5] at hf
    refine r_iconst (pc := 25) X (-1) dX12_lets_25 (by decide) ?_
    obtain rfl := Option.some.inj hf
    exact r_iret (pc := 26) X dX12_lets_26 hk
  · rw [if_neg c5] at hf
    refine r_aload_n (pc := 15) X dX12_lets_15 rfl ?_
    refine r_iload_n (pc := 16) X dX12_lets_16 rfl ?_
    refine r_iload_n (pc := 17) X dX12_lets_17 rfl ?_
    refine r_ineg (pc := 18) X dX12_lets_18 ?_
    obtain ⟨u3, eu3, hf⟩ := ob hf
    obtain ⟨o4, eo4, hf⟩ := ob hf
    refine r_callVI (pc := 19) X [.int p1, .int (-p2)] dX12_lets_19 ml_X12_285 vo_X12_waters ⟨Nat.le_refl _, Nat.le_refl _⟩ eu3 (ev_X12_waters (d := d - 1) (by omega) _ _ _ _ _ eo4) hd1 rfl (Nat.le_of_ble_eq_true rfl) rfl ?_
    refine r_goto (pc := 22) X 26 dX12_lets_22 (by decide) ?_
    obtain rfl := Option.some.inj hf
    exact r_iret (pc := 26) X dX12_lets_26 hk

theorem dX12_refusesBoat_0 : decode cX12_refusesBoat 0 = .ok (.aload_n 0, 1) := by decide +kernel
theorem dX12_refusesBoat_1 : decode cX12_refusesBoat 1 = .ok (.iload_n 2, 1) := by decide +kernel
theorem dX12_refusesBoat_2 : decode cX12_refusesBoat 2 = .ok (.invokevirtual 233, 3) := by decide +kernel
theorem dX12_refusesBoat_5 : decode cX12_refusesBoat 5 = .ok (.ifCond .ne 5, 3) := by decide +kernel
theorem dX12_refusesBoat_8 : decode cX12_refusesBoat 8 = .ok (.iconst (-1), 1) := by decide +kernel
theorem dX12_refusesBoat_9 : decode cX12_refusesBoat 9 = .ok (.ireturn, 1) := by decide +kernel
theorem dX12_refusesBoat_10 : decode cX12_refusesBoat 10 = .ok (.aload_n 1, 1) := by decide +kernel
theorem dX12_refusesBoat_11 : decode cX12_refusesBoat 11 = .ok (.aload_n 0, 1) := by decide +kernel
theorem dX12_refusesBoat_12 : decode cX12_refusesBoat 12 = .ok (.getfield 13, 3) := by decide +kernel
theorem dX12_refusesBoat_15 : decode cX12_refusesBoat 15 = .ok (.iload_n 2, 1) := by decide +kernel
theorem dX12_refusesBoat_16 : decode cX12_refusesBoat 16 = .ok (.iaload, 1) := by decide +kernel
theorem dX12_refusesBoat_17 : decode cX12_refusesBoat 17 = .ok (.iaload, 1) := by decide +kernel
theorem dX12_refusesBoat_18 : decode cX12_refusesBoat 18 = .ok (.ifCond .eq 16, 3) := by decide +kernel
theorem dX12_refusesBoat_21 : decode cX12_refusesBoat 21 = .ok (.aload_n 1, 1) := by decide +kernel
theorem dX12_refusesBoat_22 : decode cX12_refusesBoat 22 = .ok (.aload_n 0, 1) := by decide +kernel
theorem dX12_refusesBoat_23 : decode cX12_refusesBoat 23 = .ok (.getfield 16, 3) := by decide +kernel
theorem dX12_refusesBoat_26 : decode cX12_refusesBoat 26 = .ok (.iload_n 2, 1) := by decide +kernel
theorem dX12_refusesBoat_27 : decode cX12_refusesBoat 27 = .ok (.iaload, 1) := by decide +kernel
theorem dX12_refusesBoat_28 : decode cX12_refusesBoat 28 = .ok (.iaload, 1) := by decide +kernel
theorem dX12_refusesBoat_29 : decode cX12_refusesBoat 29 = .ok (.bipush 9, 2) := by decide +kernel
theorem dX12_refusesBoat_31 : decode cX12_refusesBoat 31 = .ok (.if_icmp .ne 8, 3) := by decide +kernel
theorem dX12_refusesBoat_34 : decode cX12_refusesBoat 34 = .ok (.bipush (-2), 2) := by decide +kernel
theorem dX12_refusesBoat_36 : decode cX12_refusesBoat 36 = .ok (.goto 4, 3) := by decide +kernel
theorem dX12_refusesBoat_39 : decode cX12_refusesBoat 39 = .ok (.iconst 0, 1) := by decide +kernel
theorem dX12_refusesBoat_40 : decode cX12_refusesBoat 40 = .ok (.ireturn, 1) := by decide +kernel
def fn_X12_refusesBoat (h : aH) (p0 : Nat) (p1 : Nat) (p2 : Int32) : Option (Int32) :=
  (ck h p0 11).bind fun u1 =>
  (fn_X12_isSluice h p0 p2).bind fun x2 =>
  if x2 = 0 then
    some (-1)
  else
    (gR h p0 11 4).bind fun a3 =>
    (aI h a3 14 p2).bind fun x4 =>
    (aI h p1 14 x4).bind fun x5 =>
    if x5 = 0 then
      some (-2)
    else
      (gR h p0 11 5).bind fun a6 =>
      (aI h a6 14 p2).bind fun x7 =>
      (aI h p1 14 x7).bind fun x8 =>
      if x8 = 9 then
        some (-2)
      else
        some 0
set_option maxRecDepth 20000 in
set_option maxHeartbeats 4000000 in
theorem ev_X12_refusesBoat {l : Launch} {g : aG} {d : Nat} (hd : 2 ≤ d) (h : aH) (p0 : Nat) (p1 : Nat) (p2 : Int32) (o : Int32) (hf : fn_X12_refusesBoat h p0 p1 p2 = some o) : EvM l g d yX12_refusesBoat cX12_refusesBoat 3 (some .int) [.ref p0, .ref p1, .int p2] h (some (.int o), h) := by
  refine EvM.of mk_X12_refusesBoat (Nat.le_of_ble_eq_true rfl) ?_
  intro Γ hl hg hq X
  have hd1 : 1 ≤ d := by omega
  have hk : RpI h Γ o := hq
  unfold fn_X12_refusesBoat at hf
  show Jd Γ (0, 0) 0 [some (.ref p0), some (.ref p1), some (.int p2)] [] h
  refine r_aload_n (pc := 0) X dX12_refusesBoat_0 rfl ?_
  refine r_iload_n (pc := 1) X dX12_refusesBoat_1 rfl ?_
  obtain ⟨u1, eu1, hf⟩ := ob hf
  obtain ⟨x2, ex2, hf⟩ := ob hf
  refine r_callVI (pc := 2) X [.int p2] dX12_refusesBoat_2 ml_X12_233 vo_X12_isSluice ⟨Nat.le_refl _, Nat.le_refl _⟩ eu1 (ev_X12_isSluice (d := d - 1) (by omega) _ _ _ _ ex2) hd1 rfl (Nat.le_of_ble_eq_true rfl) rfl ?_
  refine r_if_ne (pc := 5) X 10 dX12_refusesBoat_5 (by decide) (fun c11 => ?_) (fun c11 => ?_)
  · rw [if_neg c11] at hf
    refine r_aload_n (pc := 10) X dX12_refusesBoat_10 rfl ?_
    refine r_aload_n (pc := 11) X dX12_refusesBoat_11 rfl ?_
    obtain ⟨a3, ea3, hf⟩ := ob hf
    refine r_getR (pc := 12) X dX12_refusesBoat_12 fl_X12_13 rfl ea3 ?_
    refine r_iload_n (pc := 15) X dX12_refusesBoat_15 rfl ?_
    obtain ⟨x4, ex4, hf⟩ := ob hf
    refine r_iald (pc := 16) X dX12_refusesBoat_16 ex4 ?_
    obtain ⟨x5, ex5, hf⟩ := ob hf
    refine r_iald (pc := 17) X dX12_refusesBoat_17 ex5 ?_
    refine r_if_eq (pc := 18) X 34 dX12_refusesBoat_18 (by decide) (fun c10 => ?_) (fun c10 => ?_)
    · rw [if_pos c10] at hf
      refine r_bipush (pc := 34) X (-2) dX12_refusesBoat_34 (by decide) ?_
      refine r_goto (pc := 36) X 40 dX12_refusesBoat_36 (by decide) ?_
      obtain rfl := Option.some.inj hf
      exact r_iret (pc := 40) X dX12_refusesBoat_40 hk
    · rw [if_neg c10] at hf
      refine r_aload_n (pc := 21) X dX12_refusesBoat_21 rfl ?_
      refine r_aload_n (pc := 22) X dX12_refusesBoat_22 rfl ?_
      obtain ⟨a6, ea6, hf⟩ := ob hf
      refine r_getR (pc := 23) X dX12_refusesBoat_23 fl_X12_16 rfl ea6 ?_
      refine r_iload_n (pc := 26) X dX12_refusesBoat_26 rfl ?_
      obtain ⟨x7, ex7, hf⟩ := ob hf
      refine r_iald (pc := 27) X dX12_refusesBoat_27 ex7 ?_
      obtain ⟨x8, ex8, hf⟩ := ob hf
      refine r_iald (pc := 28) X dX12_refusesBoat_28 ex8 ?_
      refine r_bipush (pc := 29) X 9 dX12_refusesBoat_29 (by decide) ?_
      refine r_icmp_ne (pc := 31) X 39 dX12_refusesBoat_31 (by decide) (fun c9 => ?_) (fun c9 => ?_)
      · rw [if_neg c9] at hf
        refine r_iconst (pc := 39) X 0 dX12_refusesBoat_39 (by decide) ?_
        obtain rfl := Option.some.inj hf
        exact r_iret (pc := 40) X dX12_refusesBoat_40 hk
      · rw [if_pos c9] at hf
        refine r_bipush (pc := 34) X (-2) dX12_refusesBoat_34 (by decide) ?_
        refine r_goto (pc := 36) X 40 dX12_refusesBoat_36 (by decide) ?_
        obtain rfl := Option.some.inj hf
        exact r_iret (pc := 40) X dX12_refusesBoat_40 hk
  · rw [if_pos c11] at hf
    refine r_iconst (pc := 8) X (-1) dX12_refusesBoat_8 (by decide) ?_
    obtain rfl := Option.some.inj hf
    exact r_iret (pc := 9) X dX12_refusesBoat_9 hk

theorem dX12_goBoat_0 : decode cX12_goBoat 0 = .ok (.aload_n 1, 1) := by decide +kernel
theorem dX12_goBoat_1 : decode cX12_goBoat 1 = .ok (.aload_n 0, 1) := by decide +kernel
theorem dX12_goBoat_2 : decode cX12_goBoat 2 = .ok (.getfield 13, 3) := by decide +kernel
theorem dX12_goBoat_5 : decode cX12_goBoat 5 = .ok (.iload_n 2, 1) := by decide +kernel
theorem dX12_goBoat_6 : decode cX12_goBoat 6 = .ok (.iaload, 1) := by decide +kernel
theorem dX12_goBoat_7 : decode cX12_goBoat 7 = .ok (.dup2, 1) := by decide +kernel
theorem dX12_goBoat_8 : decode cX12_goBoat 8 = .ok (.iaload, 1) := by decide +kernel
theorem dX12_goBoat_9 : decode cX12_goBoat 9 = .ok (.iconst 1, 1) := by decide +kernel
theorem dX12_goBoat_10 : decode cX12_goBoat 10 = .ok (.isub, 1) := by decide +kernel
theorem dX12_goBoat_11 : decode cX12_goBoat 11 = .ok (.iastore, 1) := by decide +kernel
theorem dX12_goBoat_12 : decode cX12_goBoat 12 = .ok (.aload_n 1, 1) := by decide +kernel
theorem dX12_goBoat_13 : decode cX12_goBoat 13 = .ok (.aload_n 0, 1) := by decide +kernel
theorem dX12_goBoat_14 : decode cX12_goBoat 14 = .ok (.getfield 16, 3) := by decide +kernel
theorem dX12_goBoat_17 : decode cX12_goBoat 17 = .ok (.iload_n 2, 1) := by decide +kernel
theorem dX12_goBoat_18 : decode cX12_goBoat 18 = .ok (.iaload, 1) := by decide +kernel
theorem dX12_goBoat_19 : decode cX12_goBoat 19 = .ok (.dup2, 1) := by decide +kernel
theorem dX12_goBoat_20 : decode cX12_goBoat 20 = .ok (.iaload, 1) := by decide +kernel
theorem dX12_goBoat_21 : decode cX12_goBoat 21 = .ok (.iconst 1, 1) := by decide +kernel
theorem dX12_goBoat_22 : decode cX12_goBoat 22 = .ok (.iadd, 1) := by decide +kernel
theorem dX12_goBoat_23 : decode cX12_goBoat 23 = .ok (.iastore, 1) := by decide +kernel
theorem dX12_goBoat_24 : decode cX12_goBoat 24 = .ok (.return_, 1) := by decide +kernel
def fn_X12_goBoat (h : aH) (p0 : Nat) (p1 : Nat) (p2 : Int32) : Option (aH) :=
  (gR h p0 11 4).bind fun a1 =>
  (aI h a1 14 p2).bind fun x2 =>
  (aI h p1 14 x2).bind fun x3 =>
  (wI h p1 x2 (x3 - 1)).bind fun h4 =>
  (gR h4 p0 11 5).bind fun a5 =>
  (aI h4 a5 14 p2).bind fun x6 =>
  (aI h4 p1 14 x6).bind fun x7 =>
  (wI h4 p1 x6 (x7 + 1)).bind fun h8 =>
  some h8
set_option maxRecDepth 20000 in
set_option maxHeartbeats 4000000 in
theorem ev_X12_goBoat {l : Launch} {g : aG} {d : Nat} (hd : 0 ≤ d) (h : aH) (p0 : Nat) (p1 : Nat) (p2 : Int32) (o : aH) (hf : fn_X12_goBoat h p0 p1 p2 = some o) : EvM l g d yX12_goBoat cX12_goBoat 3 none [.ref p0, .ref p1, .int p2] h (none, o) := by
  refine EvM.of mk_X12_goBoat (Nat.le_of_ble_eq_true rfl) ?_
  intro Γ hl hg hq X
  have hd1 : 0 ≤ d := by omega
  have hk : RqV Γ o := hq
  unfold fn_X12_goBoat at hf
  show Jd Γ (0, 0) 0 [some (.ref p0), some (.ref p1), some (.int p2)] [] h
  refine r_aload_n (pc := 0) X dX12_goBoat_0 rfl ?_
  refine r_aload_n (pc := 1) X dX12_goBoat_1 rfl ?_
  obtain ⟨a1, ea1, hf⟩ := ob hf
  refine r_getR (pc := 2) X dX12_goBoat_2 fl_X12_13 rfl ea1 ?_
  refine r_iload_n (pc := 5) X dX12_goBoat_5 rfl ?_
  obtain ⟨x2, ex2, hf⟩ := ob hf
  refine r_iald (pc := 6) X dX12_goBoat_6 ex2 ?_
  refine r_dup2 (pc := 7) X dX12_goBoat_7 rfl rfl ?_
  obtain ⟨x3, ex3, hf⟩ := ob hf
  refine r_iald (pc := 8) X dX12_goBoat_8 ex3 ?_
  refine r_iconst (pc := 9) X 1 dX12_goBoat_9 (by decide) ?_
  refine r_isub (pc := 10) X dX12_goBoat_10 ?_
  obtain ⟨h4, eh4, hf⟩ := ob hf
  refine r_iast (pc := 11) X dX12_goBoat_11 eh4 ?_
  refine r_aload_n (pc := 12) X dX12_goBoat_12 rfl ?_
  refine r_aload_n (pc := 13) X dX12_goBoat_13 rfl ?_
  obtain ⟨a5, ea5, hf⟩ := ob hf
  refine r_getR (pc := 14) X dX12_goBoat_14 fl_X12_16 rfl ea5 ?_
  refine r_iload_n (pc := 17) X dX12_goBoat_17 rfl ?_
  obtain ⟨x6, ex6, hf⟩ := ob hf
  refine r_iald (pc := 18) X dX12_goBoat_18 ex6 ?_
  refine r_dup2 (pc := 19) X dX12_goBoat_19 rfl rfl ?_
  obtain ⟨x7, ex7, hf⟩ := ob hf
  refine r_iald (pc := 20) X dX12_goBoat_20 ex7 ?_
  refine r_iconst (pc := 21) X 1 dX12_goBoat_21 (by decide) ?_
  refine r_iadd (pc := 22) X dX12_goBoat_22 ?_
  obtain ⟨h8, eh8, hf⟩ := ob hf
  refine r_iast (pc := 23) X dX12_goBoat_23 eh8 ?_
  obtain rfl := Option.some.inj hf
  exact r_vret (pc := 24) X dX12_goBoat_24 hk

theorem dX12_boats_0 : decode cX12_boats 0 = .ok (.aload_n 0, 1) := by decide +kernel
theorem dX12_boats_1 : decode cX12_boats 1 = .ok (.iconst 0, 1) := by decide +kernel
theorem dX12_boats_2 : decode cX12_boats 2 = .ok (.putfield 100, 3) := by decide +kernel
theorem dX12_boats_5 : decode cX12_boats 5 = .ok (.aload_n 0, 1) := by decide +kernel
theorem dX12_boats_6 : decode cX12_boats 6 = .ok (.aload_n 0, 1) := by decide +kernel
theorem dX12_boats_7 : decode cX12_boats 7 = .ok (.getfield 9, 3) := by decide +kernel
theorem dX12_boats_10 : decode cX12_boats 10 = .ok (.iload_n 1, 1) := by decide +kernel
theorem dX12_boats_11 : decode cX12_boats 11 = .ok (.invokevirtual 288, 3) := by decide +kernel
theorem dX12_boats_14 : decode cX12_boats 14 = .ok (.istore_n 2, 1) := by decide +kernel
theorem dX12_boats_15 : decode cX12_boats 15 = .ok (.iload_n 2, 1) := by decide +kernel
theorem dX12_boats_16 : decode cX12_boats 16 = .ok (.ifCond .ge 5, 3) := by decide +kernel
theorem dX12_boats_19 : decode cX12_boats 19 = .ok (.iload_n 2, 1) := by decide +kernel
theorem dX12_boats_20 : decode cX12_boats 20 = .ok (.ireturn, 1) := by decide +kernel
theorem dX12_boats_21 : decode cX12_boats 21 = .ok (.aload_n 0, 1) := by decide +kernel
theorem dX12_boats_22 : decode cX12_boats 22 = .ok (.aload_n 0, 1) := by decide +kernel
theorem dX12_boats_23 : decode cX12_boats 23 = .ok (.getfield 9, 3) := by decide +kernel
theorem dX12_boats_26 : decode cX12_boats 26 = .ok (.invokevirtual 271, 3) := by decide +kernel
theorem dX12_boats_29 : decode cX12_boats 29 = .ok (.aload_n 0, 1) := by decide +kernel
theorem dX12_boats_30 : decode cX12_boats 30 = .ok (.aload_n 0, 1) := by decide +kernel
theorem dX12_boats_31 : decode cX12_boats 31 = .ok (.getfield 9, 3) := by decide +kernel
theorem dX12_boats_34 : decode cX12_boats 34 = .ok (.iload_n 1, 1) := by decide +kernel
theorem dX12_boats_35 : decode cX12_boats 35 = .ok (.invokevirtual 291, 3) := by decide +kernel
theorem dX12_boats_38 : decode cX12_boats 38 = .ok (.aload_n 0, 1) := by decide +kernel
theorem dX12_boats_39 : decode cX12_boats 39 = .ok (.getfield 9, 3) := by decide +kernel
theorem dX12_boats_42 : decode cX12_boats 42 = .ok (.aload_n 0, 1) := by decide +kernel
theorem dX12_boats_43 : decode cX12_boats 43 = .ok (.getfield 16, 3) := by decide +kernel
theorem dX12_boats_46 : decode cX12_boats 46 = .ok (.iload_n 1, 1) := by decide +kernel
theorem dX12_boats_47 : decode cX12_boats 47 = .ok (.iaload, 1) := by decide +kernel
theorem dX12_boats_48 : decode cX12_boats 48 = .ok (.iaload, 1) := by decide +kernel
theorem dX12_boats_49 : decode cX12_boats 49 = .ok (.ireturn, 1) := by decide +kernel
def fn_X12_boats (h : aH) (p0 : Nat) (p1 : Int32) : Option (Int32 × aH) :=
  (pI h p0 11 11 0).bind fun h1 =>
  (gR h1 p0 11 0).bind fun a2 =>
  (ck h1 p0 11).bind fun u3 =>
  (fn_X12_refusesBoat h1 p0 a2 p1).bind fun x4 =>
  if x4 < 0 then
    some (x4, h1)
  else
    (gR h1 p0 11 0).bind fun a5 =>
    (ck h1 p0 11).bind fun u6 =>
    (fn_X12_remember h1 p0 a5).bind fun h7 =>
    (gR h7 p0 11 0).bind fun a8 =>
    (ck h7 p0 11).bind fun u9 =>
    (fn_X12_goBoat h7 p0 a8 p1).bind fun h10 =>
    (gR h10 p0 11 0).bind fun a11 =>
    (gR h10 p0 11 5).bind fun a12 =>
    (aI h10 a12 14 p1).bind fun x13 =>
    (aI h10 a11 14 x13).bind fun x14 =>
    some (x14, h10)
set_option maxRecDepth 20000 in
set_option maxHeartbeats 4000000 in
theorem ev_X12_boats {l : Launch} {g : aG} {d : Nat} (hd : 3 ≤ d) (h : aH) (p0 : Nat) (p1 : Int32) (o : Int32 × aH) (hf : fn_X12_boats h p0 p1 = some o) : EvM l g d yX12_boats cX12_boats 3 (some .int) [.ref p0, .int p1] h (some (.int o.1), o.2) := by
  refine EvM.of mk_X12_boats (Nat.le_of_ble_eq_true rfl) ?_
  intro Γ hl hg hq X
  have hd1 : 1 ≤ d := by omega
  have hk : RqI Γ o := hq
  unfold fn_X12_boats at hf
  show Jd Γ (0, 0) 0 [some (.ref p0), some (.int p1), none] [] h
  refine r_aload_n (pc := 0) X dX12_boats_0 rfl ?_
  refine r_iconst (pc := 1) X 0 dX12_boats_1 (by decide) ?_
  obtain ⟨h1, eh1, hf⟩ := ob hf
  refine r_putI (pc := 2) X dX12_boats_2 fp_X12_100 rfl eh1 ?_
  refine r_aload_n (pc := 5) X dX12_boats_5 rfl ?_
  refine r_aload_n (pc := 6) X dX12_boats_6 rfl ?_
  obtain ⟨a2, ea2, hf⟩ := ob hf
  refine r_getR (pc := 7) X dX12_boats_7 fl_X12_9 rfl ea2 ?_
  refine r_iload_n (pc := 10) X dX12_boats_10 rfl ?_
  obtain ⟨u3, eu3, hf⟩ := ob hf
  obtain ⟨x4, ex4, hf⟩ := ob hf
  refine r_callVI (pc := 11) X [.ref a2, .int p1] dX12_boats_11 ml_X12_288 vo_X12_refusesBoat ⟨Nat.le_refl _, Nat.le_refl _⟩ eu3 (ev_X12_refusesBoat (d := d - 1) (by omega) _ _ _ _ _ ex4) hd1 rfl (Nat.le_of_ble_eq_true rfl) rfl ?_
  refine r_istore_n (pc := 14) X [some (.ref p0), some (.int p1), some (.int x4)] dX12_boats_14 (by decide) rfl ?_
  refine r_iload_n (pc := 15) X dX12_boats_15 rfl ?_
  refine r_if_ge (pc := 16) X 21 dX12_boats_16 (by decide) (fun c15 => ?_) (fun c15 => ?_)
  · rw [if_neg c15] at hf
    refine r_aload_n (pc := 21) X dX12_boats_21 rfl ?_
    refine r_aload_n (pc := 22) X dX12_boats_22 rfl ?_
    obtain ⟨a5, ea5, hf⟩ := ob hf
    refine r_getR (pc := 23) X dX12_boats_23 fl_X12_9 rfl ea5 ?_
    obtain ⟨u6, eu6, hf⟩ := ob hf
    obtain ⟨h7, eh7, hf⟩ := ob hf
    refine r_callVV (pc := 26) X [.ref a5] dX12_boats_26 ml_X12_271 vo_X12_remember ⟨Nat.le_refl _, Nat.le_refl _⟩ eu6 (ev_X12_remember (d := d - 1) (by omega) _ _ _ _ eh7) hd1 rfl (Nat.le_of_ble_eq_true rfl) rfl ?_
    refine r_aload_n (pc := 29) X dX12_boats_29 rfl ?_
    refine r_aload_n (pc := 30) X dX12_boats_30 rfl ?_
    obtain ⟨a8, ea8, hf⟩ := ob hf
    refine r_getR (pc := 31) X dX12_boats_31 fl_X12_9 rfl ea8 ?_
    refine r_iload_n (pc := 34) X dX12_boats_34 rfl ?_
    obtain ⟨u9, eu9, hf⟩ := ob hf
    obtain ⟨h10, eh10, hf⟩ := ob hf
    refine r_callVV (pc := 35) X [.ref a8, .int p1] dX12_boats_35 ml_X12_291 vo_X12_goBoat ⟨Nat.le_refl _, Nat.le_refl _⟩ eu9 (ev_X12_goBoat (d := d - 1) (by omega) _ _ _ _ _ eh10) hd1 rfl (Nat.le_of_ble_eq_true rfl) rfl ?_
    refine r_aload_n (pc := 38) X dX12_boats_38 rfl ?_
    obtain ⟨a11, ea11, hf⟩ := ob hf
    refine r_getR (pc := 39) X dX12_boats_39 fl_X12_9 rfl ea11 ?_
    refine r_aload_n (pc := 42) X dX12_boats_42 rfl ?_
    obtain ⟨a12, ea12, hf⟩ := ob hf
    refine r_getR (pc := 43) X dX12_boats_43 fl_X12_16 rfl ea12 ?_
    refine r_iload_n (pc := 46) X dX12_boats_46 rfl ?_
    obtain ⟨x13, ex13, hf⟩ := ob hf
    refine r_iald (pc := 47) X dX12_boats_47 ex13 ?_
    obtain ⟨x14, ex14, hf⟩ := ob hf
    refine r_iald (pc := 48) X dX12_boats_48 ex14 ?_
    obtain rfl := Option.some.inj hf
    exact r_iret (pc := 49) X dX12_boats_49 hk
  · rw [if_pos c15] at hf
    refine r_iload_n (pc := 19) X dX12_boats_19 rfl ?_
    obtain rfl := Option.some.inj hf
    exact r_iret (pc := 20) X dX12_boats_20 hk

theorem dX12_sticks_0 : decode cX12_sticks 0 = .ok (.aload_n 0, 1) := by decide +kernel
theorem dX12_sticks_1 : decode cX12_sticks 1 = .ok (.iconst 0, 1) := by decide +kernel
theorem dX12_sticks_2 : decode cX12_sticks 2 = .ok (.putfield 100, 3) := by decide +kernel
theorem dX12_sticks_5 : decode cX12_sticks 5 = .ok (.aload_n 0, 1) := by decide +kernel
theorem dX12_sticks_6 : decode cX12_sticks 6 = .ok (.iload_n 1, 1) := by decide +kernel
theorem dX12_sticks_7 : decode cX12_sticks 7 = .ok (.invokevirtual 233, 3) := by decide +kernel
theorem dX12_sticks_10 : decode cX12_sticks 10 = .ok (.ifCond .ne 5, 3) := by decide +kernel
theorem dX12_sticks_13 : decode cX12_sticks 13 = .ok (.iconst (-1), 1) := by decide +kernel
theorem dX12_sticks_14 : decode cX12_sticks 14 = .ok (.ireturn, 1) := by decide +kernel
theorem dX12_sticks_15 : decode cX12_sticks 15 = .ok (.aload_n 0, 1) := by decide +kernel
theorem dX12_sticks_16 : decode cX12_sticks 16 = .ok (.aload_n 0, 1) := by decide +kernel
theorem dX12_sticks_17 : decode cX12_sticks 17 = .ok (.getfield 9, 3) := by decide +kernel
theorem dX12_sticks_20 : decode cX12_sticks 20 = .ok (.invokevirtual 271, 3) := by decide +kernel
theorem dX12_sticks_23 : decode cX12_sticks 23 = .ok (.aload_n 0, 1) := by decide +kernel
theorem dX12_sticks_24 : decode cX12_sticks 24 = .ok (.getfield 9, 3) := by decide +kernel
theorem dX12_sticks_27 : decode cX12_sticks 27 = .ok (.bipush 13, 2) := by decide +kernel
theorem dX12_sticks_29 : decode cX12_sticks 29 = .ok (.dup2, 1) := by decide +kernel
theorem dX12_sticks_30 : decode cX12_sticks 30 = .ok (.iaload, 1) := by decide +kernel
theorem dX12_sticks_31 : decode cX12_sticks 31 = .ok (.iconst 1, 1) := by decide +kernel
theorem dX12_sticks_32 : decode cX12_sticks 32 = .ok (.iload_n 1, 1) := by decide +kernel
theorem dX12_sticks_33 : decode cX12_sticks 33 = .ok (.ishl, 1) := by decide +kernel
theorem dX12_sticks_34 : decode cX12_sticks 34 = .ok (.ixor, 1) := by decide +kernel
theorem dX12_sticks_35 : decode cX12_sticks 35 = .ok (.iastore, 1) := by decide +kernel
theorem dX12_sticks_36 : decode cX12_sticks 36 = .ok (.aload_n 0, 1) := by decide +kernel
theorem dX12_sticks_37 : decode cX12_sticks 37 = .ok (.getfield 9, 3) := by decide +kernel
theorem dX12_sticks_40 : decode cX12_sticks 40 = .ok (.bipush 13, 2) := by decide +kernel
theorem dX12_sticks_42 : decode cX12_sticks 42 = .ok (.iaload, 1) := by decide +kernel
theorem dX12_sticks_43 : decode cX12_sticks 43 = .ok (.ireturn, 1) := by decide +kernel
def fn_X12_sticks (h : aH) (p0 : Nat) (p1 : Int32) : Option (Int32 × aH) :=
  (pI h p0 11 11 0).bind fun h1 =>
  (ck h1 p0 11).bind fun u2 =>
  (fn_X12_isSluice h1 p0 p1).bind fun x3 =>
  if x3 = 0 then
    some ((-1), h1)
  else
    (gR h1 p0 11 0).bind fun a4 =>
    (ck h1 p0 11).bind fun u5 =>
    (fn_X12_remember h1 p0 a4).bind fun h6 =>
    (gR h6 p0 11 0).bind fun a7 =>
    (aI h6 a7 14 13).bind fun x8 =>
    (wI h6 a7 13 (x8 ^^^ (1 <<< (p1 &&& 31)))).bind fun h9 =>
    (gR h9 p0 11 0).bind fun a10 =>
    (aI h9 a10 14 13).bind fun x11 =>
    some (x11, h9)
set_option maxRecDepth 20000 in
set_option maxHeartbeats 4000000 in
theorem ev_X12_sticks {l : Launch} {g : aG} {d : Nat} (hd : 2 ≤ d) (h : aH) (p0 : Nat) (p1 : Int32) (o : Int32 × aH) (hf : fn_X12_sticks h p0 p1 = some o) : EvM l g d yX12_sticks cX12_sticks 2 (some .int) [.ref p0, .int p1] h (some (.int o.1), o.2) := by
  refine EvM.of mk_X12_sticks (Nat.le_of_ble_eq_true rfl) ?_
  intro Γ hl hg hq X
  have hd1 : 1 ≤ d := by omega
  have hk : RqI Γ o := hq
  unfold fn_X12_sticks at hf
  show Jd Γ (0, 0) 0 [some (.ref p0), some (.int p1)] [] h
  refine r_aload_n (pc := 0) X dX12_sticks_0 rfl ?_
  refine r_iconst (pc := 1) X 0 dX12_sticks_1 (by decide) ?_
  obtain ⟨h1, eh1, hf⟩ := ob hf
  refine r_putI (pc := 2) X dX12_sticks_2 fp_X12_100 rfl eh1 ?_
  refine r_aload_n (pc := 5) X dX12_sticks_5 rfl ?_
  refine r_iload_n (pc := 6) X dX12_sticks_6 rfl ?_
  obtain ⟨u2, eu2, hf⟩ := ob hf
  obtain ⟨x3, ex3, hf⟩ := ob hf
  refine r_callVI (pc := 7) X [.int p1] dX12_sticks_7 ml_X12_233 vo_X12_isSluice ⟨Nat.le_refl _, Nat.le_refl _⟩ eu2 (ev_X12_isSluice (d := d - 1) (by omega) _ _ _ _ ex3) hd1 rfl (Nat.le_of_ble_eq_true rfl) rfl ?_
  refine r_if_ne (pc := 10) X 15 dX12_sticks_10 (by decide) (fun c12 => ?_) (fun c12 => ?_)
  · rw [if_neg c12] at hf
    refine r_aload_n (pc := 15) X dX12_sticks_15 rfl ?_
    refine r_aload_n (pc := 16) X dX12_sticks_16 rfl ?_
    obtain ⟨a4, ea4, hf⟩ := ob hf
    refine r_getR (pc := 17) X dX12_sticks_17 fl_X12_9 rfl ea4 ?_
    obtain ⟨u5, eu5, hf⟩ := ob hf
    obtain ⟨h6, eh6, hf⟩ := ob hf
    refine r_callVV (pc := 20) X [.ref a4] dX12_sticks_20 ml_X12_271 vo_X12_remember ⟨Nat.le_refl _, Nat.le_refl _⟩ eu5 (ev_X12_remember (d := d - 1) (by omega) _ _ _ _ eh6) hd1 rfl (Nat.le_of_ble_eq_true rfl) rfl ?_
    refine r_aload_n (pc := 23) X dX12_sticks_23 rfl ?_
    obtain ⟨a7, ea7, hf⟩ := ob hf
    refine r_getR (pc := 24) X dX12_sticks_24 fl_X12_9 rfl ea7 ?_
    refine r_bipush (pc := 27) X 13 dX12_sticks_27 (by decide) ?_
    refine r_dup2 (pc := 29) X dX12_sticks_29 rfl rfl ?_
    obtain ⟨x8, ex8, hf⟩ := ob hf
    refine r_iald (pc := 30) X dX12_sticks_30 ex8 ?_
    refine r_iconst (pc := 31) X 1 dX12_sticks_31 (by decide) ?_
    refine r_iload_n (pc := 32) X dX12_sticks_32 rfl ?_
    refine r_ishl (pc := 33) X dX12_sticks_33 ?_
    refine r_ixor (pc := 34) X dX12_sticks_34 ?_
    obtain ⟨h9, eh9, hf⟩ := ob hf
    refine r_iast (pc := 35) X dX12_sticks_35 eh9 ?_
    refine r_aload_n (pc := 36) X dX12_sticks_36 rfl ?_
    obtain ⟨a10, ea10, hf⟩ := ob hf
    refine r_getR (pc := 37) X dX12_sticks_37 fl_X12_9 rfl ea10 ?_
    refine r_bipush (pc := 40) X 13 dX12_sticks_40 (by decide) ?_
    obtain ⟨x11, ex11, hf⟩ := ob hf
    refine r_iald (pc := 42) X dX12_sticks_42 ex11 ?_
    obtain rfl := Option.some.inj hf
    exact r_iret (pc := 43) X dX12_sticks_43 hk
  · rw [if_pos c12] at hf
    refine r_iconst (pc := 13) X (-1) dX12_sticks_13 (by decide) ?_
    obtain rfl := Option.some.inj hf
    exact r_iret (pc := 14) X dX12_sticks_14 hk

theorem dX12_refusesMark_0 : decode cX12_refusesMark 0 = .ok (.aload_n 0, 1) := by decide +kernel
theorem dX12_refusesMark_1 : decode cX12_refusesMark 1 = .ok (.iload_n 1, 1) := by decide +kernel
theorem dX12_refusesMark_2 : decode cX12_refusesMark 2 = .ok (.invokevirtual 114, 3) := by decide +kernel
theorem dX12_refusesMark_5 : decode cX12_refusesMark 5 = .ok (.ifCond .eq 13, 3) := by decide +kernel
theorem dX12_refusesMark_8 : decode cX12_refusesMark 8 = .ok (.iload_n 2, 1) := by decide +kernel
theorem dX12_refusesMark_9 : decode cX12_refusesMark 9 = .ok (.iconst 0, 1) := by decide +kernel
theorem dX12_refusesMark_10 : decode cX12_refusesMark 10 = .ok (.bipush 9, 2) := by decide +kernel
theorem dX12_refusesMark_12 : decode cX12_refusesMark 12 = .ok (.invokestatic 110, 3) := by decide +kernel
theorem dX12_refusesMark_15 : decode cX12_refusesMark 15 = .ok (.ifCond .ne 5, 3) := by decide +kernel
theorem dX12_refusesMark_18 : decode cX12_refusesMark 18 = .ok (.iconst (-1), 1) := by decide +kernel
theorem dX12_refusesMark_19 : decode cX12_refusesMark 19 = .ok (.ireturn, 1) := by decide +kernel
theorem dX12_refusesMark_20 : decode cX12_refusesMark 20 = .ok (.aload_n 0, 1) := by decide +kernel
theorem dX12_refusesMark_21 : decode cX12_refusesMark 21 = .ok (.getfield 9, 3) := by decide +kernel
theorem dX12_refusesMark_24 : decode cX12_refusesMark 24 = .ok (.bipush 6, 2) := by decide +kernel
theorem dX12_refusesMark_26 : decode cX12_refusesMark 26 = .ok (.iload_n 1, 1) := by decide +kernel
theorem dX12_refusesMark_27 : decode cX12_refusesMark 27 = .ok (.iadd, 1) := by decide +kernel
theorem dX12_refusesMark_28 : decode cX12_refusesMark 28 = .ok (.iaload, 1) := by decide +kernel
theorem dX12_refusesMark_29 : decode cX12_refusesMark 29 = .ok (.iload_n 2, 1) := by decide +kernel
theorem dX12_refusesMark_30 : decode cX12_refusesMark 30 = .ok (.if_icmp .ne 8, 3) := by decide +kernel
theorem dX12_refusesMark_33 : decode cX12_refusesMark 33 = .ok (.bipush (-2), 2) := by decide +kernel
theorem dX12_refusesMark_35 : decode cX12_refusesMark 35 = .ok (.goto 4, 3) := by decide +kernel
theorem dX12_refusesMark_38 : decode cX12_refusesMark 38 = .ok (.iconst 0, 1) := by decide +kernel
theorem dX12_refusesMark_39 : decode cX12_refusesMark 39 = .ok (.ireturn, 1) := by decide +kernel
def fn_X12_refusesMark (h : aH) (p0 : Nat) (p1 : Int32) (p2 : Int32) : Option (Int32) :=
  (ck h p0 11).bind fun u1 =>
  (fn_X12_isBasin h p0 p1).bind fun x2 =>
  if x2 = 0 then
    some (-1)
  else
    (fn_X12_in h p2 0 9).bind fun x3 =>
    if x3 = 0 then
      some (-1)
    else
      (gR h p0 11 0).bind fun a4 =>
      (aI h a4 14 (6 + p1)).bind fun x5 =>
      if x5 = p2 then
        some (-2)
      else
        some 0
set_option maxRecDepth 20000 in
set_option maxHeartbeats 4000000 in
theorem ev_X12_refusesMark {l : Launch} {g : aG} {d : Nat} (hd : 2 ≤ d) (h : aH) (p0 : Nat) (p1 : Int32) (p2 : Int32) (o : Int32) (hf : fn_X12_refusesMark h p0 p1 p2 = some o) : EvM l g d yX12_refusesMark cX12_refusesMark 3 (some .int) [.ref p0, .int p1, .int p2] h (some (.int o), h) := by
  refine EvM.of mk_X12_refusesMark (Nat.le_of_ble_eq_true rfl) ?_
  intro Γ hl hg hq X
  have hd1 : 1 ≤ d := by omega
  have hk : RpI h Γ o := hq
  unfold fn_X12_refusesMark at hf
  show Jd Γ (0, 0) 0 [some (.ref p0), some (.int p1), some (.int p2)] [] h
  refine r_aload_n (pc := 0) X dX12_refusesMark_0 rfl ?_
  refine r_iload_n (pc := 1) X dX12_refusesMark_1 rfl ?_
  obtain ⟨u1, eu1, hf⟩ := ob hf
  obtain ⟨x2, ex2, hf⟩ := ob hf
  refine r_callVI (pc := 2) X [.int p1] dX12_refusesMark_2 ml_X12_114 vo_X12_isBasin ⟨Nat.le_refl _, Nat.le_refl _⟩ eu1 (ev_X12_isBasin (d := d - 1) (by omega) _ _ _ _ ex2) hd1 rfl (Nat.le_of_ble_eq_true rfl) rfl ?_
  refine r_if_eq (pc := 5) X 18 dX12_refusesMark_5 (by decide) (fun c8 => ?_) (fun c8 => ?_)
  · rw [if_pos c8] at hf
    refine r_iconst (pc := 18) X (-1) dX12_refusesMark_18 (by decide) ?_
    obtain rfl := Option.some.inj hf
    exact r_iret (pc := 19) X dX12_refusesMark_19 hk
  · rw [if_neg c8] at hf
    refine r_iload_n (pc := 8) X dX12_refusesMark_8 rfl ?_
    refine r_iconst (pc := 9) X 0 dX12_refusesMark_9 (by decide) ?_
    refine r_bipush (pc := 10) X 9 dX12_refusesMark_10 (by decide) ?_
    obtain ⟨x3, ex3, hf⟩ := ob hf
    refine r_callSI (pc := 12) X [.int p2, .int 0, .int 9] dX12_refusesMark_12 ml_X12_110 so_X12_in ⟨Nat.le_refl _, Nat.le_refl _⟩ (ev_X12_in (d := d - 1) (by omega) _ _ _ _ _ ex3) hd1 rfl (Nat.le_of_ble_eq_true rfl) rfl ?_
    refine r_if_ne (pc := 15) X 20 dX12_refusesMark_15 (by decide) (fun c7 => ?_) (fun c7 => ?_)
    · rw [if_neg c7] at hf
      refine r_aload_n (pc := 20) X dX12_refusesMark_20 rfl ?_
      obtain ⟨a4, ea4, hf⟩ := ob hf
      refine r_getR (pc := 21) X dX12_refusesMark_21 fl_X12_9 rfl ea4 ?_
      refine r_bipush (pc := 24) X 6 dX12_refusesMark_24 (by decide) ?_
      refine r_iload_n (pc := 26) X dX12_refusesMark_26 rfl ?_
      refine r_iadd (pc := 27) X dX12_refusesMark_27 ?_
      obtain ⟨x5, ex5, hf⟩ := ob hf
      refine r_iald (pc := 28) X dX12_refusesMark_28 ex5 ?_
      refine r_iload_n (pc := 29) X dX12_refusesMark_29 rfl ?_
      refine r_icmp_ne (pc := 30) X 38 dX12_refusesMark_30 (by decide) (fun c6 => ?_) (fun c6 => ?_)
      · rw [if_neg c6] at hf
        refine r_iconst (pc := 38) X 0 dX12_refusesMark_38 (by decide) ?_
        obtain rfl := Option.some.inj hf
        exact r_iret (pc := 39) X dX12_refusesMark_39 hk
      · rw [if_pos c6] at hf
        refine r_bipush (pc := 33) X (-2) dX12_refusesMark_33 (by decide) ?_
        refine r_goto (pc := 35) X 39 dX12_refusesMark_35 (by decide) ?_
        obtain rfl := Option.some.inj hf
        exact r_iret (pc := 39) X dX12_refusesMark_39 hk
    · rw [if_pos c7] at hf
      refine r_iconst (pc := 18) X (-1) dX12_refusesMark_18 (by decide) ?_
      obtain rfl := Option.some.inj hf
      exact r_iret (pc := 19) X dX12_refusesMark_19 hk

theorem dX12_marks_0 : decode cX12_marks 0 = .ok (.aload_n 0, 1) := by decide +kernel
theorem dX12_marks_1 : decode cX12_marks 1 = .ok (.iconst 0, 1) := by decide +kernel
theorem dX12_marks_2 : decode cX12_marks 2 = .ok (.putfield 100, 3) := by decide +kernel
theorem dX12_marks_5 : decode cX12_marks 5 = .ok (.aload_n 0, 1) := by decide +kernel
theorem dX12_marks_6 : decode cX12_marks 6 = .ok (.iload_n 1, 1) := by decide +kernel
theorem dX12_marks_7 : decode cX12_marks 7 = .ok (.iload_n 2, 1) := by decide +kernel
theorem dX12_marks_8 : decode cX12_marks 8 = .ok (.invokevirtual 294, 3) := by decide +kernel
theorem dX12_marks_11 : decode cX12_marks 11 = .ok (.istore_n 3, 1) := by decide +kernel
theorem dX12_marks_12 : decode cX12_marks 12 = .ok (.iload_n 3, 1) := by decide +kernel
theorem dX12_marks_13 : decode cX12_marks 13 = .ok (.ifCond .ge 5, 3) := by decide +kernel
theorem dX12_marks_16 : decode cX12_marks 16 = .ok (.iload_n 3, 1) := by decide +kernel
theorem dX12_marks_17 : decode cX12_marks 17 = .ok (.ireturn, 1) := by decide +kernel
theorem dX12_marks_18 : decode cX12_marks 18 = .ok (.aload_n 0, 1) := by decide +kernel
theorem dX12_marks_19 : decode cX12_marks 19 = .ok (.aload_n 0, 1) := by decide +kernel
theorem dX12_marks_20 : decode cX12_marks 20 = .ok (.getfield 9, 3) := by decide +kernel
theorem dX12_marks_23 : decode cX12_marks 23 = .ok (.invokevirtual 271, 3) := by decide +kernel
theorem dX12_marks_26 : decode cX12_marks 26 = .ok (.aload_n 0, 1) := by decide +kernel
theorem dX12_marks_27 : decode cX12_marks 27 = .ok (.getfield 9, 3) := by decide +kernel
theorem dX12_marks_30 : decode cX12_marks 30 = .ok (.bipush 6, 2) := by decide +kernel
theorem dX12_marks_32 : decode cX12_marks 32 = .ok (.iload_n 1, 1) := by decide +kernel
theorem dX12_marks_33 : decode cX12_marks 33 = .ok (.iadd, 1) := by decide +kernel
theorem dX12_marks_34 : decode cX12_marks 34 = .ok (.iaload, 1) := by decide +kernel
theorem dX12_marks_35 : decode cX12_marks 35 = .ok (.istore 4, 2) := by decide +kernel
theorem dX12_marks_37 : decode cX12_marks 37 = .ok (.aload_n 0, 1) := by decide +kernel
theorem dX12_marks_38 : decode cX12_marks 38 = .ok (.getfield 9, 3) := by decide +kernel
theorem dX12_marks_41 : decode cX12_marks 41 = .ok (.bipush 6, 2) := by decide +kernel
theorem dX12_marks_43 : decode cX12_marks 43 = .ok (.iload_n 1, 1) := by decide +kernel
theorem dX12_marks_44 : decode cX12_marks 44 = .ok (.iadd, 1) := by decide +kernel
theorem dX12_marks_45 : decode cX12_marks 45 = .ok (.iload_n 2, 1) := by decide +kernel
theorem dX12_marks_46 : decode cX12_marks 46 = .ok (.iastore, 1) := by decide +kernel
theorem dX12_marks_47 : decode cX12_marks 47 = .ok (.bipush 10, 2) := by decide +kernel
theorem dX12_marks_49 : decode cX12_marks 49 = .ok (.iload 4, 2) := by decide +kernel
theorem dX12_marks_51 : decode cX12_marks 51 = .ok (.iadd, 1) := by decide +kernel
theorem dX12_marks_52 : decode cX12_marks 52 = .ok (.ireturn, 1) := by decide +kernel
def fn_X12_marks (h : aH) (p0 : Nat) (p1 : Int32) (p2 : Int32) : Option (Int32 × aH) :=
  (pI h p0 11 11 0).bind fun h1 =>
  (ck h1 p0 11).bind fun u2 =>
  (fn_X12_refusesMark h1 p0 p1 p2).bind fun x3 =>
  if x3 < 0 then
    some (x3, h1)
  else
    (gR h1 p0 11 0).bind fun a4 =>
    (ck h1 p0 11).bind fun u5 =>
    (fn_X12_remember h1 p0 a4).bind fun h6 =>
    (gR h6 p0 11 0).bind fun a7 =>
    (aI h6 a7 14 (6 + p1)).bind fun x8 =>
    (gR h6 p0 11 0).bind fun a9 =>
    (wI h6 a9 (6 + p1) p2).bind fun h10 =>
    some ((10 + x8), h10)
set_option maxRecDepth 20000 in
set_option maxHeartbeats 4000000 in
theorem ev_X12_marks {l : Launch} {g : aG} {d : Nat} (hd : 3 ≤ d) (h : aH) (p0 : Nat) (p1 : Int32) (p2 : Int32) (o : Int32 × aH) (hf : fn_X12_marks h p0 p1 p2 = some o) : EvM l g d yX12_marks cX12_marks 5 (some .int) [.ref p0, .int p1, .int p2] h (some (.int o.1), o.2) := by
  refine EvM.of mk_X12_marks (Nat.le_of_ble_eq_true rfl) ?_
  intro Γ hl hg hq X
  have hd1 : 1 ≤ d := by omega
  have hk : RqI Γ o := hq
  unfold fn_X12_marks at hf
  show Jd Γ (0, 0) 0 [some (.ref p0), some (.int p1), some (.int p2), none, none] [] h
  refine r_aload_n (pc := 0) X dX12_marks_0 rfl ?_
  refine r_iconst (pc := 1) X 0 dX12_marks_1 (by decide) ?_
  obtain ⟨h1, eh1, hf⟩ := ob hf
  refine r_putI (pc := 2) X dX12_marks_2 fp_X12_100 rfl eh1 ?_
  refine r_aload_n (pc := 5) X dX12_marks_5 rfl ?_
  refine r_iload_n (pc := 6) X dX12_marks_6 rfl ?_
  refine r_iload_n (pc := 7) X dX12_marks_7 rfl ?_
  obtain ⟨u2, eu2, hf⟩ := ob hf
  obtain ⟨x3, ex3, hf⟩ := ob hf
  refine r_callVI (pc := 8) X [.int p1, .int p2] dX12_marks_8 ml_X12_294 vo_X12_refusesMark ⟨Nat.le_refl _, Nat.le_refl _⟩ eu2 (ev_X12_refusesMark (d := d - 1) (by omega) _ _ _ _ _ ex3) hd1 rfl (Nat.le_of_ble_eq_true rfl) rfl ?_
  refine r_istore_n (pc := 11) X [some (.ref p0), some (.int p1), some (.int p2), some (.int x3), none] dX12_marks_11 (by decide) rfl ?_
  refine r_iload_n (pc := 12) X dX12_marks_12 rfl ?_
  refine r_if_ge (pc := 13) X 18 dX12_marks_13 (by decide) (fun c11 => ?_) (fun c11 => ?_)
  · rw [if_neg c11] at hf
    refine r_aload_n (pc := 18) X dX12_marks_18 rfl ?_
    refine r_aload_n (pc := 19) X dX12_marks_19 rfl ?_
    obtain ⟨a4, ea4, hf⟩ := ob hf
    refine r_getR (pc := 20) X dX12_marks_20 fl_X12_9 rfl ea4 ?_
    obtain ⟨u5, eu5, hf⟩ := ob hf
    obtain ⟨h6, eh6, hf⟩ := ob hf
    refine r_callVV (pc := 23) X [.ref a4] dX12_marks_23 ml_X12_271 vo_X12_remember ⟨Nat.le_refl _, Nat.le_refl _⟩ eu5 (ev_X12_remember (d := d - 1) (by omega) _ _ _ _ eh6) hd1 rfl (Nat.le_of_ble_eq_true rfl) rfl ?_
    refine r_aload_n (pc := 26) X dX12_marks_26 rfl ?_
    obtain ⟨a7, ea7, hf⟩ := ob hf
    refine r_getR (pc := 27) X dX12_marks_27 fl_X12_9 rfl ea7 ?_
    refine r_bipush (pc := 30) X 6 dX12_marks_30 (by decide) ?_
    refine r_iload_n (pc := 32) X dX12_marks_32 rfl ?_
    refine r_iadd (pc := 33) X dX12_marks_33 ?_
    obtain ⟨x8, ex8, hf⟩ := ob hf
    refine r_iald (pc := 34) X dX12_marks_34 ex8 ?_
    refine r_istore (pc := 35) X [some (.ref p0), some (.int p1), some (.int p2), some (.int x3), some (.int x8)] dX12_marks_35 (by decide) rfl ?_
    refine r_aload_n (pc := 37) X dX12_marks_37 rfl ?_
    obtain ⟨a9, ea9, hf⟩ := ob hf
    refine r_getR (pc := 38) X dX12_marks_38 fl_X12_9 rfl ea9 ?_
    refine r_bipush (pc := 41) X 6 dX12_marks_41 (by decide) ?_
    refine r_iload_n (pc := 43) X dX12_marks_43 rfl ?_
    refine r_iadd (pc := 44) X dX12_marks_44 ?_
    refine r_iload_n (pc := 45) X dX12_marks_45 rfl ?_
    obtain ⟨h10, eh10, hf⟩ := ob hf
    refine r_iast (pc := 46) X dX12_marks_46 eh10 ?_
    refine r_bipush (pc := 47) X 10 dX12_marks_47 (by decide) ?_
    refine r_iload (pc := 49) X dX12_marks_49 rfl ?_
    refine r_iadd (pc := 51) X dX12_marks_51 ?_
    obtain rfl := Option.some.inj hf
    exact r_iret (pc := 52) X dX12_marks_52 hk
  · rw [if_pos c11] at hf
    refine r_iload_n (pc := 16) X dX12_marks_16 rfl ?_
    obtain rfl := Option.some.inj hf
    exact r_iret (pc := 17) X dX12_marks_17 hk

theorem dX12_readAct_0 : decode cX12_readAct 0 = .ok (.aload_n 0, 1) := by decide +kernel
theorem dX12_readAct_1 : decode cX12_readAct 1 = .ok (.invokevirtual 147, 3) := by decide +kernel
theorem dX12_readAct_4 : decode cX12_readAct 4 = .ok (.istore_n 2, 1) := by decide +kernel
theorem dX12_readAct_5 : decode cX12_readAct 5 = .ok (.iload_n 2, 1) := by decide +kernel
theorem dX12_readAct_6 : decode cX12_readAct 6 = .ok (.bipush 110, 2) := by decide +kernel
theorem dX12_readAct_8 : decode cX12_readAct 8 = .ok (.if_icmp .eq 42, 3) := by decide +kernel
theorem dX12_readAct_11 : decode cX12_readAct 11 = .ok (.iload_n 2, 1) := by decide +kernel
theorem dX12_readAct_12 : decode cX12_readAct 12 = .ok (.bipush 112, 2) := by decide +kernel
theorem dX12_readAct_14 : decode cX12_readAct 14 = .ok (.if_icmp .eq 36, 3) := by decide +kernel
theorem dX12_readAct_17 : decode cX12_readAct 17 = .ok (.iload_n 2, 1) := by decide +kernel
theorem dX12_readAct_18 : decode cX12_readAct 18 = .ok (.bipush 108, 2) := by decide +kernel
theorem dX12_readAct_20 : decode cX12_readAct 20 = .ok (.if_icmp .eq 30, 3) := by decide +kernel
theorem dX12_readAct_23 : decode cX12_readAct 23 = .ok (.iload_n 2, 1) := by decide +kernel
theorem dX12_readAct_24 : decode cX12_readAct 24 = .ok (.bipush 98, 2) := by decide +kernel
theorem dX12_readAct_26 : decode cX12_readAct 26 = .ok (.if_icmp .eq 24, 3) := by decide +kernel
theorem dX12_readAct_29 : decode cX12_readAct 29 = .ok (.iload_n 2, 1) := by decide +kernel
theorem dX12_readAct_30 : decode cX12_readAct 30 = .ok (.bipush 107, 2) := by decide +kernel
theorem dX12_readAct_32 : decode cX12_readAct 32 = .ok (.if_icmp .eq 18, 3) := by decide +kernel
theorem dX12_readAct_35 : decode cX12_readAct 35 = .ok (.iload_n 2, 1) := by decide +kernel
theorem dX12_readAct_36 : decode cX12_readAct 36 = .ok (.bipush 109, 2) := by decide +kernel
theorem dX12_readAct_38 : decode cX12_readAct 38 = .ok (.if_icmp .eq 12, 3) := by decide +kernel
theorem dX12_readAct_41 : decode cX12_readAct 41 = .ok (.aload_n 0, 1) := by decide +kernel
theorem dX12_readAct_42 : decode cX12_readAct 42 = .ok (.aload_n 0, 1) := by decide +kernel
theorem dX12_readAct_43 : decode cX12_readAct 43 = .ok (.getfield 133, 3) := by decide +kernel
theorem dX12_readAct_46 : decode cX12_readAct 46 = .ok (.invokevirtual 155, 3) := by decide +kernel
theorem dX12_readAct_49 : decode cX12_readAct 49 = .ok (.return_, 1) := by decide +kernel
theorem dX12_readAct_50 : decode cX12_readAct 50 = .ok (.aload_n 0, 1) := by decide +kernel
theorem dX12_readAct_51 : decode cX12_readAct 51 = .ok (.dup, 1) := by decide +kernel
theorem dX12_readAct_52 : decode cX12_readAct 52 = .ok (.getfield 133, 3) := by decide +kernel
theorem dX12_readAct_55 : decode cX12_readAct 55 = .ok (.iconst 1, 1) := by decide +kernel
theorem dX12_readAct_56 : decode cX12_readAct 56 = .ok (.iadd, 1) := by decide +kernel
theorem dX12_readAct_57 : decode cX12_readAct 57 = .ok (.putfield 133, 3) := by decide +kernel
theorem dX12_readAct_60 : decode cX12_readAct 60 = .ok (.aload_n 0, 1) := by decide +kernel
theorem dX12_readAct_61 : decode cX12_readAct 61 = .ok (.getfield 54, 3) := by decide +kernel
theorem dX12_readAct_64 : decode cX12_readAct 64 = .ok (.iload_n 1, 1) := by decide +kernel
theorem dX12_readAct_65 : decode cX12_readAct 65 = .ok (.iload_n 2, 1) := by decide +kernel
theorem dX12_readAct_66 : decode cX12_readAct 66 = .ok (.iastore, 1) := by decide +kernel
theorem dX12_readAct_67 : decode cX12_readAct 67 = .ok (.aload_n 0, 1) := by decide +kernel
theorem dX12_readAct_68 : decode cX12_readAct 68 = .ok (.getfield 54, 3) := by decide +kernel
theorem dX12_readAct_71 : decode cX12_readAct 71 = .ok (.iload_n 1, 1) := by decide +kernel
theorem dX12_readAct_72 : decode cX12_readAct 72 = .ok (.iconst 1, 1) := by decide +kernel
theorem dX12_readAct_73 : decode cX12_readAct 73 = .ok (.iadd, 1) := by decide +kernel
theorem dX12_readAct_74 : decode cX12_readAct 74 = .ok (.aload_n 0, 1) := by decide +kernel
theorem dX12_readAct_75 : decode cX12_readAct 75 = .ok (.bipush 48, 2) := by decide +kernel
theorem dX12_readAct_77 : decode cX12_readAct 77 = .ok (.bipush 10, 2) := by decide +kernel
theorem dX12_readAct_79 : decode cX12_readAct 79 = .ok (.invokevirtual 159, 3) := by decide +kernel
theorem dX12_readAct_82 : decode cX12_readAct 82 = .ok (.iastore, 1) := by decide +kernel
theorem dX12_readAct_83 : decode cX12_readAct 83 = .ok (.iload_n 2, 1) := by decide +kernel
theorem dX12_readAct_84 : decode cX12_readAct 84 = .ok (.bipush 112, 2) := by decide +kernel
theorem dX12_readAct_86 : decode cX12_readAct 86 = .ok (.if_icmp .eq 9, 3) := by decide +kernel
theorem dX12_readAct_89 : decode cX12_readAct 89 = .ok (.iload_n 2, 1) := by decide +kernel
theorem dX12_readAct_90 : decode cX12_readAct 90 = .ok (.bipush 108, 2) := by decide +kernel
theorem dX12_readAct_92 : decode cX12_readAct 92 = .ok (.if_icmp .ne 21, 3) := by decide +kernel
theorem dX12_readAct_95 : decode cX12_readAct 95 = .ok (.aload_n 0, 1) := by decide +kernel
theorem dX12_readAct_96 : decode cX12_readAct 96 = .ok (.getfield 54, 3) := by decide +kernel
theorem dX12_readAct_99 : decode cX12_readAct 99 = .ok (.iload_n 1, 1) := by decide +kernel
theorem dX12_readAct_100 : decode cX12_readAct 100 = .ok (.iconst 2, 1) := by decide +kernel
theorem dX12_readAct_101 : decode cX12_readAct 101 = .ok (.iadd, 1) := by decide +kernel
theorem dX12_readAct_102 : decode cX12_readAct 102 = .ok (.aload_n 0, 1) := by decide +kernel
theorem dX12_readAct_103 : decode cX12_readAct 103 = .ok (.bipush 49, 2) := by decide +kernel
theorem dX12_readAct_105 : decode cX12_readAct 105 = .ok (.bipush 9, 2) := by decide +kernel
theorem dX12_readAct_107 : decode cX12_readAct 107 = .ok (.invokevirtual 159, 3) := by decide +kernel
theorem dX12_readAct_110 : decode cX12_readAct 110 = .ok (.iconst 1, 1) := by decide +kernel
theorem dX12_readAct_111 : decode cX12_readAct 111 = .ok (.iadd, 1) := by decide +kernel
theorem dX12_readAct_112 : decode cX12_readAct 112 = .ok (.iastore, 1) := by decide +kernel
theorem dX12_readAct_113 : decode cX12_readAct 113 = .ok (.iload_n 2, 1) := by decide +kernel
theorem dX12_readAct_114 : decode cX12_readAct 114 = .ok (.bipush 109, 2) := by decide +kernel
theorem dX12_readAct_116 : decode cX12_readAct 116 = .ok (.if_icmp .ne 19, 3) := by decide +kernel
theorem dX12_readAct_119 : decode cX12_readAct 119 = .ok (.aload_n 0, 1) := by decide +kernel
theorem dX12_readAct_120 : decode cX12_readAct 120 = .ok (.getfield 54, 3) := by decide +kernel
theorem dX12_readAct_123 : decode cX12_readAct 123 = .ok (.iload_n 1, 1) := by decide +kernel
theorem dX12_readAct_124 : decode cX12_readAct 124 = .ok (.iconst 2, 1) := by decide +kernel
theorem dX12_readAct_125 : decode cX12_readAct 125 = .ok (.iadd, 1) := by decide +kernel
theorem dX12_readAct_126 : decode cX12_readAct 126 = .ok (.aload_n 0, 1) := by decide +kernel
theorem dX12_readAct_127 : decode cX12_readAct 127 = .ok (.bipush 48, 2) := by decide +kernel
theorem dX12_readAct_129 : decode cX12_readAct 129 = .ok (.bipush 10, 2) := by decide +kernel
theorem dX12_readAct_131 : decode cX12_readAct 131 = .ok (.invokevirtual 159, 3) := by decide +kernel
theorem dX12_readAct_134 : decode cX12_readAct 134 = .ok (.iastore, 1) := by decide +kernel
theorem dX12_readAct_135 : decode cX12_readAct 135 = .ok (.return_, 1) := by decide +kernel
def fn_X12_readAct (h : aH) (p0 : Nat) (p1 : Int32) : Option (aH) :=
  (ck h p0 11).bind fun u1 =>
  (fn_X12_here h p0).bind fun x2 =>
  if x2 = 110 then
    (gI h p0 11 15).bind fun x3 =>
    (pI h p0 11 15 (x3 + 1)).bind fun h4 =>
    (gR h4 p0 11 30).bind fun a5 =>
    (wI h4 a5 p1 x2).bind fun h6 =>
    (gR h6 p0 11 30).bind fun a7 =>
    (ck h6 p0 11).bind fun u8 =>
    (fn_X12_oneOf h6 p0 48 10).bind fun o9 =>
    (wI o9.2 a7 (p1 + 1) o9.1).bind fun h10 =>
    ((
      if x2 = 112 then
        (gR h10 p0 11 30).bind fun a17 =>
        (ck h10 p0 11).bind fun u18 =>
        (fn_X12_oneOf h10 p0 49 9).bind fun o19 =>
        (wI o19.2 a17 (p1 + 2) (o19.1 + 1)).bind fun h20 =>
        some h20
      else
        if x2 = 108 then
          (gR h10 p0 11 30).bind fun a21 =>
          (ck h10 p0 11).bind fun u22 =>
          (fn_X12_oneOf h10 p0 49 9).bind fun o23 =>
          (wI o23.2 a21 (p1 + 2) (o23.1 + 1)).bind fun h24 =>
          some h24
        else
          some h10
    ) : Option (aH)).bind fun t11 =>
    if x2 = 109 then
      (gR t11 p0 11 30).bind fun a12 =>
      (ck t11 p0 11).bind fun u13 =>
      (fn_X12_oneOf t11 p0 48 10).bind fun o14 =>
      (wI o14.2 a12 (p1 + 2) o14.1).bind fun h15 =>
      some h15
    else
      some t11
  else
    if x2 = 112 then
      (gI h p0 11 15).bind fun x27 =>
      (pI h p0 11 15 (x27 + 1)).bind fun h28 =>
      (gR h28 p0 11 30).bind fun a29 =>
      (wI h28 a29 p1 x2).bind fun h30 =>
      (gR h30 p0 11 30).bind fun a31 =>
      (ck h30 p0 11).bind fun u32 =>
      (fn_X12_oneOf h30 p0 48 10).bind fun o33 =>
      (wI o33.2 a31 (p1 + 1) o33.1).bind fun h34 =>
      ((
        if x2 = 112 then
          (gR h34 p0 11 30).bind fun a41 =>
          (ck h34 p0 11).bind fun u42 =>
          (fn_X12_oneOf h34 p0 49 9).bind fun o43 =>
          (wI o43.2 a41 (p1 + 2) (o43.1 + 1)).bind fun h44 =>
          some h44
        else
          if x2 = 108 then
            (gR h34 p0 11 30).bind fun a45 =>
            (ck h34 p0 11).bind fun u46 =>
            (fn_X12_oneOf h34 p0 49 9).bind fun o47 =>
            (wI o47.2 a45 (p1 + 2) (o47.1 + 1)).bind fun h48 =>
            some h48
          else
            some h34
      ) : Option (aH)).bind fun t35 =>
      if x2 = 109 then
        (gR t35 p0 11 30).bind fun a36 =>
        (ck t35 p0 11).bind fun u37 =>
        (fn_X12_oneOf t35 p0 48 10).bind fun o38 =>
        (wI o38.2 a36 (p1 + 2) o38.1).bind fun h39 =>
        some h39
      else
        some t35
    else
      if x2 = 108 then
        (gI h p0 11 15).bind fun x51 =>
        (pI h p0 11 15 (x51 + 1)).bind fun h52 =>
        (gR h52 p0 11 30).bind fun a53 =>
        (wI h52 a53 p1 x2).bind fun h54 =>
        (gR h54 p0 11 30).bind fun a55 =>
        (ck h54 p0 11).bind fun u56 =>
        (fn_X12_oneOf h54 p0 48 10).bind fun o57 =>
        (wI o57.2 a55 (p1 + 1) o57.1).bind fun h58 =>
        ((
          if x2 = 112 then
            (gR h58 p0 11 30).bind fun a65 =>
            (ck h58 p0 11).bind fun u66 =>
            (fn_X12_oneOf h58 p0 49 9).bind fun o67 =>
            (wI o67.2 a65 (p1 + 2) (o67.1 + 1)).bind fun h68 =>
            some h68
          else
            if x2 = 108 then
              (gR h58 p0 11 30).bind fun a69 =>
              (ck h58 p0 11).bind fun u70 =>
              (fn_X12_oneOf h58 p0 49 9).bind fun o71 =>
              (wI o71.2 a69 (p1 + 2) (o71.1 + 1)).bind fun h72 =>
              some h72
            else
              some h58
        ) : Option (aH)).bind fun t59 =>
        if x2 = 109 then
          (gR t59 p0 11 30).bind fun a60 =>
          (ck t59 p0 11).bind fun u61 =>
          (fn_X12_oneOf t59 p0 48 10).bind fun o62 =>
          (wI o62.2 a60 (p1 + 2) o62.1).bind fun h63 =>
          some h63
        else
          some t59
      else
        if x2 = 98 then
          (gI h p0 11 15).bind fun x75 =>
          (pI h p0 11 15 (x75 + 1)).bind fun h76 =>
          (gR h76 p0 11 30).bind fun a77 =>
          (wI h76 a77 p1 x2).bind fun h78 =>
          (gR h78 p0 11 30).bind fun a79 =>
          (ck h78 p0 11).bind fun u80 =>
          (fn_X12_oneOf h78 p0 48 10).bind fun o81 =>
          (wI o81.2 a79 (p1 + 1) o81.1).bind fun h82 =>
          ((
            if x2 = 112 then
              (gR h82 p0 11 30).bind fun a89 =>
              (ck h82 p0 11).bind fun u90 =>
              (fn_X12_oneOf h82 p0 49 9).bind fun o91 =>
              (wI o91.2 a89 (p1 + 2) (o91.1 + 1)).bind fun h92 =>
              some h92
            else
              if x2 = 108 then
                (gR h82 p0 11 30).bind fun a93 =>
                (ck h82 p0 11).bind fun u94 =>
                (fn_X12_oneOf h82 p0 49 9).bind fun o95 =>
                (wI o95.2 a93 (p1 + 2) (o95.1 + 1)).bind fun h96 =>
                some h96
              else
                some h82
          ) : Option (aH)).bind fun t83 =>
          if x2 = 109 then
            (gR t83 p0 11 30).bind fun a84 =>
            (ck t83 p0 11).bind fun u85 =>
            (fn_X12_oneOf t83 p0 48 10).bind fun o86 =>
            (wI o86.2 a84 (p1 + 2) o86.1).bind fun h87 =>
            some h87
          else
            some t83
        else
          if x2 = 107 then
            (gI h p0 11 15).bind fun x99 =>
            (pI h p0 11 15 (x99 + 1)).bind fun h100 =>
            (gR h100 p0 11 30).bind fun a101 =>
            (wI h100 a101 p1 x2).bind fun h102 =>
            (gR h102 p0 11 30).bind fun a103 =>
            (ck h102 p0 11).bind fun u104 =>
            (fn_X12_oneOf h102 p0 48 10).bind fun o105 =>
            (wI o105.2 a103 (p1 + 1) o105.1).bind fun h106 =>
            ((
              if x2 = 112 then
                (gR h106 p0 11 30).bind fun a113 =>
                (ck h106 p0 11).bind fun u114 =>
                (fn_X12_oneOf h106 p0 49 9).bind fun o115 =>
                (wI o115.2 a113 (p1 + 2) (o115.1 + 1)).bind fun h116 =>
                some h116
              else
                if x2 = 108 then
                  (gR h106 p0 11 30).bind fun a117 =>
                  (ck h106 p0 11).bind fun u118 =>
                  (fn_X12_oneOf h106 p0 49 9).bind fun o119 =>
                  (wI o119.2 a117 (p1 + 2) (o119.1 + 1)).bind fun h120 =>
                  some h120
                else
                  some h106
            ) : Option (aH)).bind fun t107 =>
            if x2 = 109 then
              (gR t107 p0 11 30).bind fun a108 =>
              (ck t107 p0 11).bind fun u109 =>
              (fn_X12_oneOf t107 p0 48 10).bind fun o110 =>
              (wI o110.2 a108 (p1 + 2) o110.1).bind fun h111 =>
              some h111
            else
              some t107
          else
            if x2 = 109 then
              (gI h p0 11 15).bind fun x123 =>
              (pI h p0 11 15 (x123 + 1)).bind fun h124 =>
              (gR h124 p0 11 30).bind fun a125 =>
              (wI h124 a125 p1 x2).bind fun h126 =>
              (gR h126 p0 11 30).bind fun a127 =>
              (ck h126 p0 11).bind fun u128 =>
              (fn_X12_oneOf h126 p0 48 10).bind fun o129 =>
              (wI o129.2 a127 (p1 + 1) o129.1).bind fun h130 =>
              ((
                if x2 = 112 then
                  (gR h130 p0 11 30).bind fun a137 =>
                  (ck h130 p0 11).bind fun u138 =>
                  (fn_X12_oneOf h130 p0 49 9).bind fun o139 =>
                  (wI o139.2 a137 (p1 + 2) (o139.1 + 1)).bind fun h140 =>
                  some h140
                else
                  if x2 = 108 then
                    (gR h130 p0 11 30).bind fun a141 =>
                    (ck h130 p0 11).bind fun u142 =>
                    (fn_X12_oneOf h130 p0 49 9).bind fun o143 =>
                    (wI o143.2 a141 (p1 + 2) (o143.1 + 1)).bind fun h144 =>
                    some h144
                  else
                    some h130
              ) : Option (aH)).bind fun t131 =>
              if x2 = 109 then
                (gR t131 p0 11 30).bind fun a132 =>
                (ck t131 p0 11).bind fun u133 =>
                (fn_X12_oneOf t131 p0 48 10).bind fun o134 =>
                (wI o134.2 a132 (p1 + 2) o134.1).bind fun h135 =>
                some h135
              else
                some t131
            else
              (gI h p0 11 15).bind fun x147 =>
              (ck h p0 11).bind fun u148 =>
              (fn_X12_fault h p0 x147).bind fun h149 =>
              some h149
set_option maxRecDepth 20000 in
set_option maxHeartbeats 4000000 in
theorem ev_X12_readAct {l : Launch} {g : aG} {d : Nat} (hd : 3 ≤ d) (h : aH) (p0 : Nat) (p1 : Int32) (o : aH) (hf : fn_X12_readAct h p0 p1 = some o) : EvM l g d yX12_readAct cX12_readAct 3 none [.ref p0, .int p1] h (none, o) := by
  refine EvM.of mk_X12_readAct (Nat.le_of_ble_eq_true rfl) ?_
  intro Γ hl hg hq X
  have hd1 : 1 ≤ d := by omega
  have hk : RqV Γ o := hq
  unfold fn_X12_readAct at hf
  show Jd Γ (0, 0) 0 [some (.ref p0), some (.int p1), none] [] h
  refine r_aload_n (pc := 0) X dX12_readAct_0 rfl ?_
  obtain ⟨u1, eu1, hf⟩ := ob hf
  obtain ⟨x2, ex2, hf⟩ := ob hf
  refine r_callVI (pc := 1) X [] dX12_readAct_1 ml_X12_147 vo_X12_here ⟨Nat.le_refl _, Nat.le_refl _⟩ eu1 (ev_X12_here (d := d - 1) (by omega) _ _ _ ex2) hd1 rfl (Nat.le_of_ble_eq_true rfl) rfl ?_
  refine r_istore_n (pc := 4) X [some (.ref p0), some (.int p1), some (.int x2)] dX12_readAct_4 (by decide) rfl ?_
  refine r_iload_n (pc := 5) X dX12_readAct_5 rfl ?_
  refine r_bipush (pc := 6) X 110 dX12_readAct_6 (by decide) ?_
  refine r_icmp_eq (pc := 8) X 50 dX12_readAct_8 (by decide) (fun c155 => ?_) (fun c155 => ?_)
  · rw [if_pos c155] at hf
    refine r_aload_n (pc := 50) X dX12_readAct_50 rfl ?_
    refine r_dup (pc := 51) X dX12_readAct_51 rfl ?_
    obtain ⟨x3, ex3, hf⟩ := ob hf
    refine r_getI (pc := 52) X dX12_readAct_52 fl_X12_133 rfl ex3 ?_
    refine r_iconst (pc := 55) X 1 dX12_readAct_55 (by decide) ?_
    refine r_iadd (pc := 56) X dX12_readAct_56 ?_
    obtain ⟨h4, eh4, hf⟩ := ob hf
    refine r_putI (pc := 57) X dX12_readAct_57 fp_X12_133 rfl eh4 ?_
    refine r_aload_n (pc := 60) X dX12_readAct_60 rfl ?_
    obtain ⟨a5, ea5, hf⟩ := ob hf
    refine r_getR (pc := 61) X dX12_readAct_61 fl_X12_54 rfl ea5 ?_
    refine r_iload_n (pc := 64) X dX12_readAct_64 rfl ?_
    refine r_iload_n (pc := 65) X dX12_readAct_65 rfl ?_
    obtain ⟨h6, eh6, hf⟩ := ob hf
    refine r_iast (pc := 66) X dX12_readAct_66 eh6 ?_
    refine r_aload_n (pc := 67) X dX12_readAct_67 rfl ?_
    obtain ⟨a7, ea7, hf⟩ := ob hf
    refine r_getR (pc := 68) X dX12_readAct_68 fl_X12_54 rfl ea7 ?_
    refine r_iload_n (pc := 71) X dX12_readAct_71 rfl ?_
    refine r_iconst (pc := 72) X 1 dX12_readAct_72 (by decide) ?_
    refine r_iadd (pc := 73) X dX12_readAct_73 ?_
    refine r_aload_n (pc := 74) X dX12_readAct_74 rfl ?_
    refine r_bipush (pc := 75) X 48 dX12_readAct_75 (by decide) ?_
    refine r_bipush (pc := 77) X 10 dX12_readAct_77 (by decide) ?_
    obtain ⟨u8, eu8, hf⟩ := ob hf
    obtain ⟨o9, eo9, hf⟩ := ob hf
    refine r_callVI (pc := 79) X [.int 48, .int 10] dX12_readAct_79 ml_X12_159 vo_X12_oneOf ⟨Nat.le_refl _, Nat.le_refl _⟩ eu8 (ev_X12_oneOf (d := d - 1) (by omega) _ _ _ _ _ eo9) hd1 rfl (Nat.le_of_ble_eq_true rfl) rfl ?_
    obtain ⟨h10, eh10, hf⟩ := ob hf
    refine r_iast (pc := 82) X dX12_readAct_82 eh10 ?_
    refine r_iload_n (pc := 83) X dX12_readAct_83 rfl ?_
    refine r_bipush (pc := 84) X 112 dX12_readAct_84 (by decide) ?_
    obtain ⟨t11, et11, hf⟩ := ob hf
    have Jt11 : Jd Γ (0, 0) 113 [some (.ref p0), some (.int p1), some (.int x2)] [] t11 := by
      refine r_iload_n (pc := 113) X dX12_readAct_113 rfl ?_
      refine r_bipush (pc := 114) X 109 dX12_readAct_114 (by decide) ?_
      refine r_icmp_ne (pc := 116) X 135 dX12_readAct_116 (by decide) (fun c16 => ?_) (fun c16 => ?_)
      · rw [if_neg c16] at hf
        obtain rfl := Option.some.inj hf
        exact r_vret (pc := 135) X dX12_readAct_135 hk
      · rw [if_pos c16] at hf
        refine r_aload_n (pc := 119) X dX12_readAct_119 rfl ?_
        obtain ⟨a12, ea12, hf⟩ := ob hf
        refine r_getR (pc := 120) X dX12_readAct_120 fl_X12_54 rfl ea12 ?_
        refine r_iload_n (pc := 123) X dX12_readAct_123 rfl ?_
        refine r_iconst (pc := 124) X 2 dX12_readAct_124 (by decide) ?_
        refine r_iadd (pc := 125) X dX12_readAct_125 ?_
        refine r_aload_n (pc := 126) X dX12_readAct_126 rfl ?_
        refine r_bipush (pc := 127) X 48 dX12_readAct_127 (by decide) ?_
        refine r_bipush (pc := 129) X 10 dX12_readAct_129 (by decide) ?_
        obtain ⟨u13, eu13, hf⟩ := ob hf
        obtain ⟨o14, eo14, hf⟩ := ob hf
        refine r_callVI (pc := 131) X [.int 48, .int 10] dX12_readAct_131 ml_X12_159 vo_X12_oneOf ⟨Nat.le_refl _, Nat.le_refl _⟩ eu13 (ev_X12_oneOf (d := d - 1) (by omega) _ _ _ _ _ eo14) hd1 rfl (Nat.le_of_ble_eq_true rfl) rfl ?_
        obtain ⟨h15, eh15, hf⟩ := ob hf
        refine r_iast (pc := 134) X dX12_readAct_134 eh15 ?_
        obtain rfl := Option.some.inj hf
        exact r_vret (pc := 135) X dX12_readAct_135 hk
    refine r_icmp_eq (pc := 86) X 95 dX12_readAct_86 (by decide) (fun c26 => ?_) (fun c26 => ?_)
    · rw [if_pos c26] at et11
      refine r_aload_n (pc := 95) X dX12_readAct_95 rfl ?_
      obtain ⟨a17, ea17, et11⟩ := ob et11
      refine r_getR (pc := 96) X dX12_readAct_96 fl_X12_54 rfl ea17 ?_
      refine r_iload_n (pc := 99) X dX12_readAct_99 rfl ?_
      refine r_iconst (pc := 100) X 2 dX12_readAct_100 (by decide) ?_
      refine r_iadd (pc := 101) X dX12_readAct_101 ?_
      refine r_aload_n (pc := 102) X dX12_readAct_102 rfl ?_
      refine r_bipush (pc := 103) X 49 dX12_readAct_103 (by decide) ?_
      refine r_bipush (pc := 105) X 9 dX12_readAct_105 (by decide) ?_
      obtain ⟨u18, eu18, et11⟩ := ob et11
      obtain ⟨o19, eo19, et11⟩ := ob et11
      refine r_callVI (pc := 107) X [.int 49, .int 9] dX12_readAct_107 ml_X12_159 vo_X12_oneOf ⟨Nat.le_refl _, Nat.le_refl _⟩ eu18 (ev_X12_oneOf (d := d - 1) (by omega) _ _ _ _ _ eo19) hd1 rfl (Nat.le_of_ble_eq_true rfl) rfl ?_
      refine r_iconst (pc := 110) X 1 dX12_readAct_110 (by decide) ?_
      refine r_iadd (pc := 111) X dX12_readAct_111 ?_
      obtain ⟨h20, eh20, et11⟩ := ob et11
      refine r_iast (pc := 112) X dX12_readAct_112 eh20 ?_
      obtain rfl := Option.some.inj et11
      exact Jt11
    · rw [if_neg c26] at et11
      refine r_iload_n (pc := 89) X dX12_readAct_89 rfl ?_
      refine r_bipush (pc := 90) X 108 dX12_readAct_90 (by decide) ?_
      refine r_icmp_ne (pc := 92) X 113 dX12_readAct_92 (by decide) (fun c25 => ?_) (fun c25 => ?_)
      · rw [if_neg c25] at et11
        obtain rfl := Option.some.inj et11
        exact Jt11
      · rw [if_pos c25] at et11
        refine r_aload_n (pc := 95) X dX12_readAct_95 rfl ?_
        obtain ⟨a21, ea21, et11⟩ := ob et11
        refine r_getR (pc := 96) X dX12_readAct_96 fl_X12_54 rfl ea21 ?_
        refine r_iload_n (pc := 99) X dX12_readAct_99 rfl ?_
        refine r_iconst (pc := 100) X 2 dX12_readAct_100 (by decide) ?_
        refine r_iadd (pc := 101) X dX12_readAct_101 ?_
        refine r_aload_n (pc := 102) X dX12_readAct_102 rfl ?_
        refine r_bipush (pc := 103) X 49 dX12_readAct_103 (by decide) ?_
        refine r_bipush (pc := 105) X 9 dX12_readAct_105 (by decide) ?_
        obtain ⟨u22, eu22, et11⟩ := ob et11
        obtain ⟨o23, eo23, et11⟩ := ob et11
        refine r_callVI (pc := 107) X [.int 49, .int 9] dX12_readAct_107 ml_X12_159 vo_X12_oneOf ⟨Nat.le_refl _, Nat.le_refl _⟩ eu22 (ev_X12_oneOf (d := d - 1) (by omega) _ _ _ _ _ eo23) hd1 rfl (Nat.le_of_ble_eq_true rfl) rfl ?_
        refine r_iconst (pc := 110) X 1 dX12_readAct_110 (by decide) ?_
        refine r_iadd (pc := 111) X dX12_readAct_111 ?_
        obtain ⟨h24, eh24, et11⟩ := ob et11
        refine r_iast (pc := 112) X dX12_readAct_112 eh24 ?_
        obtain rfl := Option.some.inj et11
        exact Jt11
  · rw [if_neg c155] at hf
    refine r_iload_n (pc := 11) X dX12_readAct_11 rfl ?_
    refine r_bipush (pc := 12) X 112 dX12_readAct_12 (by decide) ?_
    refine r_icmp_eq (pc := 14) X 50 dX12_readAct_14 (by decide) (fun c154 => ?_) (fun c154 => ?_)
    · rw [if_pos c154] at hf
      refine r_aload_n (pc := 50) X dX12_readAct_50 rfl ?_
      refine r_dup (pc := 51) X dX12_readAct_51 rfl ?_
      obtain ⟨x27, ex27, hf⟩ := ob hf
      refine r_getI (pc := 52) X dX12_readAct_52 fl_X12_133 rfl ex27 ?_
      refine r_iconst (pc := 55) X 1 dX12_readAct_55 (by decide) ?_
      refine r_iadd (pc := 56) X dX12_readAct_56 ?_
      obtain ⟨h28, eh28, hf⟩ := ob hf
      refine r_putI (pc := 57) X dX12_readAct_57 fp_X12_133 rfl eh28 ?_
      refine r_aload_n (pc := 60) X dX12_readAct_60 rfl ?_
      obtain ⟨a29, ea29, hf⟩ := ob hf
      refine r_getR (pc := 61) X dX12_readAct_61 fl_X12_54 rfl ea29 ?_
      refine r_iload_n (pc := 64) X dX12_readAct_64 rfl ?_
      refine r_iload_n (pc := 65) X dX12_readAct_65 rfl ?_
      obtain ⟨h30, eh30, hf⟩ := ob hf
      refine r_iast (pc := 66) X dX12_readAct_66 eh30 ?_
      refine r_aload_n (pc := 67) X dX12_readAct_67 rfl ?_
      obtain ⟨a31, ea31, hf⟩ := ob hf
      refine r_getR (pc := 68) X dX12_readAct_68 fl_X12_54 rfl ea31 ?_
      refine r_iload_n (pc := 71) X dX12_readAct_71 rfl ?_
      refine r_iconst (pc := 72) X 1 dX12_readAct_72 (by decide) ?_
      refine r_iadd (pc := 73) X dX12_readAct_73 ?_
      refine r_aload_n (pc := 74) X dX12_readAct_74 rfl ?_
      refine r_bipush (pc := 75) X 48 dX12_readAct_75 (by decide) ?_
      refine r_bipush (pc := 77) X 10 dX12_readAct_77 (by decide) ?_
      obtain ⟨u32, eu32, hf⟩ := ob hf
      obtain ⟨o33, eo33, hf⟩ := ob hf
      refine r_callVI (pc := 79) X [.int 48, .int 10] dX12_readAct_79 ml_X12_159 vo_X12_oneOf ⟨Nat.le_refl _, Nat.le_refl _⟩ eu32 (ev_X12_oneOf (d := d - 1) (by omega) _ _ _ _ _ eo33) hd1 rfl (Nat.le_of_ble_eq_true rfl) rfl ?_
      obtain ⟨h34, eh34, hf⟩ := ob hf
      refine r_iast (pc := 82) X dX12_readAct_82 eh34 ?_
      refine r_iload_n (pc := 83) X dX12_readAct_83 rfl ?_
      refine r_bipush (pc := 84) X 112 dX12_readAct_84 (by decide) ?_
      obtain ⟨t35, et35, hf⟩ := ob hf
      have Jt35 : Jd Γ (0, 0) 113 [some (.ref p0), some (.int p1), some (.int x2)] [] t35 := by
        refine r_iload_n (pc := 113) X dX12_readAct_113 rfl ?_
        refine r_bipush (pc := 114) X 109 dX12_readAct_114 (by decide) ?_
        refine r_icmp_ne (pc := 116) X 135 dX12_readAct_116 (by decide) (fun c40 => ?_) (fun c40 => ?_)
        · rw [if_neg c40] at hf
          obtain rfl := Option.some.inj hf
          exact r_vret (pc := 135) X dX12_readAct_135 hk
        · rw [if_pos c40] at hf
          refine r_aload_n (pc := 119) X dX12_readAct_119 rfl ?_
          obtain ⟨a36, ea36, hf⟩ := ob hf
          refine r_getR (pc := 120) X dX12_readAct_120 fl_X12_54 rfl ea36 ?_
          refine r_iload_n (pc := 123) X dX12_readAct_123 rfl ?_
          refine r_iconst (pc := 124) X 2 dX12_readAct_124 (by decide) ?_
          refine r_iadd (pc := 125) X dX12_readAct_125 ?_
          refine r_aload_n (pc := 126) X dX12_readAct_126 rfl ?_
          refine r_bipush (pc := 127) X 48 dX12_readAct_127 (by decide) ?_
          refine r_bipush (pc := 129) X 10 dX12_readAct_129 (by decide) ?_
          obtain ⟨u37, eu37, hf⟩ := ob hf
          obtain ⟨o38, eo38, hf⟩ := ob hf
          refine r_callVI (pc := 131) X [.int 48, .int 10] dX12_readAct_131 ml_X12_159 vo_X12_oneOf ⟨Nat.le_refl _, Nat.le_refl _⟩ eu37 (ev_X12_oneOf (d := d - 1) (by omega) _ _ _ _ _ eo38) hd1 rfl (Nat.le_of_ble_eq_true rfl) rfl ?_
          obtain ⟨h39, eh39, hf⟩ := ob hf
          refine r_iast (pc := 134) X dX12_readAct_134 eh39 ?_
          obtain rfl := Option.some.inj hf
          exact r_vret (pc := 135) X dX12_readAct_135 hk
      refine r_icmp_eq (pc := 86) X 95 dX12_readAct_86 (by decide) (fun c50 => ?_) (fun c50 => ?_)
      · rw [if_pos c50] at et35
        refine r_aload_n (pc := 95) X dX12_readAct_95 rfl ?_
        obtain ⟨a41, ea41, et35⟩ := ob et35
        refine r_getR (pc := 96) X dX12_readAct_96 fl_X12_54 rfl ea41 ?_
        refine r_iload_n (pc := 99) X dX12_readAct_99 rfl ?_
        refine r_iconst (pc := 100) X 2 dX12_readAct_100 (by decide) ?_
        refine r_iadd (pc := 101) X dX12_readAct_101 ?_
        refine r_aload_n (pc := 102) X dX12_readAct_102 rfl ?_
        refine r_bipush (pc := 103) X 49 dX12_readAct_103 (by decide) ?_
        refine r_bipush (pc := 105) X 9 dX12_readAct_105 (by decide) ?_
        obtain ⟨u42, eu42, et35⟩ := ob et35
        obtain ⟨o43, eo43, et35⟩ := ob et35
        refine r_callVI (pc := 107) X [.int 49, .int 9] dX12_readAct_107 ml_X12_159 vo_X12_oneOf ⟨Nat.le_refl _, Nat.le_refl _⟩ eu42 (ev_X12_oneOf (d := d - 1) (by omega) _ _ _ _ _ eo43) hd1 rfl (Nat.le_of_ble_eq_true rfl) rfl ?_
        refine r_iconst (pc := 110) X 1 dX12_readAct_110 (by decide) ?_
        refine r_iadd (pc := 111) X dX12_readAct_111 ?_
        obtain ⟨h44, eh44, et35⟩ := ob et35
        refine r_iast (pc := 112) X dX12_readAct_112 eh44 ?_
        obtain rfl := Option.some.inj et35
        exact Jt35
      · rw [if_neg c50] at et35
        refine r_iload_n (pc := 89) X dX12_readAct_89 rfl ?_
        refine r_bipush (pc := 90) X 108 dX12_readAct_90 (by decide) ?_
        refine r_icmp_ne (pc := 92) X 113 dX12_readAct_92 (by decide) (fun c49 => ?_) (fun c49 => ?_)
        · rw [if_neg c49] at et35
          obtain rfl := Option.some.inj et35
          exact Jt35
        · rw [if_pos c49] at et35
          refine r_aload_n (pc := 95) X dX12_readAct_95 rfl ?_
          obtain ⟨a45, ea45, et35⟩ := ob et35
          refine r_getR (pc := 96) X dX12_readAct_96 fl_X12_54 rfl ea45 ?_
          refine r_iload_n (pc := 99) X dX12_readAct_99 rfl ?_
          refine r_iconst (pc := 100) X 2 dX12_readAct_100 (by decide) ?_
          refine r_iadd (pc := 101) X dX12_readAct_101 ?_
          refine r_aload_n (pc := 102) X dX12_readAct_102 rfl ?_
          refine r_bipush (pc := 103) X 49 dX12_readAct_103 (by decide) ?_
          refine r_bipush (pc := 105) X 9 dX12_readAct_105 (by decide) ?_
          obtain ⟨u46, eu46, et35⟩ := ob et35
          obtain ⟨o47, eo47, et35⟩ := ob et35
          refine r_callVI (pc := 107) X [.int 49, .int 9] dX12_readAct_107 ml_X12_159 vo_X12_oneOf ⟨Nat.le_refl _, Nat.le_refl _⟩ eu46 (ev_X12_oneOf (d := d - 1) (by omega) _ _ _ _ _ eo47) hd1 rfl (Nat.le_of_ble_eq_true rfl) rfl ?_
          refine r_iconst (pc := 110) X 1 dX12_readAct_110 (by decide) ?_
          refine r_iadd (pc := 111) X dX12_readAct_111 ?_
          obtain ⟨h48, eh48, et35⟩ := ob et35
          refine r_iast (pc := 112) X dX12_readAct_112 eh48 ?_
          obtain rfl := Option.some.inj et35
          exact Jt35
    · rw [if_neg c154] at hf
      refine r_iload_n (pc := 17) X dX12_readAct_17 rfl ?_
      refine r_bipush (pc := 18) X 108 dX12_readAct_18 (by decide) ?_
      refine r_icmp_eq (pc := 20) X 50 dX12_readAct_20 (by decide) (fun c153 => ?_) (fun c153 => ?_)
      · rw [if_pos c153] at hf
        refine r_aload_n (pc := 50) X dX12_readAct_50 rfl ?_
        refine r_dup (pc := 51) X dX12_readAct_51 rfl ?_
        obtain ⟨x51, ex51, hf⟩ := ob hf
        refine r_getI (pc := 52) X dX12_readAct_52 fl_X12_133 rfl ex51 ?_
        refine r_iconst (pc := 55) X 1 dX12_readAct_55 (by decide) ?_
        refine r_iadd (pc := 56) X dX12_readAct_56 ?_
        obtain ⟨h52, eh52, hf⟩ := ob hf
        refine r_putI (pc := 57) X dX12_readAct_57 fp_X12_133 rfl eh52 ?_
        refine r_aload_n (pc := 60) X dX12_readAct_60 rfl ?_
        obtain ⟨a53, ea53, hf⟩ := ob hf
        refine r_getR (pc := 61) X dX12_readAct_61 fl_X12_54 rfl ea53 ?_
        refine r_iload_n (pc := 64) X dX12_readAct_64 rfl ?_
        refine r_iload_n (pc := 65) X dX12_readAct_65 rfl ?_
        obtain ⟨h54, eh54, hf⟩ := ob hf
        refine r_iast (pc := 66) X dX12_readAct_66 eh54 ?_
        refine r_aload_n (pc := 67) X dX12_readAct_67 rfl ?_
        obtain ⟨a55, ea55, hf⟩ := ob hf
        refine r_getR (pc := 68) X dX12_readAct_68 fl_X12_54 rfl ea55 ?_
        refine r_iload_n (pc := 71) X dX12_readAct_71 rfl ?_
        refine r_iconst (pc := 72) X 1 dX12_readAct_72 (by decide) ?_
        refine r_iadd (pc := 73) X dX12_readAct_73 ?_
        refine r_aload_n (pc := 74) X dX12_readAct_74 rfl ?_
        refine r_bipush (pc := 75) X 48 dX12_readAct_75 (by decide) ?_
        refine r_bipush (pc := 77) X 10 dX12_readAct_77 (by decide) ?_
        obtain ⟨u56, eu56, hf⟩ := ob hf
        obtain ⟨o57, eo57, hf⟩ := ob hf
        refine r_callVI (pc := 79) X [.int 48, .int 10] dX12_readAct_79 ml_X12_159 vo_X12_oneOf ⟨Nat.le_refl _, Nat.le_refl _⟩ eu56 (ev_X12_oneOf (d := d - 1) (by omega) _ _ _ _ _ eo57) hd1 rfl (Nat.le_of_ble_eq_true rfl) rfl ?_
        obtain ⟨h58, eh58, hf⟩ := ob hf
        refine r_iast (pc := 82) X dX12_readAct_82 eh58 ?_
        refine r_iload_n (pc := 83) X dX12_readAct_83 rfl ?_
        refine r_bipush (pc := 84) X 112 dX12_readAct_84 (by decide) ?_
        obtain ⟨t59, et59, hf⟩ := ob hf
        have Jt59 : Jd Γ (0, 0) 113 [some (.ref p0), some (.int p1), some (.int x2)] [] t59 := by
          refine r_iload_n (pc := 113) X dX12_readAct_113 rfl ?_
          refine r_bipush (pc := 114) X 109 dX12_readAct_114 (by decide) ?_
          refine r_icmp_ne (pc := 116) X 135 dX12_readAct_116 (by decide) (fun c64 => ?_) (fun c64 => ?_)
          · rw [if_neg c64] at hf
            obtain rfl := Option.some.inj hf
            exact r_vret (pc := 135) X dX12_readAct_135 hk
          · rw [if_pos c64] at hf
            refine r_aload_n (pc := 119) X dX12_readAct_119 rfl ?_
            obtain ⟨a60, ea60, hf⟩ := ob hf
            refine r_getR (pc := 120) X dX12_readAct_120 fl_X12_54 rfl ea60 ?_
            refine r_iload_n (pc := 123) X dX12_readAct_123 rfl ?_
            refine r_iconst (pc := 124) X 2 dX12_readAct_124 (by decide) ?_
            refine r_iadd (pc := 125) X dX12_readAct_125 ?_
            refine r_aload_n (pc := 126) X dX12_readAct_126 rfl ?_
            refine r_bipush (pc := 127) X 48 dX12_readAct_127 (by decide) ?_
            refine r_bipush (pc := 129) X 10 dX12_readAct_129 (by decide) ?_
            obtain ⟨u61, eu61, hf⟩ := ob hf
            obtain ⟨o62, eo62, hf⟩ := ob hf
            refine r_callVI (pc := 131) X [.int 48, .int 10] dX12_readAct_131 ml_X12_159 vo_X12_oneOf ⟨Nat.le_refl _, Nat.le_refl _⟩ eu61 (ev_X12_oneOf (d := d - 1) (by omega) _ _ _ _ _ eo62) hd1 rfl (Nat.le_of_ble_eq_true rfl) rfl ?_
            obtain ⟨h63, eh63, hf⟩ := ob hf
            refine r_iast (pc := 134) X dX12_readAct_134 eh63 ?_
            obtain rfl := Option.some.inj hf
            exact r_vret (pc := 135) X dX12_readAct_135 hk
        refine r_icmp_eq (pc := 86) X 95 dX12_readAct_86 (by decide) (fun c74 => ?_) (fun c74 => ?_)
        · rw [if_pos c74] at et59
          refine r_aload_n (pc := 95) X dX12_readAct_95 rfl ?_
          obtain ⟨a65, ea65, et59⟩ := ob et59
          refine r_getR (pc := 96) X dX12_readAct_96 fl_X12_54 rfl ea65 ?_
          refine r_iload_n (pc := 99) X dX12_readAct_99 rfl ?_
          refine r_iconst (pc := 100) X 2 dX12_readAct_100 (by decide) ?_
          refine r_iadd (pc := 101) X dX12_readAct_101 ?_
          refine r_aload_n (pc := 102) X dX12_readAct_102 rfl ?_
          refine r_bipush (pc := 103) X 49 dX12_readAct_103 (by decide) ?_
          refine r_bipush (pc := 105) X 9 dX12_readAct_105 (by decide) ?_
          obtain ⟨u66, eu66, et59⟩ := ob et59
          obtain ⟨o67, eo67, et59⟩ := ob et59
          refine r_callVI (pc := 107) X [.int 49, .int 9] dX12_readAct_107 ml_X12_159 vo_X12_oneOf ⟨Nat.le_refl _, Nat.le_refl _⟩ eu66 (ev_X12_oneOf (d := d - 1) (by omega) _ _ _ _ _ eo67) hd1 rfl (Nat.le_of_ble_eq_true rfl) rfl ?_
          refine r_iconst (pc := 110) X 1 dX12_readAct_110 (by decide) ?_
          refine r_iadd (pc := 111) X dX12_readAct_111 ?_
          obtain ⟨h68, eh68, et59⟩ := ob et59
          refine r_iast (pc := 112) X dX12_readAct_112 eh68 ?_
          obtain rfl := Option.some.inj et59
          exact Jt59
        · rw [if_neg c74] at et59
          refine r_iload_n (pc := 89) X dX12_readAct_89 rfl ?_
          refine r_bipush (pc := 90) X 108 dX12_readAct_90 (by decide) ?_
          refine r_icmp_ne (pc := 92) X 113 dX12_readAct_92 (by decide) (fun c73 => ?_) (fun c73 => ?_)
          · rw [if_neg c73] at et59
            obtain rfl := Option.some.inj et59
            exact Jt59
          · rw [if_pos c73] at et59
            refine r_aload_n (pc := 95) X dX12_readAct_95 rfl ?_
            obtain ⟨a69, ea69, et59⟩ := ob et59
            refine r_getR (pc := 96) X dX12_readAct_96 fl_X12_54 rfl ea69 ?_
            refine r_iload_n (pc := 99) X dX12_readAct_99 rfl ?_
            refine r_iconst (pc := 100) X 2 dX12_readAct_100 (by decide) ?_
            refine r_iadd (pc := 101) X dX12_readAct_101 ?_
            refine r_aload_n (pc := 102) X dX12_readAct_102 rfl ?_
            refine r_bipush (pc := 103) X 49 dX12_readAct_103 (by decide) ?_
            refine r_bipush (pc := 105) X 9 dX12_readAct_105 (by decide) ?_
            obtain ⟨u70, eu70, et59⟩ := ob et59
            obtain ⟨o71, eo71, et59⟩ := ob et59
            refine r_callVI (pc := 107) X [.int 49, .int 9] dX12_readAct_107 ml_X12_159 vo_X12_oneOf ⟨Nat.le_refl _, Nat.le_refl _⟩ eu70 (ev_X12_oneOf (d := d - 1) (by omega) _ _ _ _ _ eo71) hd1 rfl (Nat.le_of_ble_eq_true rfl) rfl ?_
            refine r_iconst (pc := 110) X 1 dX12_readAct_110 (by decide) ?_
            refine r_iadd (pc := 111) X dX12_readAct_111 ?_
            obtain ⟨h72, eh72, et59⟩ := ob et59
            refine r_iast (pc := 112) X dX12_readAct_112 eh72 ?_
            obtain rfl := Option.some.inj et59
            exact Jt59
      · rw [if_neg c153] at hf
        refine r_iload_n (pc := 23) X dX12_readAct_23 rfl ?_
        refine r_bipush (pc := 24) X 98 dX12_readAct_24 (by decide) ?_
        refine r_icmp_eq (pc := 26) X 50 dX12_readAct_26 (by decide) (fun c152 => ?_) (fun c152 => ?_)
        · rw [if_pos c152] at hf
          refine r_aload_n (pc := 50) X dX12_readAct_50 rfl ?_
          refine r_dup (pc := 51) X dX12_readAct_51 rfl ?_
          obtain ⟨x75, ex75, hf⟩ := ob hf
          refine r_getI (pc := 52) X dX12_readAct_52 fl_X12_133 rfl ex75 ?_
          refine r_iconst (pc := 55) X 1 dX12_readAct_55 (by decide) ?_
          refine r_iadd (pc := 56) X dX12_readAct_56 ?_
          obtain ⟨h76, eh76, hf⟩ := ob hf
          refine r_putI (pc := 57) X dX12_readAct_57 fp_X12_133 rfl eh76 ?_
          refine r_aload_n (pc := 60) X dX12_readAct_60 rfl ?_
          obtain ⟨a77, ea77, hf⟩ := ob hf
          refine r_getR (pc := 61) X dX12_readAct_61 fl_X12_54 rfl ea77 ?_
          refine r_iload_n (pc := 64) X dX12_readAct_64 rfl ?_
          refine r_iload_n (pc := 65) X dX12_readAct_65 rfl ?_
          obtain ⟨h78, eh78, hf⟩ := ob hf
          refine r_iast (pc := 66) X dX12_readAct_66 eh78 ?_
          refine r_aload_n (pc := 67) X dX12_readAct_67 rfl ?_
          obtain ⟨a79, ea79, hf⟩ := ob hf
          refine r_getR (pc := 68) X dX12_readAct_68 fl_X12_54 rfl ea79 ?_
          refine r_iload_n (pc := 71) X dX12_readAct_71 rfl ?_
          refine r_iconst (pc := 72) X 1 dX12_readAct_72 (by decide) ?_
          refine r_iadd (pc := 73) X dX12_readAct_73 ?_
          refine r_aload_n (pc := 74) X dX12_readAct_74 rfl ?_
          refine r_bipush (pc := 75) X 48 dX12_readAct_75 (by decide) ?_
          refine r_bipush (pc := 77) X 10 dX12_readAct_77 (by decide) ?_
          obtain ⟨u80, eu80, hf⟩ := ob hf
          obtain ⟨o81, eo81, hf⟩ := ob hf
          refine r_callVI (pc := 79) X [.int 48, .int 10] dX12_readAct_79 ml_X12_159 vo_X12_oneOf ⟨Nat.le_refl _, Nat.le_refl _⟩ eu80 (ev_X12_oneOf (d := d - 1) (by omega) _ _ _ _ _ eo81) hd1 rfl (Nat.le_of_ble_eq_true rfl) rfl ?_
          obtain ⟨h82, eh82, hf⟩ := ob hf
          refine r_iast (pc := 82) X dX12_readAct_82 eh82 ?_
          refine r_iload_n (pc := 83) X dX12_readAct_83 rfl ?_
          refine r_bipush (pc := 84) X 112 dX12_readAct_84 (by decide) ?_
          obtain ⟨t83, et83, hf⟩ := ob hf
          have Jt83 : Jd Γ (0, 0) 113 [some (.ref p0), some (.int p1), some (.int x2)] [] t83 := by
            refine r_iload_n (pc := 113) X dX12_readAct_113 rfl ?_
            refine r_bipush (pc := 114) X 109 dX12_readAct_114 (by decide) ?_
            refine r_icmp_ne (pc := 116) X 135 dX12_readAct_116 (by decide) (fun c88 => ?_) (fun c88 => ?_)
            · rw [if_neg c88] at hf
              obtain rfl := Option.some.inj hf
              exact r_vret (pc := 135) X dX12_readAct_135 hk
            · rw [if_pos c88] at hf
              refine r_aload_n (pc := 119) X dX12_readAct_119 rfl ?_
              obtain ⟨a84, ea84, hf⟩ := ob hf
              refine r_getR (pc := 120) X dX12_readAct_120 fl_X12_54 rfl ea84 ?_
              refine r_iload_n (pc := 123) X dX12_readAct_123 rfl ?_
              refine r_iconst (pc := 124) X 2 dX12_readAct_124 (by decide) ?_
              refine r_iadd (pc := 125) X dX12_readAct_125 ?_
              refine r_aload_n (pc := 126) X dX12_readAct_126 rfl ?_
              refine r_bipush (pc := 127) X 48 dX12_readAct_127 (by decide) ?_
              refine r_bipush (pc := 129) X 10 dX12_readAct_129 (by decide) ?_
              obtain ⟨u85, eu85, hf⟩ := ob hf
              obtain ⟨o86, eo86, hf⟩ := ob hf
              refine r_callVI (pc := 131) X [.int 48, .int 10] dX12_readAct_131 ml_X12_159 vo_X12_oneOf ⟨Nat.le_refl _, Nat.le_refl _⟩ eu85 (ev_X12_oneOf (d := d - 1) (by omega) _ _ _ _ _ eo86) hd1 rfl (Nat.le_of_ble_eq_true rfl) rfl ?_
              obtain ⟨h87, eh87, hf⟩ := ob hf
              refine r_iast (pc := 134) X dX12_readAct_134 eh87 ?_
              obtain rfl := Option.some.inj hf
              exact r_vret (pc := 135) X dX12_readAct_135 hk
          refine r_icmp_eq (pc := 86) X 95 dX12_readAct_86 (by decide) (fun c98 => ?_) (fun c98 => ?_)
          · rw [if_pos c98] at et83
            refine r_aload_n (pc := 95) X dX12_readAct_95 rfl ?_
            obtain ⟨a89, ea89, et83⟩ := ob et83
            refine r_getR (pc := 96) X dX12_readAct_96 fl_X12_54 rfl ea89 ?_
            refine r_iload_n (pc := 99) X dX12_readAct_99 rfl ?_
            refine r_iconst (pc := 100) X 2 dX12_readAct_100 (by decide) ?_
            refine r_iadd (pc := 101) X dX12_readAct_101 ?_
            refine r_aload_n (pc := 102) X dX12_readAct_102 rfl ?_
            refine r_bipush (pc := 103) X 49 dX12_readAct_103 (by decide) ?_
            refine r_bipush (pc := 105) X 9 dX12_readAct_105 (by decide) ?_
            obtain ⟨u90, eu90, et83⟩ := ob et83
            obtain ⟨o91, eo91, et83⟩ := ob et83
            refine r_callVI (pc := 107) X [.int 49, .int 9] dX12_readAct_107 ml_X12_159 vo_X12_oneOf ⟨Nat.le_refl _, Nat.le_refl _⟩ eu90 (ev_X12_oneOf (d := d - 1) (by omega) _ _ _ _ _ eo91) hd1 rfl (Nat.le_of_ble_eq_true rfl) rfl ?_
            refine r_iconst (pc := 110) X 1 dX12_readAct_110 (by decide) ?_
            refine r_iadd (pc := 111) X dX12_readAct_111 ?_
            obtain ⟨h92, eh92, et83⟩ := ob et83
            refine r_iast (pc := 112) X dX12_readAct_112 eh92 ?_
            obtain rfl := Option.some.inj et83
            exact Jt83
          · rw [if_neg c98] at et83
            refine r_iload_n (pc := 89) X dX12_readAct_89 rfl ?_
            refine r_bipush (pc := 90) X 108 dX12_readAct_90 (by decide) ?_
            refine r_icmp_ne (pc := 92) X 113 dX12_readAct_92 (by decide) (fun c97 => ?_) (fun c97 => ?_)
            · rw [if_neg c97] at et83
              obtain rfl := Option.some.inj et83
              exact Jt83
            · rw [if_pos c97] at et83
              refine r_aload_n (pc := 95) X dX12_readAct_95 rfl ?_
              obtain ⟨a93, ea93, et83⟩ := ob et83
              refine r_getR (pc := 96) X dX12_readAct_96 fl_X12_54 rfl ea93 ?_
              refine r_iload_n (pc := 99) X dX12_readAct_99 rfl ?_
              refine r_iconst (pc := 100) X 2 dX12_readAct_100 (by decide) ?_
              refine r_iadd (pc := 101) X dX12_readAct_101 ?_
              refine r_aload_n (pc := 102) X dX12_readAct_102 rfl ?_
              refine r_bipush (pc := 103) X 49 dX12_readAct_103 (by decide) ?_
              refine r_bipush (pc := 105) X 9 dX12_readAct_105 (by decide) ?_
              obtain ⟨u94, eu94, et83⟩ := ob et83
              obtain ⟨o95, eo95, et83⟩ := ob et83
              refine r_callVI (pc := 107) X [.int 49, .int 9] dX12_readAct_107 ml_X12_159 vo_X12_oneOf ⟨Nat.le_refl _, Nat.le_refl _⟩ eu94 (ev_X12_oneOf (d := d - 1) (by omega) _ _ _ _ _ eo95) hd1 rfl (Nat.le_of_ble_eq_true rfl) rfl ?_
              refine r_iconst (pc := 110) X 1 dX12_readAct_110 (by decide) ?_
              refine r_iadd (pc := 111) X dX12_readAct_111 ?_
              obtain ⟨h96, eh96, et83⟩ := ob et83
              refine r_iast (pc := 112) X dX12_readAct_112 eh96 ?_
              obtain rfl := Option.some.inj et83
              exact Jt83
        · rw [if_neg c152] at hf
          refine r_iload_n (pc := 29) X dX12_readAct_29 rfl ?_
          refine r_bipush (pc := 30) X 107 dX12_readAct_30 (by decide) ?_
          refine r_icmp_eq (pc := 32) X 50 dX12_readAct_32 (by decide) (fun c151 => ?_) (fun c151 => ?_)
          · rw [if_pos c151] at hf
            refine r_aload_n (pc := 50) X dX12_readAct_50 rfl ?_
            refine r_dup (pc := 51) X dX12_readAct_51 rfl ?_
            obtain ⟨x99, ex99, hf⟩ := ob hf
            refine r_getI (pc := 52) X dX12_readAct_52 fl_X12_133 rfl ex99 ?_
            refine r_iconst (pc := 55) X 1 dX12_readAct_55 (by decide) ?_
            refine r_iadd (pc := 56) X dX12_readAct_56 ?_
            obtain ⟨h100, eh100, hf⟩ := ob hf
            refine r_putI (pc := 57) X dX12_readAct_57 fp_X12_133 rfl eh100 ?_
            refine r_aload_n (pc := 60) X dX12_readAct_60 rfl ?_
            obtain ⟨a101, ea101, hf⟩ := ob hf
            refine r_getR (pc := 61) X dX12_readAct_61 fl_X12_54 rfl ea101 ?_
            refine r_iload_n (pc := 64) X dX12_readAct_64 rfl ?_
            refine r_iload_n (pc := 65) X dX12_readAct_65 rfl ?_
            obtain ⟨h102, eh102, hf⟩ := ob hf
            refine r_iast (pc := 66) X dX12_readAct_66 eh102 ?_
            refine r_aload_n (pc := 67) X dX12_readAct_67 rfl ?_
            obtain ⟨a103, ea103, hf⟩ := ob hf
            refine r_getR (pc := 68) X dX12_readAct_68 fl_X12_54 rfl ea103 ?_
            refine r_iload_n (pc := 71) X dX12_readAct_71 rfl ?_
            refine r_iconst (pc := 72) X 1 dX12_readAct_72 (by decide) ?_
            refine r_iadd (pc := 73) X dX12_readAct_73 ?_
            refine r_aload_n (pc := 74) X dX12_readAct_74 rfl ?_
            refine r_bipush (pc := 75) X 48 dX12_readAct_75 (by decide) ?_
            refine r_bipush (pc := 77) X 10 dX12_readAct_77 (by decide) ?_
            obtain ⟨u104, eu104, hf⟩ := ob hf
            obtain ⟨o105, eo105, hf⟩ := ob hf
            refine r_callVI (pc := 79) X [.int 48, .int 10] dX12_readAct_79 ml_X12_159 vo_X12_oneOf ⟨Nat.le_refl _, Nat.le_refl _⟩ eu104 (ev_X12_oneOf (d := d - 1) (by omega) _ _ _ _ _ eo105) hd1 rfl (Nat.le_of_ble_eq_true rfl) rfl ?_
            obtain ⟨h106, eh106, hf⟩ := ob hf
            refine r_iast (pc := 82) X dX12_readAct_82 eh106 ?_
            refine r_iload_n (pc := 83) X dX12_readAct_83 rfl ?_
            refine r_bipush (pc := 84) X 112 dX12_readAct_84 (by decide) ?_
            obtain ⟨t107, et107, hf⟩ := ob hf
            have Jt107 : Jd Γ (0, 0) 113 [some (.ref p0), some (.int p1), some (.int x2)] [] t107 := by
              refine r_iload_n (pc := 113) X dX12_readAct_113 rfl ?_
              refine r_bipush (pc := 114) X 109 dX12_readAct_114 (by decide) ?_
              refine r_icmp_ne (pc := 116) X 135 dX12_readAct_116 (by decide) (fun c112 => ?_) (fun c112 => ?_)
              · rw [if_neg c112] at hf
                obtain rfl := Option.some.inj hf
                exact r_vret (pc := 135) X dX12_readAct_135 hk
              · rw [if_pos c112] at hf
                refine r_aload_n (pc := 119) X dX12_readAct_119 rfl ?_
                obtain ⟨a108, ea108, hf⟩ := ob hf
                refine r_getR (pc := 120) X dX12_readAct_120 fl_X12_54 rfl ea108 ?_
                refine r_iload_n (pc := 123) X dX12_readAct_123 rfl ?_
                refine r_iconst (pc := 124) X 2 dX12_readAct_124 (by decide) ?_
                refine r_iadd (pc := 125) X dX12_readAct_125 ?_
                refine r_aload_n (pc := 126) X dX12_readAct_126 rfl ?_
                refine r_bipush (pc := 127) X 48 dX12_readAct_127 (by decide) ?_
                refine r_bipush (pc := 129) X 10 dX12_readAct_129 (by decide) ?_
                obtain ⟨u109, eu109, hf⟩ := ob hf
                obtain ⟨o110, eo110, hf⟩ := ob hf
                refine r_callVI (pc := 131) X [.int 48, .int 10] dX12_readAct_131 ml_X12_159 vo_X12_oneOf ⟨Nat.le_refl _, Nat.le_refl _⟩ eu109 (ev_X12_oneOf (d := d - 1) (by omega) _ _ _ _ _ eo110) hd1 rfl (Nat.le_of_ble_eq_true rfl) rfl ?_
                obtain ⟨h111, eh111, hf⟩ := ob hf
                refine r_iast (pc := 134) X dX12_readAct_134 eh111 ?_
                obtain rfl := Option.some.inj hf
                exact r_vret (pc := 135) X dX12_readAct_135 hk
            refine r_icmp_eq (pc := 86) X 95 dX12_readAct_86 (by decide) (fun c122 => ?_) (fun c122 => ?_)
            · rw [if_pos c122] at et107
              refine r_aload_n (pc := 95) X dX12_readAct_95 rfl ?_
              obtain ⟨a113, ea113, et107⟩ := ob et107
              refine r_getR (pc := 96) X dX12_readAct_96 fl_X12_54 rfl ea113 ?_
              refine r_iload_n (pc := 99) X dX12_readAct_99 rfl ?_
              refine r_iconst (pc := 100) X 2 dX12_readAct_100 (by decide) ?_
              refine r_iadd (pc := 101) X dX12_readAct_101 ?_
              refine r_aload_n (pc := 102) X dX12_readAct_102 rfl ?_
              refine r_bipush (pc := 103) X 49 dX12_readAct_103 (by decide) ?_
              refine r_bipush (pc := 105) X 9 dX12_readAct_105 (by decide) ?_
              obtain ⟨u114, eu114, et107⟩ := ob et107
              obtain ⟨o115, eo115, et107⟩ := ob et107
              refine r_callVI (pc := 107) X [.int 49, .int 9] dX12_readAct_107 ml_X12_159 vo_X12_oneOf ⟨Nat.le_refl _, Nat.le_refl _⟩ eu114 (ev_X12_oneOf (d := d - 1) (by omega) _ _ _ _ _ eo115) hd1 rfl (Nat.le_of_ble_eq_true rfl) rfl ?_
              refine r_iconst (pc := 110) X 1 dX12_readAct_110 (by decide) ?_
              refine r_iadd (pc := 111) X dX12_readAct_111 ?_
              obtain ⟨h116, eh116, et107⟩ := ob et107
              refine r_iast (pc := 112) X dX12_readAct_112 eh116 ?_
              obtain rfl := Option.some.inj et107
              exact Jt107
            · rw [if_neg c122] at et107
              refine r_iload_n (pc := 89) X dX12_readAct_89 rfl ?_
              refine r_bipush (pc := 90) X 108 dX12_readAct_90 (by decide) ?_
              refine r_icmp_ne (pc := 92) X 113 dX12_readAct_92 (by decide) (fun c121 => ?_) (fun c121 => ?_)
              · rw [if_neg c121] at et107
                obtain rfl := Option.some.inj et107
                exact Jt107
              · rw [if_pos c121] at et107
                refine r_aload_n (pc := 95) X dX12_readAct_95 rfl ?_
                obtain ⟨a117, ea117, et107⟩ := ob et107
                refine r_getR (pc := 96) X dX12_readAct_96 fl_X12_54 rfl ea117 ?_
                refine r_iload_n (pc := 99) X dX12_readAct_99 rfl ?_
                refine r_iconst (pc := 100) X 2 dX12_readAct_100 (by decide) ?_
                refine r_iadd (pc := 101) X dX12_readAct_101 ?_
                refine r_aload_n (pc := 102) X dX12_readAct_102 rfl ?_
                refine r_bipush (pc := 103) X 49 dX12_readAct_103 (by decide) ?_
                refine r_bipush (pc := 105) X 9 dX12_readAct_105 (by decide) ?_
                obtain ⟨u118, eu118, et107⟩ := ob et107
                obtain ⟨o119, eo119, et107⟩ := ob et107
                refine r_callVI (pc := 107) X [.int 49, .int 9] dX12_readAct_107 ml_X12_159 vo_X12_oneOf ⟨Nat.le_refl _, Nat.le_refl _⟩ eu118 (ev_X12_oneOf (d := d - 1) (by omega) _ _ _ _ _ eo119) hd1 rfl (Nat.le_of_ble_eq_true rfl) rfl ?_
                refine r_iconst (pc := 110) X 1 dX12_readAct_110 (by decide) ?_
                refine r_iadd (pc := 111) X dX12_readAct_111 ?_
                obtain ⟨h120, eh120, et107⟩ := ob et107
                refine r_iast (pc := 112) X dX12_readAct_112 eh120 ?_
                obtain rfl := Option.some.inj et107
                exact Jt107
          · rw [if_neg c151] at hf
            refine r_iload_n (pc := 35) X dX12_readAct_35 rfl ?_
            refine r_bipush (pc := 36) X 109 dX12_readAct_36 (by decide) ?_
            refine r_icmp_eq (pc := 38) X 50 dX12_readAct_38 (by decide) (fun c150 => ?_) (fun c150 => ?_)
            · rw [if_pos c150] at hf
              refine r_aload_n (pc := 50) X dX12_readAct_50 rfl ?_
              refine r_dup (pc := 51) X dX12_readAct_51 rfl ?_
              obtain ⟨x123, ex123, hf⟩ := ob hf
              refine r_getI (pc := 52) X dX12_readAct_52 fl_X12_133 rfl ex123 ?_
              refine r_iconst (pc := 55) X 1 dX12_readAct_55 (by decide) ?_
              refine r_iadd (pc := 56) X dX12_readAct_56 ?_
              obtain ⟨h124, eh124, hf⟩ := ob hf
              refine r_putI (pc := 57) X dX12_readAct_57 fp_X12_133 rfl eh124 ?_
              refine r_aload_n (pc := 60) X dX12_readAct_60 rfl ?_
              obtain ⟨a125, ea125, hf⟩ := ob hf
              refine r_getR (pc := 61) X dX12_readAct_61 fl_X12_54 rfl ea125 ?_
              refine r_iload_n (pc := 64) X dX12_readAct_64 rfl ?_
              refine r_iload_n (pc := 65) X dX12_readAct_65 rfl ?_
              obtain ⟨h126, eh126, hf⟩ := ob hf
              refine r_iast (pc := 66) X dX12_readAct_66 eh126 ?_
              refine r_aload_n (pc := 67) X dX12_readAct_67 rfl ?_
              obtain ⟨a127, ea127, hf⟩ := ob hf
              refine r_getR (pc := 68) X dX12_readAct_68 fl_X12_54 rfl ea127 ?_
              refine r_iload_n (pc := 71) X dX12_readAct_71 rfl ?_
              refine r_iconst (pc := 72) X 1 dX12_readAct_72 (by decide) ?_
              refine r_iadd (pc := 73) X dX12_readAct_73 ?_
              refine r_aload_n (pc := 74) X dX12_readAct_74 rfl ?_
              refine r_bipush (pc := 75) X 48 dX12_readAct_75 (by decide) ?_
              refine r_bipush (pc := 77) X 10 dX12_readAct_77 (by decide) ?_
              obtain ⟨u128, eu128, hf⟩ := ob hf
              obtain ⟨o129, eo129, hf⟩ := ob hf
              refine r_callVI (pc := 79) X [.int 48, .int 10] dX12_readAct_79 ml_X12_159 vo_X12_oneOf ⟨Nat.le_refl _, Nat.le_refl _⟩ eu128 (ev_X12_oneOf (d := d - 1) (by omega) _ _ _ _ _ eo129) hd1 rfl (Nat.le_of_ble_eq_true rfl) rfl ?_
              obtain ⟨h130, eh130, hf⟩ := ob hf
              refine r_iast (pc := 82) X dX12_readAct_82 eh130 ?_
              refine r_iload_n (pc := 83) X dX12_readAct_83 rfl ?_
              refine r_bipush (pc := 84) X 112 dX12_readAct_84 (by decide) ?_
              obtain ⟨t131, et131, hf⟩ := ob hf
              have Jt131 : Jd Γ (0, 0) 113 [some (.ref p0), some (.int p1), some (.int x2)] [] t131 := by
                refine r_iload_n (pc := 113) X dX12_readAct_113 rfl ?_
                refine r_bipush (pc := 114) X 109 dX12_readAct_114 (by decide) ?_
                refine r_icmp_ne (pc := 116) X 135 dX12_readAct_116 (by decide) (fun c136 => ?_) (fun c136 => ?_)
                · rw [if_neg c136] at hf
                  obtain rfl := Option.some.inj hf
                  exact r_vret (pc := 135) X dX12_readAct_135 hk
                · rw [if_pos c136] at hf
                  refine r_aload_n (pc := 119) X dX12_readAct_119 rfl ?_
                  obtain ⟨a132, ea132, hf⟩ := ob hf
                  refine r_getR (pc := 120) X dX12_readAct_120 fl_X12_54 rfl ea132 ?_
                  refine r_iload_n (pc := 123) X dX12_readAct_123 rfl ?_
                  refine r_iconst (pc := 124) X 2 dX12_readAct_124 (by decide) ?_
                  refine r_iadd (pc := 125) X dX12_readAct_125 ?_
                  refine r_aload_n (pc := 126) X dX12_readAct_126 rfl ?_
                  refine r_bipush (pc := 127) X 48 dX12_readAct_127 (by decide) ?_
                  refine r_bipush (pc := 129) X 10 dX12_readAct_129 (by decide) ?_
                  obtain ⟨u133, eu133, hf⟩ := ob hf
                  obtain ⟨o134, eo134, hf⟩ := ob hf
                  refine r_callVI (pc := 131) X [.int 48, .int 10] dX12_readAct_131 ml_X12_159 vo_X12_oneOf ⟨Nat.le_refl _, Nat.le_refl _⟩ eu133 (ev_X12_oneOf (d := d - 1) (by omega) _ _ _ _ _ eo134) hd1 rfl (Nat.le_of_ble_eq_true rfl) rfl ?_
                  obtain ⟨h135, eh135, hf⟩ := ob hf
                  refine r_iast (pc := 134) X dX12_readAct_134 eh135 ?_
                  obtain rfl := Option.some.inj hf
                  exact r_vret (pc := 135) X dX12_readAct_135 hk
              refine r_icmp_eq (pc := 86) X 95 dX12_readAct_86 (by decide) (fun c146 => ?_) (fun c146 => ?_)
              · rw [if_pos c146] at et131
                refine r_aload_n (pc := 95) X dX12_readAct_95 rfl ?_
                obtain ⟨a137, ea137, et131⟩ := ob et131
                refine r_getR (pc := 96) X dX12_readAct_96 fl_X12_54 rfl ea137 ?_
                refine r_iload_n (pc := 99) X dX12_readAct_99 rfl ?_
                refine r_iconst (pc := 100) X 2 dX12_readAct_100 (by decide) ?_
                refine r_iadd (pc := 101) X dX12_readAct_101 ?_
                refine r_aload_n (pc := 102) X dX12_readAct_102 rfl ?_
                refine r_bipush (pc := 103) X 49 dX12_readAct_103 (by decide) ?_
                refine r_bipush (pc := 105) X 9 dX12_readAct_105 (by decide) ?_
                obtain ⟨u138, eu138, et131⟩ := ob et131
                obtain ⟨o139, eo139, et131⟩ := ob et131
                refine r_callVI (pc := 107) X [.int 49, .int 9] dX12_readAct_107 ml_X12_159 vo_X12_oneOf ⟨Nat.le_refl _, Nat.le_refl _⟩ eu138 (ev_X12_oneOf (d := d - 1) (by omega) _ _ _ _ _ eo139) hd1 rfl (Nat.le_of_ble_eq_true rfl) rfl ?_
                refine r_iconst (pc := 110) X 1 dX12_readAct_110 (by decide) ?_
                refine r_iadd (pc := 111) X dX12_readAct_111 ?_
                obtain ⟨h140, eh140, et131⟩ := ob et131
                refine r_iast (pc := 112) X dX12_readAct_112 eh140 ?_
                obtain rfl := Option.some.inj et131
                exact Jt131
              · rw [if_neg c146] at et131
                refine r_iload_n (pc := 89) X dX12_readAct_89 rfl ?_
                refine r_bipush (pc := 90) X 108 dX12_readAct_90 (by decide) ?_
                refine r_icmp_ne (pc := 92) X 113 dX12_readAct_92 (by decide) (fun c145 => ?_) (fun c145 => ?_)
                · rw [if_neg c145] at et131
                  obtain rfl := Option.some.inj et131
                  exact Jt131
                · rw [if_pos c145] at et131
                  refine r_aload_n (pc := 95) X dX12_readAct_95 rfl ?_
                  obtain ⟨a141, ea141, et131⟩ := ob et131
                  refine r_getR (pc := 96) X dX12_readAct_96 fl_X12_54 rfl ea141 ?_
                  refine r_iload_n (pc := 99) X dX12_readAct_99 rfl ?_
                  refine r_iconst (pc := 100) X 2 dX12_readAct_100 (by decide) ?_
                  refine r_iadd (pc := 101) X dX12_readAct_101 ?_
                  refine r_aload_n (pc := 102) X dX12_readAct_102 rfl ?_
                  refine r_bipush (pc := 103) X 49 dX12_readAct_103 (by decide) ?_
                  refine r_bipush (pc := 105) X 9 dX12_readAct_105 (by decide) ?_
                  obtain ⟨u142, eu142, et131⟩ := ob et131
                  obtain ⟨o143, eo143, et131⟩ := ob et131
                  refine r_callVI (pc := 107) X [.int 49, .int 9] dX12_readAct_107 ml_X12_159 vo_X12_oneOf ⟨Nat.le_refl _, Nat.le_refl _⟩ eu142 (ev_X12_oneOf (d := d - 1) (by omega) _ _ _ _ _ eo143) hd1 rfl (Nat.le_of_ble_eq_true rfl) rfl ?_
                  refine r_iconst (pc := 110) X 1 dX12_readAct_110 (by decide) ?_
                  refine r_iadd (pc := 111) X dX12_readAct_111 ?_
                  obtain ⟨h144, eh144, et131⟩ := ob et131
                  refine r_iast (pc := 112) X dX12_readAct_112 eh144 ?_
                  obtain rfl := Option.some.inj et131
                  exact Jt131
            · rw [if_neg c150] at hf
              refine r_aload_n (pc := 41) X dX12_readAct_41 rfl ?_
              refine r_aload_n (pc := 42) X dX12_readAct_42 rfl ?_
              obtain ⟨x147, ex147, hf⟩ := ob hf
              refine r_getI (pc := 43) X dX12_readAct_43 fl_X12_133 rfl ex147 ?_
              obtain ⟨u148, eu148, hf⟩ := ob hf
              obtain ⟨h149, eh149, hf⟩ := ob hf
              refine r_callVV (pc := 46) X [.int x147] dX12_readAct_46 ml_X12_155 vo_X12_fault ⟨Nat.le_refl _, Nat.le_refl _⟩ eu148 (ev_X12_fault (d := d - 1) (by omega) _ _ _ _ eh149) hd1 rfl (Nat.le_of_ble_eq_true rfl) rfl ?_
              obtain rfl := Option.some.inj hf
              exact r_vret (pc := 49) X dX12_readAct_49 hk

theorem dX12_act_0 : decode cX12_act 0 = .ok (.iload_n 1, 1) := by decide +kernel
theorem dX12_act_1 : decode cX12_act 1 = .ok (.tableswitch 179 98 112 #[129, 179, 179, 179, 179, 179, 179, 179, 179, 154, 86, 179, 75, 179, 86], 75) := by decide +kernel
theorem dX12_act_76 : decode cX12_act 76 = .ok (.aload_n 0, 1) := by decide +kernel
theorem dX12_act_77 : decode cX12_act 77 = .ok (.aload_n 0, 1) := by decide +kernel
theorem dX12_act_78 : decode cX12_act 78 = .ok (.getfield 9, 3) := by decide +kernel
theorem dX12_act_81 : decode cX12_act 81 = .ok (.iload_n 2, 1) := by decide +kernel
theorem dX12_act_82 : decode cX12_act 82 = .ok (.invokevirtual 267, 3) := by decide +kernel
theorem dX12_act_85 : decode cX12_act 85 = .ok (.iconst 1, 1) := by decide +kernel
theorem dX12_act_86 : decode cX12_act 86 = .ok (.ireturn, 1) := by decide +kernel
theorem dX12_act_87 : decode cX12_act 87 = .ok (.iload_n 1, 1) := by decide +kernel
theorem dX12_act_88 : decode cX12_act 88 = .ok (.bipush 112, 2) := by decide +kernel
theorem dX12_act_90 : decode cX12_act 90 = .ok (.if_icmp .ne 7, 3) := by decide +kernel
theorem dX12_act_93 : decode cX12_act 93 = .ok (.iload_n 3, 1) := by decide +kernel
theorem dX12_act_94 : decode cX12_act 94 = .ok (.goto 5, 3) := by decide +kernel
theorem dX12_act_97 : decode cX12_act 97 = .ok (.iload_n 3, 1) := by decide +kernel
theorem dX12_act_98 : decode cX12_act 98 = .ok (.ineg, 1) := by decide +kernel
theorem dX12_act_99 : decode cX12_act 99 = .ok (.istore 4, 2) := by decide +kernel
theorem dX12_act_101 : decode cX12_act 101 = .ok (.aload_n 0, 1) := by decide +kernel
theorem dX12_act_102 : decode cX12_act 102 = .ok (.aload_n 0, 1) := by decide +kernel
theorem dX12_act_103 : decode cX12_act 103 = .ok (.getfield 9, 3) := by decide +kernel
theorem dX12_act_106 : decode cX12_act 106 = .ok (.iload_n 2, 1) := by decide +kernel
theorem dX12_act_107 : decode cX12_act 107 = .ok (.iload 4, 2) := by decide +kernel
theorem dX12_act_109 : decode cX12_act 109 = .ok (.invokevirtual 281, 3) := by decide +kernel
theorem dX12_act_112 : decode cX12_act 112 = .ok (.ifCond .ge 5, 3) := by decide +kernel
theorem dX12_act_115 : decode cX12_act 115 = .ok (.iconst 0, 1) := by decide +kernel
theorem dX12_act_116 : decode cX12_act 116 = .ok (.ireturn, 1) := by decide +kernel
theorem dX12_act_117 : decode cX12_act 117 = .ok (.aload_n 0, 1) := by decide +kernel
theorem dX12_act_118 : decode cX12_act 118 = .ok (.getfield 9, 3) := by decide +kernel
theorem dX12_act_121 : decode cX12_act 121 = .ok (.iload_n 2, 1) := by decide +kernel
theorem dX12_act_122 : decode cX12_act 122 = .ok (.dup2, 1) := by decide +kernel
theorem dX12_act_123 : decode cX12_act 123 = .ok (.iaload, 1) := by decide +kernel
theorem dX12_act_124 : decode cX12_act 124 = .ok (.iload 4, 2) := by decide +kernel
theorem dX12_act_126 : decode cX12_act 126 = .ok (.iadd, 1) := by decide +kernel
theorem dX12_act_127 : decode cX12_act 127 = .ok (.iastore, 1) := by decide +kernel
theorem dX12_act_128 : decode cX12_act 128 = .ok (.iconst 1, 1) := by decide +kernel
theorem dX12_act_129 : decode cX12_act 129 = .ok (.ireturn, 1) := by decide +kernel
theorem dX12_act_130 : decode cX12_act 130 = .ok (.aload_n 0, 1) := by decide +kernel
theorem dX12_act_131 : decode cX12_act 131 = .ok (.aload_n 0, 1) := by decide +kernel
theorem dX12_act_132 : decode cX12_act 132 = .ok (.getfield 9, 3) := by decide +kernel
theorem dX12_act_135 : decode cX12_act 135 = .ok (.iload_n 2, 1) := by decide +kernel
theorem dX12_act_136 : decode cX12_act 136 = .ok (.invokevirtual 288, 3) := by decide +kernel
theorem dX12_act_139 : decode cX12_act 139 = .ok (.ifCond .ge 5, 3) := by decide +kernel
theorem dX12_act_142 : decode cX12_act 142 = .ok (.iconst 0, 1) := by decide +kernel
theorem dX12_act_143 : decode cX12_act 143 = .ok (.ireturn, 1) := by decide +kernel
theorem dX12_act_144 : decode cX12_act 144 = .ok (.aload_n 0, 1) := by decide +kernel
theorem dX12_act_145 : decode cX12_act 145 = .ok (.aload_n 0, 1) := by decide +kernel
theorem dX12_act_146 : decode cX12_act 146 = .ok (.getfield 9, 3) := by decide +kernel
theorem dX12_act_149 : decode cX12_act 149 = .ok (.iload_n 2, 1) := by decide +kernel
theorem dX12_act_150 : decode cX12_act 150 = .ok (.invokevirtual 291, 3) := by decide +kernel
theorem dX12_act_153 : decode cX12_act 153 = .ok (.iconst 1, 1) := by decide +kernel
theorem dX12_act_154 : decode cX12_act 154 = .ok (.ireturn, 1) := by decide +kernel
theorem dX12_act_155 : decode cX12_act 155 = .ok (.aload_n 0, 1) := by decide +kernel
theorem dX12_act_156 : decode cX12_act 156 = .ok (.iload_n 2, 1) := by decide +kernel
theorem dX12_act_157 : decode cX12_act 157 = .ok (.invokevirtual 233, 3) := by decide +kernel
theorem dX12_act_160 : decode cX12_act 160 = .ok (.ifCond .ne 5, 3) := by decide +kernel
theorem dX12_act_163 : decode cX12_act 163 = .ok (.iconst 0, 1) := by decide +kernel
theorem dX12_act_164 : decode cX12_act 164 = .ok (.ireturn, 1) := by decide +kernel
theorem dX12_act_165 : decode cX12_act 165 = .ok (.aload_n 0, 1) := by decide +kernel
theorem dX12_act_166 : decode cX12_act 166 = .ok (.getfield 9, 3) := by decide +kernel
theorem dX12_act_169 : decode cX12_act 169 = .ok (.bipush 13, 2) := by decide +kernel
theorem dX12_act_171 : decode cX12_act 171 = .ok (.dup2, 1) := by decide +kernel
theorem dX12_act_172 : decode cX12_act 172 = .ok (.iaload, 1) := by decide +kernel
theorem dX12_act_173 : decode cX12_act 173 = .ok (.iconst 1, 1) := by decide +kernel
theorem dX12_act_174 : decode cX12_act 174 = .ok (.iload_n 2, 1) := by decide +kernel
theorem dX12_act_175 : decode cX12_act 175 = .ok (.ishl, 1) := by decide +kernel
theorem dX12_act_176 : decode cX12_act 176 = .ok (.ixor, 1) := by decide +kernel
theorem dX12_act_177 : decode cX12_act 177 = .ok (.iastore, 1) := by decide +kernel
theorem dX12_act_178 : decode cX12_act 178 = .ok (.iconst 1, 1) := by decide +kernel
theorem dX12_act_179 : decode cX12_act 179 = .ok (.ireturn, 1) := by decide +kernel
theorem dX12_act_180 : decode cX12_act 180 = .ok (.aload_n 0, 1) := by decide +kernel
theorem dX12_act_181 : decode cX12_act 181 = .ok (.iload_n 2, 1) := by decide +kernel
theorem dX12_act_182 : decode cX12_act 182 = .ok (.iload_n 3, 1) := by decide +kernel
theorem dX12_act_183 : decode cX12_act 183 = .ok (.invokevirtual 294, 3) := by decide +kernel
theorem dX12_act_186 : decode cX12_act 186 = .ok (.ifCond .ge 5, 3) := by decide +kernel
theorem dX12_act_189 : decode cX12_act 189 = .ok (.iconst 0, 1) := by decide +kernel
theorem dX12_act_190 : decode cX12_act 190 = .ok (.ireturn, 1) := by decide +kernel
theorem dX12_act_191 : decode cX12_act 191 = .ok (.aload_n 0, 1) := by decide +kernel
theorem dX12_act_192 : decode cX12_act 192 = .ok (.getfield 9, 3) := by decide +kernel
theorem dX12_act_195 : decode cX12_act 195 = .ok (.bipush 6, 2) := by decide +kernel
theorem dX12_act_197 : decode cX12_act 197 = .ok (.iload_n 2, 1) := by decide +kernel
theorem dX12_act_198 : decode cX12_act 198 = .ok (.iadd, 1) := by decide +kernel
theorem dX12_act_199 : decode cX12_act 199 = .ok (.iload_n 3, 1) := by decide +kernel
theorem dX12_act_200 : decode cX12_act 200 = .ok (.iastore, 1) := by decide +kernel
theorem dX12_act_201 : decode cX12_act 201 = .ok (.iconst 1, 1) := by decide +kernel
theorem dX12_act_202 : decode cX12_act 202 = .ok (.ireturn, 1) := by decide +kernel
def fn_X12_act (h : aH) (p0 : Nat) (p1 : Int32) (p2 : Int32) (p3 : Int32) : Option (Int32 × aH) :=
  if p1 = 98 then
    (gR h p0 11 0).bind fun a2 =>
    (ck h p0 11).bind fun u3 =>
    (fn_X12_refusesBoat h p0 a2 p2).bind fun x4 =>
    if x4 < 0 then
      some (0, h)
    else
      (gR h p0 11 0).bind fun a5 =>
      (ck h p0 11).bind fun u6 =>
      (fn_X12_goBoat h p0 a5 p2).bind fun h7 =>
      some (1, h7)
  else
  if p1 = 99 then
    (ck h p0 11).bind fun u10 =>
    (fn_X12_refusesMark h p0 p2 p3).bind fun x11 =>
    if x11 < 0 then
      some (0, h)
    else
      (gR h p0 11 0).bind fun a12 =>
      (wI h a12 (6 + p2) p3).bind fun h13 =>
      some (1, h13)
  else
  if p1 = 100 then
    (ck h p0 11).bind fun u16 =>
    (fn_X12_refusesMark h p0 p2 p3).bind fun x17 =>
    if x17 < 0 then
      some (0, h)
    else
      (gR h p0 11 0).bind fun a18 =>
      (wI h a18 (6 + p2) p3).bind fun h19 =>
      some (1, h19)
  else
  if p1 = 101 then
    (ck h p0 11).bind fun u22 =>
    (fn_X12_refusesMark h p0 p2 p3).bind fun x23 =>
    if x23 < 0 then
      some (0, h)
    else
      (gR h p0 11 0).bind fun a24 =>
      (wI h a24 (6 + p2) p3).bind fun h25 =>
      some (1, h25)
  else
  if p1 = 102 then
    (ck h p0 11).bind fun u28 =>
    (fn_X12_refusesMark h p0 p2 p3).bind fun x29 =>
    if x29 < 0 then
      some (0, h)
    else
      (gR h p0 11 0).bind fun a30 =>
      (wI h a30 (6 + p2) p3).bind fun h31 =>
      some (1, h31)
  else
  if p1 = 103 then
    (ck h p0 11).bind fun u34 =>
    (fn_X12_refusesMark h p0 p2 p3).bind fun x35 =>
    if x35 < 0 then
      some (0, h)
    else
      (gR h p0 11 0).bind fun a36 =>
      (wI h a36 (6 + p2) p3).bind fun h37 =>
      some (1, h37)
  else
  if p1 = 104 then
    (ck h p0 11).bind fun u40 =>
    (fn_X12_refusesMark h p0 p2 p3).bind fun x41 =>
    if x41 < 0 then
      some (0, h)
    else
      (gR h p0 11 0).bind fun a42 =>
      (wI h a42 (6 + p2) p3).bind fun h43 =>
      some (1, h43)
  else
  if p1 = 105 then
    (ck h p0 11).bind fun u46 =>
    (fn_X12_refusesMark h p0 p2 p3).bind fun x47 =>
    if x47 < 0 then
      some (0, h)
    else
      (gR h p0 11 0).bind fun a48 =>
      (wI h a48 (6 + p2) p3).bind fun h49 =>
      some (1, h49)
  else
  if p1 = 106 then
    (ck h p0 11).bind fun u52 =>
    (fn_X12_refusesMark h p0 p2 p3).bind fun x53 =>
    if x53 < 0 then
      some (0, h)
    else
      (gR h p0 11 0).bind fun a54 =>
      (wI h a54 (6 + p2) p3).bind fun h55 =>
      some (1, h55)
  else
  if p1 = 107 then
    (ck h p0 11).bind fun u58 =>
    (fn_X12_isSluice h p0 p2).bind fun x59 =>
    if x59 = 0 then
      some (0, h)
    else
      (gR h p0 11 0).bind fun a60 =>
      (aI h a60 14 13).bind fun x61 =>
      (wI h a60 13 (x61 ^^^ (1 <<< (p2 &&& 31)))).bind fun h62 =>
      some (1, h62)
  else
  if p1 = 108 then
    ((
      if p1 = 112 then
        some p3
      else
        some (-p3)
    ) : Option (Int32)).bind fun t65 =>
    (gR h p0 11 0).bind fun a66 =>
    (ck h p0 11).bind fun u67 =>
    (fn_X12_refusesWater h p0 a66 p2 t65).bind fun x68 =>
    if x68 < 0 then
      some (0, h)
    else
      (gR h p0 11 0).bind fun a69 =>
      (aI h a69 14 p2).bind fun x70 =>
      (wI h a69 p2 (x70 + t65)).bind fun h71 =>
      some (1, h71)
  else
  if p1 = 109 then
    (ck h p0 11).bind fun u75 =>
    (fn_X12_refusesMark h p0 p2 p3).bind fun x76 =>
    if x76 < 0 then
      some (0, h)
    else
      (gR h p0 11 0).bind fun a77 =>
      (wI h a77 (6 + p2) p3).bind fun h78 =>
      some (1, h78)
  else
  if p1 = 110 then
    (gR h p0 11 0).bind fun a81 =>
    (ck h p0 11).bind fun u82 =>
    (fn_X12_goHours h p0 a81 p2).bind fun h83 =>
    some (1, h83)
  else
  if p1 = 111 then
    (ck h p0 11).bind fun u85 =>
    (fn_X12_refusesMark h p0 p2 p3).bind fun x86 =>
    if x86 < 0 then
      some (0, h)
    else
      (gR h p0 11 0).bind fun a87 =>
      (wI h a87 (6 + p2) p3).bind fun h88 =>
      some (1, h88)
  else
  if p1 = 112 then
    ((
      if p1 = 112 then
        some p3
      else
        some (-p3)
    ) : Option (Int32)).bind fun t91 =>
    (gR h p0 11 0).bind fun a92 =>
    (ck h p0 11).bind fun u93 =>
    (fn_X12_refusesWater h p0 a92 p2 t91).bind fun x94 =>
    if x94 < 0 then
      some (0, h)
    else
      (gR h p0 11 0).bind fun a95 =>
      (aI h a95 14 p2).bind fun x96 =>
      (wI h a95 p2 (x96 + t91)).bind fun h97 =>
      some (1, h97)
  else
  (ck h p0 11).bind fun u100 =>
  (fn_X12_refusesMark h p0 p2 p3).bind fun x101 =>
  if x101 < 0 then
    some (0, h)
  else
    (gR h p0 11 0).bind fun a102 =>
    (wI h a102 (6 + p2) p3).bind fun h103 =>
    some (1, h103)
set_option maxRecDepth 20000 in
set_option maxHeartbeats 4000000 in
theorem ev_X12_act {l : Launch} {g : aG} {d : Nat} (hd : 247 ≤ d) (h : aH) (p0 : Nat) (p1 : Int32) (p2 : Int32) (p3 : Int32) (o : Int32 × aH) (hf : fn_X12_act h p0 p1 p2 p3 = some o) : EvM l g d yX12_act cX12_act 5 (some .boolean) [.ref p0, .int p1, .int p2, .int p3] h (some (.int o.1), o.2) := by
  refine EvM.of mk_X12_act (Nat.le_of_ble_eq_true rfl) ?_
  intro Γ hl hg hq X
  have hd1 : 1 ≤ d := by omega
  have hk : RqI Γ o := hq
  unfold fn_X12_act at hf
  show Jd Γ (0, 0) 0 [some (.ref p0), some (.int p1), some (.int p2), some (.int p3), none] [] h
  refine r_iload_n (pc := 0) X dX12_act_0 rfl ?_
  by_cases c1 : p1 = 98
  · rw [if_pos c1] at hf
    refine r_tableIn (pc := 1) X 130 dX12_act_1 (by rw [c1] <;> decide) (by rw [c1] <;> decide) (by rw [c1] <;> rfl) (by decide) ?_
    refine r_aload_n (pc := 130) X dX12_act_130 rfl ?_
    refine r_aload_n (pc := 131) X dX12_act_131 rfl ?_
    obtain ⟨a2, ea2, hf⟩ := ob hf
    refine r_getR (pc := 132) X dX12_act_132 fl_X12_9 rfl ea2 ?_
    refine r_iload_n (pc := 135) X dX12_act_135 rfl ?_
    obtain ⟨u3, eu3, hf⟩ := ob hf
    obtain ⟨x4, ex4, hf⟩ := ob hf
    refine r_callVI (pc := 136) X [.ref a2, .int p2] dX12_act_136 ml_X12_288 vo_X12_refusesBoat ⟨Nat.le_refl _, Nat.le_refl _⟩ eu3 (ev_X12_refusesBoat (d := d - 1) (by omega) _ _ _ _ _ ex4) hd1 rfl (Nat.le_of_ble_eq_true rfl) rfl ?_
    refine r_if_ge (pc := 139) X 144 dX12_act_139 (by decide) (fun c8 => ?_) (fun c8 => ?_)
    · rw [if_neg c8] at hf
      refine r_aload_n (pc := 144) X dX12_act_144 rfl ?_
      refine r_aload_n (pc := 145) X dX12_act_145 rfl ?_
      obtain ⟨a5, ea5, hf⟩ := ob hf
      refine r_getR (pc := 146) X dX12_act_146 fl_X12_9 rfl ea5 ?_
      refine r_iload_n (pc := 149) X dX12_act_149 rfl ?_
      obtain ⟨u6, eu6, hf⟩ := ob hf
      obtain ⟨h7, eh7, hf⟩ := ob hf
      refine r_callVV (pc := 150) X [.ref a5, .int p2] dX12_act_150 ml_X12_291 vo_X12_goBoat ⟨Nat.le_refl _, Nat.le_refl _⟩ eu6 (ev_X12_goBoat (d := d - 1) (by omega) _ _ _ _ _ eh7) hd1 rfl (Nat.le_of_ble_eq_true rfl) rfl ?_
      refine r_iconst (pc := 153) X 1 dX12_act_153 (by decide) ?_
      obtain rfl := Option.some.inj hf
      exact r_zret (pc := 154) X dX12_act_154 (Or.inr rfl) hk
    · rw [if_pos c8] at hf
      refine r_iconst (pc := 142) X 0 dX12_act_142 (by decide) ?_
      obtain rfl := Option.some.inj hf
      exact r_zret (pc := 143) X dX12_act_143 (Or.inl rfl) hk
  rw [if_neg c1] at hf
  by_cases c9 : p1 = 99
  · rw [if_pos c9] at hf
    refine r_tableIn (pc := 1) X 180 dX12_act_1 (by rw [c9] <;> decide) (by rw [c9] <;> decide) (by rw [c9] <;> rfl) (by decide) ?_
    refine r_aload_n (pc := 180) X dX12_act_180 rfl ?_
    refine r_iload_n (pc := 181) X dX12_act_181 rfl ?_
    refine r_iload_n (pc := 182) X dX12_act_182 rfl ?_
    obtain ⟨u10, eu10, hf⟩ := ob hf
    obtain ⟨x11, ex11, hf⟩ := ob hf
    refine r_callVI (pc := 183) X [.int p2, .int p3] dX12_act_183 ml_X12_294 vo_X12_refusesMark ⟨Nat.le_refl _, Nat.le_refl _⟩ eu10 (ev_X12_refusesMark (d := d - 1) (by omega) _ _ _ _ _ ex11) hd1 rfl (Nat.le_of_ble_eq_true rfl) rfl ?_
    refine r_if_ge (pc := 186) X 191 dX12_act_186 (by decide) (fun c14 => ?_) (fun c14 => ?_)
    · rw [if_neg c14] at hf
      refine r_aload_n (pc := 191) X dX12_act_191 rfl ?_
      obtain ⟨a12, ea12, hf⟩ := ob hf
      refine r_getR (pc := 192) X dX12_act_192 fl_X12_9 rfl ea12 ?_
      refine r_bipush (pc := 195) X 6 dX12_act_195 (by decide) ?_
      refine r_iload_n (pc := 197) X dX12_act_197 rfl ?_
      refine r_iadd (pc := 198) X dX12_act_198 ?_
      refine r_iload_n (pc := 199) X dX12_act_199 rfl ?_
      obtain ⟨h13, eh13, hf⟩ := ob hf
      refine r_iast (pc := 200) X dX12_act_200 eh13 ?_
      refine r_iconst (pc := 201) X 1 dX12_act_201 (by decide) ?_
      obtain rfl := Option.some.inj hf
      exact r_zret (pc := 202) X dX12_act_202 (Or.inr rfl) hk
    · rw [if_pos c14] at hf
      refine r_iconst (pc := 189) X 0 dX12_act_189 (by decide) ?_
      obtain rfl := Option.some.inj hf
      exact r_zret (pc := 190) X dX12_act_190 (Or.inl rfl) hk
  rw [if_neg c9] at hf
  by_cases c15 : p1 = 100
  · rw [if_pos c15] at hf
    refine r_tableIn (pc := 1) X 180 dX12_act_1 (by rw [c15] <;> decide) (by rw [c15] <;> decide) (by rw [c15] <;> rfl) (by decide) ?_
    refine r_aload_n (pc := 180) X dX12_act_180 rfl ?_
    refine r_iload_n (pc := 181) X dX12_act_181 rfl ?_
    refine r_iload_n (pc := 182) X dX12_act_182 rfl ?_
    obtain ⟨u16, eu16, hf⟩ := ob hf
    obtain ⟨x17, ex17, hf⟩ := ob hf
    refine r_callVI (pc := 183) X [.int p2, .int p3] dX12_act_183 ml_X12_294 vo_X12_refusesMark ⟨Nat.le_refl _, Nat.le_refl _⟩ eu16 (ev_X12_refusesMark (d := d - 1) (by omega) _ _ _ _ _ ex17) hd1 rfl (Nat.le_of_ble_eq_true rfl) rfl ?_
    refine r_if_ge (pc := 186) X 191 dX12_act_186 (by decide) (fun c20 => ?_) (fun c20 => ?_)
    · rw [if_neg c20] at hf
      refine r_aload_n (pc := 191) X dX12_act_191 rfl ?_
      obtain ⟨a18, ea18, hf⟩ := ob hf
      refine r_getR (pc := 192) X dX12_act_192 fl_X12_9 rfl ea18 ?_
      refine r_bipush (pc := 195) X 6 dX12_act_195 (by decide) ?_
      refine r_iload_n (pc := 197) X dX12_act_197 rfl ?_
      refine r_iadd (pc := 198) X dX12_act_198 ?_
      refine r_iload_n (pc := 199) X dX12_act_199 rfl ?_
      obtain ⟨h19, eh19, hf⟩ := ob hf
      refine r_iast (pc := 200) X dX12_act_200 eh19 ?_
      refine r_iconst (pc := 201) X 1 dX12_act_201 (by decide) ?_
      obtain rfl := Option.some.inj hf
      exact r_zret (pc := 202) X dX12_act_202 (Or.inr rfl) hk
    · rw [if_pos c20] at hf
      refine r_iconst (pc := 189) X 0 dX12_act_189 (by decide) ?_
      obtain rfl := Option.some.inj hf
      exact r_zret (pc := 190) X dX12_act_190 (Or.inl rfl) hk
  rw [if_neg c15] at hf
  by_cases c21 : p1 = 101
  · rw [if_pos c21] at hf
    refine r_tableIn (pc := 1) X 180 dX12_act_1 (by rw [c21] <;> decide) (by rw [c21] <;> decide) (by rw [c21] <;> rfl) (by decide) ?_
    refine r_aload_n (pc := 180) X dX12_act_180 rfl ?_
    refine r_iload_n (pc := 181) X dX12_act_181 rfl ?_
    refine r_iload_n (pc := 182) X dX12_act_182 rfl ?_
    obtain ⟨u22, eu22, hf⟩ := ob hf
    obtain ⟨x23, ex23, hf⟩ := ob hf
    refine r_callVI (pc := 183) X [.int p2, .int p3] dX12_act_183 ml_X12_294 vo_X12_refusesMark ⟨Nat.le_refl _, Nat.le_refl _⟩ eu22 (ev_X12_refusesMark (d := d - 1) (by omega) _ _ _ _ _ ex23) hd1 rfl (Nat.le_of_ble_eq_true rfl) rfl ?_
    refine r_if_ge (pc := 186) X 191 dX12_act_186 (by decide) (fun c26 => ?_) (fun c26 => ?_)
    · rw [if_neg c26] at hf
      refine r_aload_n (pc := 191) X dX12_act_191 rfl ?_
      obtain ⟨a24, ea24, hf⟩ := ob hf
      refine r_getR (pc := 192) X dX12_act_192 fl_X12_9 rfl ea24 ?_
      refine r_bipush (pc := 195) X 6 dX12_act_195 (by decide) ?_
      refine r_iload_n (pc := 197) X dX12_act_197 rfl ?_
      refine r_iadd (pc := 198) X dX12_act_198 ?_
      refine r_iload_n (pc := 199) X dX12_act_199 rfl ?_
      obtain ⟨h25, eh25, hf⟩ := ob hf
      refine r_iast (pc := 200) X dX12_act_200 eh25 ?_
      refine r_iconst (pc := 201) X 1 dX12_act_201 (by decide) ?_
      obtain rfl := Option.some.inj hf
      exact r_zret (pc := 202) X dX12_act_202 (Or.inr rfl) hk
    · rw [if_pos c26] at hf
      refine r_iconst (pc := 189) X 0 dX12_act_189 (by decide) ?_
      obtain rfl := Option.some.inj hf
      exact r_zret (pc := 190) X dX12_act_190 (Or.inl rfl) hk
  rw [if_neg c21] at hf
  by_cases c27 : p1 = 102
  · rw [if_pos c27] at hf
    refine r_tableIn (pc := 1) X 180 dX12_act_1 (by rw [c27] <;> decide) (by rw [c27] <;> decide) (by rw [c27] <;> rfl) (by decide) ?_
    refine r_aload_n (pc := 180) X dX12_act_180 rfl ?_
    refine r_iload_n (pc := 181) X dX12_act_181 rfl ?_
    refine r_iload_n (pc := 182) X dX12_act_182 rfl ?_
    obtain ⟨u28, eu28, hf⟩ := ob hf
    obtain ⟨x29, ex29, hf⟩ := ob hf
    refine r_callVI (pc := 183) X [.int p2, .int p3] dX12_act_183 ml_X12_294 vo_X12_refusesMark ⟨Nat.le_refl _, Nat.le_refl _⟩ eu28 (ev_X12_refusesMark (d := d - 1) (by omega) _ _ _ _ _ ex29) hd1 rfl (Nat.le_of_ble_eq_true rfl) rfl ?_
    refine r_if_ge (pc := 186) X 191 dX12_act_186 (by decide) (fun c32 => ?_) (fun c32 => ?_)
    · rw [if_neg c32] at hf
      refine r_aload_n (pc := 191) X dX12_act_191 rfl ?_
      obtain ⟨a30, ea30, hf⟩ := ob hf
      refine r_getR (pc := 192) X dX12_act_192 fl_X12_9 rfl ea30 ?_
      refine r_bipush (pc := 195) X 6 dX12_act_195 (by decide) ?_
      refine r_iload_n (pc := 197) X dX12_act_197 rfl ?_
      refine r_iadd (pc := 198) X dX12_act_198 ?_
      refine r_iload_n (pc := 199) X dX12_act_199 rfl ?_
      obtain ⟨h31, eh31, hf⟩ := ob hf
      refine r_iast (pc := 200) X dX12_act_200 eh31 ?_
      refine r_iconst (pc := 201) X 1 dX12_act_201 (by decide) ?_
      obtain rfl := Option.some.inj hf
      exact r_zret (pc := 202) X dX12_act_202 (Or.inr rfl) hk
    · rw [if_pos c32] at hf
      refine r_iconst (pc := 189) X 0 dX12_act_189 (by decide) ?_
      obtain rfl := Option.some.inj hf
      exact r_zret (pc := 190) X dX12_act_190 (Or.inl rfl) hk
  rw [if_neg c27] at hf
  by_cases c33 : p1 = 103
  · rw [if_pos c33] at hf
    refine r_tableIn (pc := 1) X 180 dX12_act_1 (by rw [c33] <;> decide) (by rw [c33] <;> decide) (by rw [c33] <;> rfl) (by decide) ?_
    refine r_aload_n (pc := 180) X dX12_act_180 rfl ?_
    refine r_iload_n (pc := 181) X dX12_act_181 rfl ?_
    refine r_iload_n (pc := 182) X dX12_act_182 rfl ?_
    obtain ⟨u34, eu34, hf⟩ := ob hf
    obtain ⟨x35, ex35, hf⟩ := ob hf
    refine r_callVI (pc := 183) X [.int p2, .int p3] dX12_act_183 ml_X12_294 vo_X12_refusesMark ⟨Nat.le_refl _, Nat.le_refl _⟩ eu34 (ev_X12_refusesMark (d := d - 1) (by omega) _ _ _ _ _ ex35) hd1 rfl (Nat.le_of_ble_eq_true rfl) rfl ?_
    refine r_if_ge (pc := 186) X 191 dX12_act_186 (by decide) (fun c38 => ?_) (fun c38 => ?_)
    · rw [if_neg c38] at hf
      refine r_aload_n (pc := 191) X dX12_act_191 rfl ?_
      obtain ⟨a36, ea36, hf⟩ := ob hf
      refine r_getR (pc := 192) X dX12_act_192 fl_X12_9 rfl ea36 ?_
      refine r_bipush (pc := 195) X 6 dX12_act_195 (by decide) ?_
      refine r_iload_n (pc := 197) X dX12_act_197 rfl ?_
      refine r_iadd (pc := 198) X dX12_act_198 ?_
      refine r_iload_n (pc := 199) X dX12_act_199 rfl ?_
      obtain ⟨h37, eh37, hf⟩ := ob hf
      refine r_iast (pc := 200) X dX12_act_200 eh37 ?_
      refine r_iconst (pc := 201) X 1 dX12_act_201 (by decide) ?_
      obtain rfl := Option.some.inj hf
      exact r_zret (pc := 202) X dX12_act_202 (Or.inr rfl) hk
    · rw [if_pos c38] at hf
      refine r_iconst (pc := 189) X 0 dX12_act_189 (by decide) ?_
      obtain rfl := Option.some.inj hf
      exact r_zret (pc := 190) X dX12_act_190 (Or.inl rfl) hk
  rw [if_neg c33] at hf
  by_cases c39 : p1 = 104
  · rw [if_pos c39] at hf
    refine r_tableIn (pc := 1) X 180 dX12_act_1 (by rw [c39] <;> decide) (by rw [c39] <;> decide) (by rw [c39] <;> rfl) (by decide) ?_
    refine r_aload_n (pc := 180) X dX12_act_180 rfl ?_
    refine r_iload_n (pc := 181) X dX12_act_181 rfl ?_
    refine r_iload_n (pc := 182) X dX12_act_182 rfl ?_
    obtain ⟨u40, eu40, hf⟩ := ob hf
    obtain ⟨x41, ex41, hf⟩ := ob hf
    refine r_callVI (pc := 183) X [.int p2, .int p3] dX12_act_183 ml_X12_294 vo_X12_refusesMark ⟨Nat.le_refl _, Nat.le_refl _⟩ eu40 (ev_X12_refusesMark (d := d - 1) (by omega) _ _ _ _ _ ex41) hd1 rfl (Nat.le_of_ble_eq_true rfl) rfl ?_
    refine r_if_ge (pc := 186) X 191 dX12_act_186 (by decide) (fun c44 => ?_) (fun c44 => ?_)
    · rw [if_neg c44] at hf
      refine r_aload_n (pc := 191) X dX12_act_191 rfl ?_
      obtain ⟨a42, ea42, hf⟩ := ob hf
      refine r_getR (pc := 192) X dX12_act_192 fl_X12_9 rfl ea42 ?_
      refine r_bipush (pc := 195) X 6 dX12_act_195 (by decide) ?_
      refine r_iload_n (pc := 197) X dX12_act_197 rfl ?_
      refine r_iadd (pc := 198) X dX12_act_198 ?_
      refine r_iload_n (pc := 199) X dX12_act_199 rfl ?_
      obtain ⟨h43, eh43, hf⟩ := ob hf
      refine r_iast (pc := 200) X dX12_act_200 eh43 ?_
      refine r_iconst (pc := 201) X 1 dX12_act_201 (by decide) ?_
      obtain rfl := Option.some.inj hf
      exact r_zret (pc := 202) X dX12_act_202 (Or.inr rfl) hk
    · rw [if_pos c44] at hf
      refine r_iconst (pc := 189) X 0 dX12_act_189 (by decide) ?_
      obtain rfl := Option.some.inj hf
      exact r_zret (pc := 190) X dX12_act_190 (Or.inl rfl) hk
  rw [if_neg c39] at hf
  by_cases c45 : p1 = 105
  · rw [if_pos c45] at hf
    refine r_tableIn (pc := 1) X 180 dX12_act_1 (by rw [c45] <;> decide) (by rw [c45] <;> decide) (by rw [c45] <;> rfl) (by decide) ?_
    refine r_aload_n (pc := 180) X dX12_act_180 rfl ?_
    refine r_iload_n (pc := 181) X dX12_act_181 rfl ?_
    refine r_iload_n (pc := 182) X dX12_act_182 rfl ?_
    obtain ⟨u46, eu46, hf⟩ := ob hf
    obtain ⟨x47, ex47, hf⟩ := ob hf
    refine r_callVI (pc := 183) X [.int p2, .int p3] dX12_act_183 ml_X12_294 vo_X12_refusesMark ⟨Nat.le_refl _, Nat.le_refl _⟩ eu46 (ev_X12_refusesMark (d := d - 1) (by omega) _ _ _ _ _ ex47) hd1 rfl (Nat.le_of_ble_eq_true rfl) rfl ?_
    refine r_if_ge (pc := 186) X 191 dX12_act_186 (by decide) (fun c50 => ?_) (fun c50 => ?_)
    · rw [if_neg c50] at hf
      refine r_aload_n (pc := 191) X dX12_act_191 rfl ?_
      obtain ⟨a48, ea48, hf⟩ := ob hf
      refine r_getR (pc := 192) X dX12_act_192 fl_X12_9 rfl ea48 ?_
      refine r_bipush (pc := 195) X 6 dX12_act_195 (by decide) ?_
      refine r_iload_n (pc := 197) X dX12_act_197 rfl ?_
      refine r_iadd (pc := 198) X dX12_act_198 ?_
      refine r_iload_n (pc := 199) X dX12_act_199 rfl ?_
      obtain ⟨h49, eh49, hf⟩ := ob hf
      refine r_iast (pc := 200) X dX12_act_200 eh49 ?_
      refine r_iconst (pc := 201) X 1 dX12_act_201 (by decide) ?_
      obtain rfl := Option.some.inj hf
      exact r_zret (pc := 202) X dX12_act_202 (Or.inr rfl) hk
    · rw [if_pos c50] at hf
      refine r_iconst (pc := 189) X 0 dX12_act_189 (by decide) ?_
      obtain rfl := Option.some.inj hf
      exact r_zret (pc := 190) X dX12_act_190 (Or.inl rfl) hk
  rw [if_neg c45] at hf
  by_cases c51 : p1 = 106
  · rw [if_pos c51] at hf
    refine r_tableIn (pc := 1) X 180 dX12_act_1 (by rw [c51] <;> decide) (by rw [c51] <;> decide) (by rw [c51] <;> rfl) (by decide) ?_
    refine r_aload_n (pc := 180) X dX12_act_180 rfl ?_
    refine r_iload_n (pc := 181) X dX12_act_181 rfl ?_
    refine r_iload_n (pc := 182) X dX12_act_182 rfl ?_
    obtain ⟨u52, eu52, hf⟩ := ob hf
    obtain ⟨x53, ex53, hf⟩ := ob hf
    refine r_callVI (pc := 183) X [.int p2, .int p3] dX12_act_183 ml_X12_294 vo_X12_refusesMark ⟨Nat.le_refl _, Nat.le_refl _⟩ eu52 (ev_X12_refusesMark (d := d - 1) (by omega) _ _ _ _ _ ex53) hd1 rfl (Nat.le_of_ble_eq_true rfl) rfl ?_
    refine r_if_ge (pc := 186) X 191 dX12_act_186 (by decide) (fun c56 => ?_) (fun c56 => ?_)
    · rw [if_neg c56] at hf
      refine r_aload_n (pc := 191) X dX12_act_191 rfl ?_
      obtain ⟨a54, ea54, hf⟩ := ob hf
      refine r_getR (pc := 192) X dX12_act_192 fl_X12_9 rfl ea54 ?_
      refine r_bipush (pc := 195) X 6 dX12_act_195 (by decide) ?_
      refine r_iload_n (pc := 197) X dX12_act_197 rfl ?_
      refine r_iadd (pc := 198) X dX12_act_198 ?_
      refine r_iload_n (pc := 199) X dX12_act_199 rfl ?_
      obtain ⟨h55, eh55, hf⟩ := ob hf
      refine r_iast (pc := 200) X dX12_act_200 eh55 ?_
      refine r_iconst (pc := 201) X 1 dX12_act_201 (by decide) ?_
      obtain rfl := Option.some.inj hf
      exact r_zret (pc := 202) X dX12_act_202 (Or.inr rfl) hk
    · rw [if_pos c56] at hf
      refine r_iconst (pc := 189) X 0 dX12_act_189 (by decide) ?_
      obtain rfl := Option.some.inj hf
      exact r_zret (pc := 190) X dX12_act_190 (Or.inl rfl) hk
  rw [if_neg c51] at hf
  by_cases c57 : p1 = 107
  · rw [if_pos c57] at hf
    refine r_tableIn (pc := 1) X 155 dX12_act_1 (by rw [c57] <;> decide) (by rw [c57] <;> decide) (by rw [c57] <;> rfl) (by decide) ?_
    refine r_aload_n (pc := 155) X dX12_act_155 rfl ?_
    refine r_iload_n (pc := 156) X dX12_act_156 rfl ?_
    obtain ⟨u58, eu58, hf⟩ := ob hf
    obtain ⟨x59, ex59, hf⟩ := ob hf
    refine r_callVI (pc := 157) X [.int p2] dX12_act_157 ml_X12_233 vo_X12_isSluice ⟨Nat.le_refl _, Nat.le_refl _⟩ eu58 (ev_X12_isSluice (d := d - 1) (by omega) _ _ _ _ ex59) hd1 rfl (Nat.le_of_ble_eq_true rfl) rfl ?_
    refine r_if_ne (pc := 160) X 165 dX12_act_160 (by decide) (fun c63 => ?_) (fun c63 => ?_)
    · rw [if_neg c63] at hf
      refine r_aload_n (pc := 165) X dX12_act_165 rfl ?_
      obtain ⟨a60, ea60, hf⟩ := ob hf
      refine r_getR (pc := 166) X dX12_act_166 fl_X12_9 rfl ea60 ?_
      refine r_bipush (pc := 169) X 13 dX12_act_169 (by decide) ?_
      refine r_dup2 (pc := 171) X dX12_act_171 rfl rfl ?_
      obtain ⟨x61, ex61, hf⟩ := ob hf
      refine r_iald (pc := 172) X dX12_act_172 ex61 ?_
      refine r_iconst (pc := 173) X 1 dX12_act_173 (by decide) ?_
      refine r_iload_n (pc := 174) X dX12_act_174 rfl ?_
      refine r_ishl (pc := 175) X dX12_act_175 ?_
      refine r_ixor (pc := 176) X dX12_act_176 ?_
      obtain ⟨h62, eh62, hf⟩ := ob hf
      refine r_iast (pc := 177) X dX12_act_177 eh62 ?_
      refine r_iconst (pc := 178) X 1 dX12_act_178 (by decide) ?_
      obtain rfl := Option.some.inj hf
      exact r_zret (pc := 179) X dX12_act_179 (Or.inr rfl) hk
    · rw [if_pos c63] at hf
      refine r_iconst (pc := 163) X 0 dX12_act_163 (by decide) ?_
      obtain rfl := Option.some.inj hf
      exact r_zret (pc := 164) X dX12_act_164 (Or.inl rfl) hk
  rw [if_neg c57] at hf
  by_cases c64 : p1 = 108
  · rw [if_pos c64] at hf
    refine r_tableIn (pc := 1) X 87 dX12_act_1 (by rw [c64] <;> decide) (by rw [c64] <;> decide) (by rw [c64] <;> rfl) (by decide) ?_
    refine r_iload_n (pc := 87) X dX12_act_87 rfl ?_
    refine r_bipush (pc := 88) X 112 dX12_act_88 (by decide) ?_
    obtain ⟨t65, et65, hf⟩ := ob hf
    have Jt65 : Jd Γ (0, 0) 99 [some (.ref p0), some (.int p1), some (.int p2), some (.int p3), none] [.int t65] h := by
      refine r_istore (pc := 99) X [some (.ref p0), some (.int p1), some (.int p2), some (.int p3), some (.int t65)] dX12_act_99 (by decide) rfl ?_
      refine r_aload_n (pc := 101) X dX12_act_101 rfl ?_
      refine r_aload_n (pc := 102) X dX12_act_102 rfl ?_
      obtain ⟨a66, ea66, hf⟩ := ob hf
      refine r_getR (pc := 103) X dX12_act_103 fl_X12_9 rfl ea66 ?_
      refine r_iload_n (pc := 106) X dX12_act_106 rfl ?_
      refine r_iload (pc := 107) X dX12_act_107 rfl ?_
      obtain ⟨u67, eu67, hf⟩ := ob hf
      obtain ⟨x68, ex68, hf⟩ := ob hf
      refine r_callVI (pc := 109) X [.ref a66, .int p2, .int t65] dX12_act_109 ml_X12_281 vo_X12_refusesWater ⟨Nat.le_refl _, Nat.le_refl _⟩ eu67 (ev_X12_refusesWater (d := d - 1) (by omega) _ _ _ _ _ _ ex68) hd1 rfl (Nat.le_of_ble_eq_true rfl) rfl ?_
      refine r_if_ge (pc := 112) X 117 dX12_act_112 (by decide) (fun c72 => ?_) (fun c72 => ?_)
      · rw [if_neg c72] at hf
        refine r_aload_n (pc := 117) X dX12_act_117 rfl ?_
        obtain ⟨a69, ea69, hf⟩ := ob hf
        refine r_getR (pc := 118) X dX12_act_118 fl_X12_9 rfl ea69 ?_
        refine r_iload_n (pc := 121) X dX12_act_121 rfl ?_
        refine r_dup2 (pc := 122) X dX12_act_122 rfl rfl ?_
        obtain ⟨x70, ex70, hf⟩ := ob hf
        refine r_iald (pc := 123) X dX12_act_123 ex70 ?_
        refine r_iload (pc := 124) X dX12_act_124 rfl ?_
        refine r_iadd (pc := 126) X dX12_act_126 ?_
        obtain ⟨h71, eh71, hf⟩ := ob hf
        refine r_iast (pc := 127) X dX12_act_127 eh71 ?_
        refine r_iconst (pc := 128) X 1 dX12_act_128 (by decide) ?_
        obtain rfl := Option.some.inj hf
        exact r_zret (pc := 129) X dX12_act_129 (Or.inr rfl) hk
      · rw [if_pos c72] at hf
        refine r_iconst (pc := 115) X 0 dX12_act_115 (by decide) ?_
        obtain rfl := Option.some.inj hf
        exact r_zret (pc := 116) X dX12_act_116 (Or.inl rfl) hk
    refine r_icmp_ne (pc := 90) X 97 dX12_act_90 (by decide) (fun c73 => ?_) (fun c73 => ?_)
    · rw [if_neg c73] at et65
      refine r_iload_n (pc := 97) X dX12_act_97 rfl ?_
      refine r_ineg (pc := 98) X dX12_act_98 ?_
      obtain rfl := Option.some.inj et65
      exact Jt65
    · rw [if_pos c73] at et65
      refine r_iload_n (pc := 93) X dX12_act_93 rfl ?_
      refine r_goto (pc := 94) X 99 dX12_act_94 (by decide) ?_
      obtain rfl := Option.some.inj et65
      exact Jt65
  rw [if_neg c64] at hf
  by_cases c74 : p1 = 109
  · rw [if_pos c74] at hf
    refine r_tableIn (pc := 1) X 180 dX12_act_1 (by rw [c74] <;> decide) (by rw [c74] <;> decide) (by rw [c74] <;> rfl) (by decide) ?_
    refine r_aload_n (pc := 180) X dX12_act_180 rfl ?_
    refine r_iload_n (pc := 181) X dX12_act_181 rfl ?_
    refine r_iload_n (pc := 182) X dX12_act_182 rfl ?_
    obtain ⟨u75, eu75, hf⟩ := ob hf
    obtain ⟨x76, ex76, hf⟩ := ob hf
    refine r_callVI (pc := 183) X [.int p2, .int p3] dX12_act_183 ml_X12_294 vo_X12_refusesMark ⟨Nat.le_refl _, Nat.le_refl _⟩ eu75 (ev_X12_refusesMark (d := d - 1) (by omega) _ _ _ _ _ ex76) hd1 rfl (Nat.le_of_ble_eq_true rfl) rfl ?_
    refine r_if_ge (pc := 186) X 191 dX12_act_186 (by decide) (fun c79 => ?_) (fun c79 => ?_)
    · rw [if_neg c79] at hf
      refine r_aload_n (pc := 191) X dX12_act_191 rfl ?_
      obtain ⟨a77, ea77, hf⟩ := ob hf
      refine r_getR (pc := 192) X dX12_act_192 fl_X12_9 rfl ea77 ?_
      refine r_bipush (pc := 195) X 6 dX12_act_195 (by decide) ?_
      refine r_iload_n (pc := 197) X dX12_act_197 rfl ?_
      refine r_iadd (pc := 198) X dX12_act_198 ?_
      refine r_iload_n (pc := 199) X dX12_act_199 rfl ?_
      obtain ⟨h78, eh78, hf⟩ := ob hf
      refine r_iast (pc := 200) X dX12_act_200 eh78 ?_
      refine r_iconst (pc := 201) X 1 dX12_act_201 (by decide) ?_
      obtain rfl := Option.some.inj hf
      exact r_zret (pc := 202) X dX12_act_202 (Or.inr rfl) hk
    · rw [if_pos c79] at hf
      refine r_iconst (pc := 189) X 0 dX12_act_189 (by decide) ?_
      obtain rfl := Option.some.inj hf
      exact r_zret (pc := 190) X dX12_act_190 (Or.inl rfl) hk
  rw [if_neg c74] at hf
  by_cases c80 : p1 = 110
  · rw [if_pos c80] at hf
    refine r_tableIn (pc := 1) X 76 dX12_act_1 (by rw [c80] <;> decide) (by rw [c80] <;> decide) (by rw [c80] <;> rfl) (by decide) ?_
    refine r_aload_n (pc := 76) X dX12_act_76 rfl ?_
    refine r_aload_n (pc := 77) X dX12_act_77 rfl ?_
    obtain ⟨a81, ea81, hf⟩ := ob hf
    refine r_getR (pc := 78) X dX12_act_78 fl_X12_9 rfl ea81 ?_
    refine r_iload_n (pc := 81) X dX12_act_81 rfl ?_
    obtain ⟨u82, eu82, hf⟩ := ob hf
    obtain ⟨h83, eh83, hf⟩ := ob hf
    refine r_callVV (pc := 82) X [.ref a81, .int p2] dX12_act_82 ml_X12_267 vo_X12_goHours ⟨Nat.le_refl _, Nat.le_refl _⟩ eu82 (ev_X12_goHours (d := d - 1) (by omega) _ _ _ _ _ eh83) hd1 rfl (Nat.le_of_ble_eq_true rfl) rfl ?_
    refine r_iconst (pc := 85) X 1 dX12_act_85 (by decide) ?_
    obtain rfl := Option.some.inj hf
    exact r_zret (pc := 86) X dX12_act_86 (Or.inr rfl) hk
  rw [if_neg c80] at hf
  by_cases c84 : p1 = 111
  · rw [if_pos c84] at hf
    refine r_tableIn (pc := 1) X 180 dX12_act_1 (by rw [c84] <;> decide) (by rw [c84] <;> decide) (by rw [c84] <;> rfl) (by decide) ?_
    refine r_aload_n (pc := 180) X dX12_act_180 rfl ?_
    refine r_iload_n (pc := 181) X dX12_act_181 rfl ?_
    refine r_iload_n (pc := 182) X dX12_act_182 rfl ?_
    obtain ⟨u85, eu85, hf⟩ := ob hf
    obtain ⟨x86, ex86, hf⟩ := ob hf
    refine r_callVI (pc := 183) X [.int p2, .int p3] dX12_act_183 ml_X12_294 vo_X12_refusesMark ⟨Nat.le_refl _, Nat.le_refl _⟩ eu85 (ev_X12_refusesMark (d := d - 1) (by omega) _ _ _ _ _ ex86) hd1 rfl (Nat.le_of_ble_eq_true rfl) rfl ?_
    refine r_if_ge (pc := 186) X 191 dX12_act_186 (by decide) (fun c89 => ?_) (fun c89 => ?_)
    · rw [if_neg c89] at hf
      refine r_aload_n (pc := 191) X dX12_act_191 rfl ?_
      obtain ⟨a87, ea87, hf⟩ := ob hf
      refine r_getR (pc := 192) X dX12_act_192 fl_X12_9 rfl ea87 ?_
      refine r_bipush (pc := 195) X 6 dX12_act_195 (by decide) ?_
      refine r_iload_n (pc := 197) X dX12_act_197 rfl ?_
      refine r_iadd (pc := 198) X dX12_act_198 ?_
      refine r_iload_n (pc := 199) X dX12_act_199 rfl ?_
      obtain ⟨h88, eh88, hf⟩ := ob hf
      refine r_iast (pc := 200) X dX12_act_200 eh88 ?_
      refine r_iconst (pc := 201) X 1 dX12_act_201 (by decide) ?_
      obtain rfl := Option.some.inj hf
      exact r_zret (pc := 202) X dX12_act_202 (Or.inr rfl) hk
    · rw [if_pos c89] at hf
      refine r_iconst (pc := 189) X 0 dX12_act_189 (by decide) ?_
      obtain rfl := Option.some.inj hf
      exact r_zret (pc := 190) X dX12_act_190 (Or.inl rfl) hk
  rw [if_neg c84] at hf
  by_cases c90 : p1 = 112
  · rw [if_pos c90] at hf
    refine r_tableIn (pc := 1) X 87 dX12_act_1 (by rw [c90] <;> decide) (by rw [c90] <;> decide) (by rw [c90] <;> rfl) (by decide) ?_
    refine r_iload_n (pc := 87) X dX12_act_87 rfl ?_
    refine r_bipush (pc := 88) X 112 dX12_act_88 (by decide) ?_
    obtain ⟨t91, et91, hf⟩ := ob hf
    have Jt91 : Jd Γ (0, 0) 99 [some (.ref p0), some (.int p1), some (.int p2), some (.int p3), none] [.int t91] h := by
      refine r_istore (pc := 99) X [some (.ref p0), some (.int p1), some (.int p2), some (.int p3), some (.int t91)] dX12_act_99 (by decide) rfl ?_
      refine r_aload_n (pc := 101) X dX12_act_101 rfl ?_
      refine r_aload_n (pc := 102) X dX12_act_102 rfl ?_
      obtain ⟨a92, ea92, hf⟩ := ob hf
      refine r_getR (pc := 103) X dX12_act_103 fl_X12_9 rfl ea92 ?_
      refine r_iload_n (pc := 106) X dX12_act_106 rfl ?_
      refine r_iload (pc := 107) X dX12_act_107 rfl ?_
      obtain ⟨u93, eu93, hf⟩ := ob hf
      obtain ⟨x94, ex94, hf⟩ := ob hf
      refine r_callVI (pc := 109) X [.ref a92, .int p2, .int t91] dX12_act_109 ml_X12_281 vo_X12_refusesWater ⟨Nat.le_refl _, Nat.le_refl _⟩ eu93 (ev_X12_refusesWater (d := d - 1) (by omega) _ _ _ _ _ _ ex94) hd1 rfl (Nat.le_of_ble_eq_true rfl) rfl ?_
      refine r_if_ge (pc := 112) X 117 dX12_act_112 (by decide) (fun c98 => ?_) (fun c98 => ?_)
      · rw [if_neg c98] at hf
        refine r_aload_n (pc := 117) X dX12_act_117 rfl ?_
        obtain ⟨a95, ea95, hf⟩ := ob hf
        refine r_getR (pc := 118) X dX12_act_118 fl_X12_9 rfl ea95 ?_
        refine r_iload_n (pc := 121) X dX12_act_121 rfl ?_
        refine r_dup2 (pc := 122) X dX12_act_122 rfl rfl ?_
        obtain ⟨x96, ex96, hf⟩ := ob hf
        refine r_iald (pc := 123) X dX12_act_123 ex96 ?_
        refine r_iload (pc := 124) X dX12_act_124 rfl ?_
        refine r_iadd (pc := 126) X dX12_act_126 ?_
        obtain ⟨h97, eh97, hf⟩ := ob hf
        refine r_iast (pc := 127) X dX12_act_127 eh97 ?_
        refine r_iconst (pc := 128) X 1 dX12_act_128 (by decide) ?_
        obtain rfl := Option.some.inj hf
        exact r_zret (pc := 129) X dX12_act_129 (Or.inr rfl) hk
      · rw [if_pos c98] at hf
        refine r_iconst (pc := 115) X 0 dX12_act_115 (by decide) ?_
        obtain rfl := Option.some.inj hf
        exact r_zret (pc := 116) X dX12_act_116 (Or.inl rfl) hk
    refine r_icmp_ne (pc := 90) X 97 dX12_act_90 (by decide) (fun c99 => ?_) (fun c99 => ?_)
    · rw [if_neg c99] at et91
      refine r_iload_n (pc := 97) X dX12_act_97 rfl ?_
      refine r_ineg (pc := 98) X dX12_act_98 ?_
      obtain rfl := Option.some.inj et91
      exact Jt91
    · rw [if_pos c99] at et91
      refine r_iload_n (pc := 93) X dX12_act_93 rfl ?_
      refine r_goto (pc := 94) X 99 dX12_act_94 (by decide) ?_
      obtain rfl := Option.some.inj et91
      exact Jt91
  rw [if_neg c90] at hf
  have nc1 := lv_neT c1 (show (98 : Int32).toInt = 98 from by decide)
  have nc9 := lv_neT c9 (show (99 : Int32).toInt = 99 from by decide)
  have nc15 := lv_neT c15 (show (100 : Int32).toInt = 100 from by decide)
  have nc21 := lv_neT c21 (show (101 : Int32).toInt = 101 from by decide)
  have nc27 := lv_neT c27 (show (102 : Int32).toInt = 102 from by decide)
  have nc33 := lv_neT c33 (show (103 : Int32).toInt = 103 from by decide)
  have nc39 := lv_neT c39 (show (104 : Int32).toInt = 104 from by decide)
  have nc45 := lv_neT c45 (show (105 : Int32).toInt = 105 from by decide)
  have nc51 := lv_neT c51 (show (106 : Int32).toInt = 106 from by decide)
  have nc57 := lv_neT c57 (show (107 : Int32).toInt = 107 from by decide)
  have nc64 := lv_neT c64 (show (108 : Int32).toInt = 108 from by decide)
  have nc74 := lv_neT c74 (show (109 : Int32).toInt = 109 from by decide)
  have nc80 := lv_neT c80 (show (110 : Int32).toInt = 110 from by decide)
  have nc84 := lv_neT c84 (show (111 : Int32).toInt = 111 from by decide)
  have nc90 := lv_neT c90 (show (112 : Int32).toInt = 112 from by decide)
  refine r_tableOut (pc := 1) X 180 dX12_act_1 (by omega) (by decide) ?_
  refine r_aload_n (pc := 180) X dX12_act_180 rfl ?_
  refine r_iload_n (pc := 181) X dX12_act_181 rfl ?_
  refine r_iload_n (pc := 182) X dX12_act_182 rfl ?_
  obtain ⟨u100, eu100, hf⟩ := ob hf
  obtain ⟨x101, ex101, hf⟩ := ob hf
  refine r_callVI (pc := 183) X [.int p2, .int p3] dX12_act_183 ml_X12_294 vo_X12_refusesMark ⟨Nat.le_refl _, Nat.le_refl _⟩ eu100 (ev_X12_refusesMark (d := d - 1) (by omega) _ _ _ _ _ ex101) hd1 rfl (Nat.le_of_ble_eq_true rfl) rfl ?_
  refine r_if_ge (pc := 186) X 191 dX12_act_186 (by decide) (fun c104 => ?_) (fun c104 => ?_)
  · rw [if_neg c104] at hf
    refine r_aload_n (pc := 191) X dX12_act_191 rfl ?_
    obtain ⟨a102, ea102, hf⟩ := ob hf
    refine r_getR (pc := 192) X dX12_act_192 fl_X12_9 rfl ea102 ?_
    refine r_bipush (pc := 195) X 6 dX12_act_195 (by decide) ?_
    refine r_iload_n (pc := 197) X dX12_act_197 rfl ?_
    refine r_iadd (pc := 198) X dX12_act_198 ?_
    refine r_iload_n (pc := 199) X dX12_act_199 rfl ?_
    obtain ⟨h103, eh103, hf⟩ := ob hf
    refine r_iast (pc := 200) X dX12_act_200 eh103 ?_
    refine r_iconst (pc := 201) X 1 dX12_act_201 (by decide) ?_
    obtain rfl := Option.some.inj hf
    exact r_zret (pc := 202) X dX12_act_202 (Or.inr rfl) hk
  · rw [if_pos c104] at hf
    refine r_iconst (pc := 189) X 0 dX12_act_189 (by decide) ?_
    obtain rfl := Option.some.inj hf
    exact r_zret (pc := 190) X dX12_act_190 (Or.inl rfl) hk

theorem dX12_night_0 : decode cX12_night 0 = .ok (.aload_n 0, 1) := by decide +kernel
theorem dX12_night_1 : decode cX12_night 1 = .ok (.iconst 0, 1) := by decide +kernel
theorem dX12_night_2 : decode cX12_night 2 = .ok (.putfield 100, 3) := by decide +kernel
theorem dX12_night_5 : decode cX12_night 5 = .ok (.aload_n 0, 1) := by decide +kernel
theorem dX12_night_6 : decode cX12_night 6 = .ok (.bipush 60, 2) := by decide +kernel
theorem dX12_night_8 : decode cX12_night 8 = .ok (.invokevirtual 169, 3) := by decide +kernel
theorem dX12_night_11 : decode cX12_night 11 = .ok (.iconst 0, 1) := by decide +kernel
theorem dX12_night_12 : decode cX12_night 12 = .ok (.istore_n 1, 1) := by decide +kernel
theorem dX12_night_13 : decode cX12_night 13 = .ok (.aload_n 0, 1) := by decide +kernel
theorem dX12_night_14 : decode cX12_night 14 = .ok (.invokevirtual 143, 3) := by decide +kernel
theorem dX12_night_17 : decode cX12_night 17 = .ok (.ifCond .eq 27, 3) := by decide +kernel
theorem dX12_night_20 : decode cX12_night 20 = .ok (.aload_n 0, 1) := by decide +kernel
theorem dX12_night_21 : decode cX12_night 21 = .ok (.getfield 133, 3) := by decide +kernel
theorem dX12_night_24 : decode cX12_night 24 = .ok (.aload_n 0, 1) := by decide +kernel
theorem dX12_night_25 : decode cX12_night 25 = .ok (.getfield 127, 3) := by decide +kernel
theorem dX12_night_28 : decode cX12_night 28 = .ok (.if_icmp .ge 16, 3) := by decide +kernel
theorem dX12_night_31 : decode cX12_night 31 = .ok (.aload_n 0, 1) := by decide +kernel
theorem dX12_night_32 : decode cX12_night 32 = .ok (.iconst 3, 1) := by decide +kernel
theorem dX12_night_33 : decode cX12_night 33 = .ok (.iload_n 1, 1) := by decide +kernel
theorem dX12_night_34 : decode cX12_night 34 = .ok (.imul, 1) := by decide +kernel
theorem dX12_night_35 : decode cX12_night 35 = .ok (.invokevirtual 297, 3) := by decide +kernel
theorem dX12_night_38 : decode cX12_night 38 = .ok (.iinc 1 1, 3) := by decide +kernel
theorem dX12_night_41 : decode cX12_night 41 = .ok (.goto (-28), 3) := by decide +kernel
theorem dX12_night_44 : decode cX12_night 44 = .ok (.aload_n 0, 1) := by decide +kernel
theorem dX12_night_45 : decode cX12_night 45 = .ok (.invokevirtual 172, 3) := by decide +kernel
theorem dX12_night_48 : decode cX12_night 48 = .ok (.ifCond .ne 10, 3) := by decide +kernel
theorem dX12_night_51 : decode cX12_night 51 = .ok (.iconst (-1), 1) := by decide +kernel
theorem dX12_night_52 : decode cX12_night 52 = .ok (.aload_n 0, 1) := by decide +kernel
theorem dX12_night_53 : decode cX12_night 53 = .ok (.getfield 136, 3) := by decide +kernel
theorem dX12_night_56 : decode cX12_night 56 = .ok (.isub, 1) := by decide +kernel
theorem dX12_night_57 : decode cX12_night 57 = .ok (.ireturn, 1) := by decide +kernel
theorem dX12_night_58 : decode cX12_night 58 = .ok (.aload_n 0, 1) := by decide +kernel
theorem dX12_night_59 : decode cX12_night 59 = .ok (.getfield 9, 3) := by decide +kernel
theorem dX12_night_62 : decode cX12_night 62 = .ok (.aload_n 0, 1) := by decide +kernel
theorem dX12_night_63 : decode cX12_night 63 = .ok (.getfield 45, 3) := by decide +kernel
theorem dX12_night_66 : decode cX12_night 66 = .ok (.iconst 0, 1) := by decide +kernel
theorem dX12_night_67 : decode cX12_night 67 = .ok (.invokestatic 242, 3) := by decide +kernel
theorem dX12_night_70 : decode cX12_night 70 = .ok (.iconst 0, 1) := by decide +kernel
theorem dX12_night_71 : decode cX12_night 71 = .ok (.istore_n 2, 1) := by decide +kernel
theorem dX12_night_72 : decode cX12_night 72 = .ok (.iload_n 2, 1) := by decide +kernel
theorem dX12_night_73 : decode cX12_night 73 = .ok (.iload_n 1, 1) := by decide +kernel
theorem dX12_night_74 : decode cX12_night 74 = .ok (.if_icmp .ge 44, 3) := by decide +kernel
theorem dX12_night_77 : decode cX12_night 77 = .ok (.aload_n 0, 1) := by decide +kernel
theorem dX12_night_78 : decode cX12_night 78 = .ok (.aload_n 0, 1) := by decide +kernel
theorem dX12_night_79 : decode cX12_night 79 = .ok (.getfield 54, 3) := by decide +kernel
theorem dX12_night_82 : decode cX12_night 82 = .ok (.iconst 3, 1) := by decide +kernel
theorem dX12_night_83 : decode cX12_night 83 = .ok (.iload_n 2, 1) := by decide +kernel
theorem dX12_night_84 : decode cX12_night 84 = .ok (.imul, 1) := by decide +kernel
theorem dX12_night_85 : decode cX12_night 85 = .ok (.iaload, 1) := by decide +kernel
theorem dX12_night_86 : decode cX12_night 86 = .ok (.aload_n 0, 1) := by decide +kernel
theorem dX12_night_87 : decode cX12_night 87 = .ok (.getfield 54, 3) := by decide +kernel
theorem dX12_night_90 : decode cX12_night 90 = .ok (.iconst 3, 1) := by decide +kernel
theorem dX12_night_91 : decode cX12_night 91 = .ok (.iload_n 2, 1) := by decide +kernel
theorem dX12_night_92 : decode cX12_night 92 = .ok (.imul, 1) := by decide +kernel
theorem dX12_night_93 : decode cX12_night 93 = .ok (.iconst 1, 1) := by decide +kernel
theorem dX12_night_94 : decode cX12_night 94 = .ok (.iadd, 1) := by decide +kernel
theorem dX12_night_95 : decode cX12_night 95 = .ok (.iaload, 1) := by decide +kernel
theorem dX12_night_96 : decode cX12_night 96 = .ok (.aload_n 0, 1) := by decide +kernel
theorem dX12_night_97 : decode cX12_night 97 = .ok (.getfield 54, 3) := by decide +kernel
theorem dX12_night_100 : decode cX12_night 100 = .ok (.iconst 3, 1) := by decide +kernel
theorem dX12_night_101 : decode cX12_night 101 = .ok (.iload_n 2, 1) := by decide +kernel
theorem dX12_night_102 : decode cX12_night 102 = .ok (.imul, 1) := by decide +kernel
theorem dX12_night_103 : decode cX12_night 103 = .ok (.iconst 2, 1) := by decide +kernel
theorem dX12_night_104 : decode cX12_night 104 = .ok (.iadd, 1) := by decide +kernel
theorem dX12_night_105 : decode cX12_night 105 = .ok (.iaload, 1) := by decide +kernel
theorem dX12_night_106 : decode cX12_night 106 = .ok (.invokevirtual 300, 3) := by decide +kernel
theorem dX12_night_109 : decode cX12_night 109 = .ok (.ifCond .eq 9, 3) := by decide +kernel
theorem dX12_night_112 : decode cX12_night 112 = .ok (.iinc 2 1, 3) := by decide +kernel
theorem dX12_night_115 : decode cX12_night 115 = .ok (.goto (-43), 3) := by decide +kernel
theorem dX12_night_118 : decode cX12_night 118 = .ok (.iload_n 2, 1) := by decide +kernel
theorem dX12_night_119 : decode cX12_night 119 = .ok (.ifCond .le 11, 3) := by decide +kernel
theorem dX12_night_122 : decode cX12_night 122 = .ok (.aload_n 0, 1) := by decide +kernel
theorem dX12_night_123 : decode cX12_night 123 = .ok (.aload_n 0, 1) := by decide +kernel
theorem dX12_night_124 : decode cX12_night 124 = .ok (.getfield 45, 3) := by decide +kernel
theorem dX12_night_127 : decode cX12_night 127 = .ok (.invokevirtual 271, 3) := by decide +kernel
theorem dX12_night_130 : decode cX12_night 130 = .ok (.aload_n 0, 1) := by decide +kernel
theorem dX12_night_131 : decode cX12_night 131 = .ok (.iconst 0, 1) := by decide +kernel
theorem dX12_night_132 : decode cX12_night 132 = .ok (.putfield 104, 3) := by decide +kernel
theorem dX12_night_135 : decode cX12_night 135 = .ok (.aload_n 0, 1) := by decide +kernel
theorem dX12_night_136 : decode cX12_night 136 = .ok (.iload_n 2, 1) := by decide +kernel
theorem dX12_night_137 : decode cX12_night 137 = .ok (.iload_n 1, 1) := by decide +kernel
theorem dX12_night_138 : decode cX12_night 138 = .ok (.if_icmp .ge 7, 3) := by decide +kernel
theorem dX12_night_141 : decode cX12_night 141 = .ok (.lconst 1, 1) := by decide +kernel
theorem dX12_night_142 : decode cX12_night 142 = .ok (.goto 4, 3) := by decide +kernel
theorem dX12_night_145 : decode cX12_night 145 = .ok (.lconst 0, 1) := by decide +kernel
theorem dX12_night_146 : decode cX12_night 146 = .ok (.invokevirtual 274, 3) := by decide +kernel
theorem dX12_night_149 : decode cX12_night 149 = .ok (.aload_n 0, 1) := by decide +kernel
theorem dX12_night_150 : decode cX12_night 150 = .ok (.aload_n 0, 1) := by decide +kernel
theorem dX12_night_151 : decode cX12_night 151 = .ok (.aload_n 0, 1) := by decide +kernel
theorem dX12_night_152 : decode cX12_night 152 = .ok (.getfield 9, 3) := by decide +kernel
theorem dX12_night_155 : decode cX12_night 155 = .ok (.iconst 0, 1) := by decide +kernel
theorem dX12_night_156 : decode cX12_night 156 = .ok (.invokevirtual 239, 3) := by decide +kernel
theorem dX12_night_159 : decode cX12_night 159 = .ok (.i2l, 1) := by decide +kernel
theorem dX12_night_160 : decode cX12_night 160 = .ok (.invokevirtual 274, 3) := by decide +kernel
theorem dX12_night_163 : decode cX12_night 163 = .ok (.iload_n 2, 1) := by decide +kernel
theorem dX12_night_164 : decode cX12_night 164 = .ok (.ireturn, 1) := by decide +kernel
def lb_X12_night_13 (v0 : Nat) (s : Int32 × aH) : Option ((Int32 × aH) ⊕ ((Int32 × aH))) :=
  (ck s.2 v0 11).bind fun u4 =>
  (fn_X12_fine s.2 v0).bind fun x5 =>
  if x5 = 0 then
    some (.inr (s.1, s.2))
  else
    (gI s.2 v0 11 15).bind fun x6 =>
    (gI s.2 v0 11 13).bind fun x7 =>
    if x6 < x7 then
      (ck s.2 v0 11).bind fun u8 =>
      (fn_X12_readAct s.2 v0 (3 * s.1)).bind fun h9 =>
      (some (s.1 + 1)).bind fun x10 =>
      some (.inl (x10, h9))
    else
      some (.inr (s.1, s.2))
def hd_X12_night_13 (Γ : aC) (v0 : Nat) (s : Int32 × aH) : Prop := ∀ (j2 : Option Value), Jd Γ (0, 0) 13 [some (.ref v0), some (.int s.1), j2] [] s.2
def ex_X12_night_13 (Γ : aC) (v0 : Nat) (r : (Int32 × aH)) : Prop := (fun r => ∀ (j2 : Option Value), Jd Γ (0, 0) 44 [some (.ref v0), some (.int r.1), j2] [] r.2) r
set_option maxRecDepth 20000 in
set_option maxHeartbeats 4000000 in
theorem lw_X12_night_13 {Γ : aC} {d : Nat} (X : Cx Γ RX12 cX12_night 3 (some .int) (d, 0, 0)) (hd : 248 ≤ d) (v0 : Nat) : ∀ n s o, lp (lb_X12_night_13 v0) n s = some o → ex_X12_night_13 Γ v0 o → hd_X12_night_13 Γ v0 s := by
  have hd1 : 1 ≤ d := by omega
  refine J_lp _ _ _ ?_
  intro s o hf hk j2
  unfold lb_X12_night_13 at hf
  refine r_aload_n (pc := 13) X dX12_night_13 rfl ?_
  obtain ⟨u4, eu4, hf⟩ := ob hf
  obtain ⟨x5, ex5, hf⟩ := ob hf
  refine r_callVI (pc := 14) X [] dX12_night_14 ml_X12_143 vo_X12_fine ⟨Nat.le_refl _, Nat.le_refl _⟩ eu4 (ev_X12_fine (d := d - 1) (by omega) _ _ _ ex5) hd1 rfl (Nat.le_of_ble_eq_true rfl) rfl ?_
  refine r_if_eq (pc := 17) X 44 dX12_night_17 (by decide) (fun c12 => ?_) (fun c12 => ?_)
  · rw [if_pos c12] at hf
    obtain rfl := Option.some.inj hf
    exact hk _
  · rw [if_neg c12] at hf
    refine r_aload_n (pc := 20) X dX12_night_20 rfl ?_
    obtain ⟨x6, ex6, hf⟩ := ob hf
    refine r_getI (pc := 21) X dX12_night_21 fl_X12_133 rfl ex6 ?_
    refine r_aload_n (pc := 24) X dX12_night_24 rfl ?_
    obtain ⟨x7, ex7, hf⟩ := ob hf
    refine r_getI (pc := 25) X dX12_night_25 fl_X12_127 rfl ex7 ?_
    refine r_icmp_ge (pc := 28) X 44 dX12_night_28 (by decide) (fun c11 => ?_) (fun c11 => ?_)
    · rw [if_neg c11] at hf
      obtain rfl := Option.some.inj hf
      exact hk _
    · rw [if_pos c11] at hf
      refine r_aload_n (pc := 31) X dX12_night_31 rfl ?_
      refine r_iconst (pc := 32) X 3 dX12_night_32 (by decide) ?_
      refine r_iload_n (pc := 33) X dX12_night_33 rfl ?_
      refine r_imul (pc := 34) X dX12_night_34 ?_
      obtain ⟨u8, eu8, hf⟩ := ob hf
      obtain ⟨h9, eh9, hf⟩ := ob hf
      refine r_callVV (pc := 35) X [.int (3 * s.1)] dX12_night_35 ml_X12_297 vo_X12_readAct ⟨Nat.le_refl _, Nat.le_refl _⟩ eu8 (ev_X12_readAct (d := d - 1) (by omega) _ _ _ _ eh9) hd1 rfl (Nat.le_of_ble_eq_true rfl) rfl ?_
      obtain ⟨x10, ex10, hf⟩ := ob hf
      refine r_iinc2 (pc := 38) X 1 [some (.ref v0), some (.int x10), j2] dX12_night_38 (by decide) rfl (by decide) ex10 rfl ?_
      refine r_goto (pc := 41) X 13 dX12_night_41 (by decide) ?_
      obtain rfl := Option.some.inj hf
      exact hk _
def lb_X12_night_72 (v0 : Nat) (v1 : Int32) (s : Int32 × aH) : Option ((Int32 × aH) ⊕ ((Int32 × aH))) :=
  if s.1 < v1 then
    (gR s.2 v0 11 30).bind fun a20 =>
    (aI s.2 a20 14 (3 * s.1)).bind fun x21 =>
    (gR s.2 v0 11 30).bind fun a22 =>
    (aI s.2 a22 14 ((3 * s.1) + 1)).bind fun x23 =>
    (gR s.2 v0 11 30).bind fun a24 =>
    (aI s.2 a24 14 ((3 * s.1) + 2)).bind fun x25 =>
    (ck s.2 v0 11).bind fun u26 =>
    (fn_X12_act s.2 v0 x21 x23 x25).bind fun o27 =>
    if o27.1 = 0 then
      some (.inr (s.1, o27.2))
    else
      (some (s.1 + 1)).bind fun x28 =>
      some (.inl (x28, o27.2))
  else
    some (.inr (s.1, s.2))
def hd_X12_night_72 (Γ : aC) (v0 : Nat) (v1 : Int32) (s : Int32 × aH) : Prop := Jd Γ (0, 0) 72 [some (.ref v0), some (.int v1), some (.int s.1)] [] s.2
def ex_X12_night_72 (Γ : aC) (v0 : Nat) (v1 : Int32) (r : (Int32 × aH)) : Prop := (fun r => Jd Γ (0, 0) 118 [some (.ref v0), some (.int v1), some (.int r.1)] [] r.2) r
set_option maxRecDepth 20000 in
set_option maxHeartbeats 4000000 in
theorem lw_X12_night_72 {Γ : aC} {d : Nat} (X : Cx Γ RX12 cX12_night 3 (some .int) (d, 0, 0)) (hd : 248 ≤ d) (v0 : Nat) (v1 : Int32) : ∀ n s o, lp (lb_X12_night_72 v0 v1) n s = some o → ex_X12_night_72 Γ v0 v1 o → hd_X12_night_72 Γ v0 v1 s := by
  have hd1 : 1 ≤ d := by omega
  refine J_lp _ _ _ ?_
  intro s o hf hk
  unfold lb_X12_night_72 at hf
  refine r_iload_n (pc := 72) X dX12_night_72 rfl ?_
  refine r_iload_n (pc := 73) X dX12_night_73 rfl ?_
  refine r_icmp_ge (pc := 74) X 118 dX12_night_74 (by decide) (fun c30 => ?_) (fun c30 => ?_)
  · rw [if_neg c30] at hf
    obtain rfl := Option.some.inj hf
    exact hk
  · rw [if_pos c30] at hf
    refine r_aload_n (pc := 77) X dX12_night_77 rfl ?_
    refine r_aload_n (pc := 78) X dX12_night_78 rfl ?_
    obtain ⟨a20, ea20, hf⟩ := ob hf
    refine r_getR (pc := 79) X dX12_night_79 fl_X12_54 rfl ea20 ?_
    refine r_iconst (pc := 82) X 3 dX12_night_82 (by decide) ?_
    refine r_iload_n (pc := 83) X dX12_night_83 rfl ?_
    refine r_imul (pc := 84) X dX12_night_84 ?_
    obtain ⟨x21, ex21, hf⟩ := ob hf
    refine r_iald (pc := 85) X dX12_night_85 ex21 ?_
    refine r_aload_n (pc := 86) X dX12_night_86 rfl ?_
    obtain ⟨a22, ea22, hf⟩ := ob hf
    refine r_getR (pc := 87) X dX12_night_87 fl_X12_54 rfl ea22 ?_
    refine r_iconst (pc := 90) X 3 dX12_night_90 (by decide) ?_
    refine r_iload_n (pc := 91) X dX12_night_91 rfl ?_
    refine r_imul (pc := 92) X dX12_night_92 ?_
    refine r_iconst (pc := 93) X 1 dX12_night_93 (by decide) ?_
    refine r_iadd (pc := 94) X dX12_night_94 ?_
    obtain ⟨x23, ex23, hf⟩ := ob hf
    refine r_iald (pc := 95) X dX12_night_95 ex23 ?_
    refine r_aload_n (pc := 96) X dX12_night_96 rfl ?_
    obtain ⟨a24, ea24, hf⟩ := ob hf
    refine r_getR (pc := 97) X dX12_night_97 fl_X12_54 rfl ea24 ?_
    refine r_iconst (pc := 100) X 3 dX12_night_100 (by decide) ?_
    refine r_iload_n (pc := 101) X dX12_night_101 rfl ?_
    refine r_imul (pc := 102) X dX12_night_102 ?_
    refine r_iconst (pc := 103) X 2 dX12_night_103 (by decide) ?_
    refine r_iadd (pc := 104) X dX12_night_104 ?_
    obtain ⟨x25, ex25, hf⟩ := ob hf
    refine r_iald (pc := 105) X dX12_night_105 ex25 ?_
    obtain ⟨u26, eu26, hf⟩ := ob hf
    obtain ⟨o27, eo27, hf⟩ := ob hf
    refine r_callVI (pc := 106) X [.int x21, .int x23, .int x25] dX12_night_106 ml_X12_300 vo_X12_act ⟨Nat.le_refl _, Nat.le_refl _⟩ eu26 (ev_X12_act (d := d - 1) (by omega) _ _ _ _ _ _ eo27) hd1 rfl (Nat.le_of_ble_eq_true rfl) rfl ?_
    refine r_if_eq (pc := 109) X 118 dX12_night_109 (by decide) (fun c29 => ?_) (fun c29 => ?_)
    · rw [if_pos c29] at hf
      obtain rfl := Option.some.inj hf
      exact hk
    · rw [if_neg c29] at hf
      obtain ⟨x28, ex28, hf⟩ := ob hf
      refine r_iinc2 (pc := 112) X 1 [some (.ref v0), some (.int v1), some (.int x28)] dX12_night_112 (by decide) rfl (by decide) ex28 rfl ?_
      refine r_goto (pc := 115) X 72 dX12_night_115 (by decide) ?_
      obtain rfl := Option.some.inj hf
      exact hk
def fn_X12_night (h : aH) (p0 : Nat) : Option (Int32 × aH) :=
  (pI h p0 11 11 0).bind fun h1 =>
  (ck h1 p0 11).bind fun u2 =>
  (fn_X12_beginText h1 p0 60).bind fun h3 =>
  (lp (lb_X12_night_13 p0) lpN (0, h3)).bind fun o13 =>
  (ck o13.2 p0 11).bind fun u15 =>
  (fn_X12_wasRight o13.2 p0).bind fun o16 =>
  if o16.1 = 0 then
    (gI o16.2 p0 11 16).bind fun x47 =>
    some (((-1) - x47), o16.2)
  else
    (gR o16.2 p0 11 0).bind fun a17 =>
    (gR o16.2 p0 11 25).bind fun a18 =>
    (fn_X12_lay o16.2 a17 a18 0).bind fun h19 =>
    (lp (lb_X12_night_72 p0 o13.1) lpN (0, h19)).bind fun o31 =>
    ((
      if o31.1 ≤ 0 then
        some o31.2
      else
        (gR o31.2 p0 11 25).bind fun a43 =>
        (ck o31.2 p0 11).bind fun u44 =>
        (fn_X12_remember o31.2 p0 a43).bind fun h45 =>
        some h45
    ) : Option (aH)).bind fun t32 =>
    (pI t32 p0 11 10 0).bind fun h33 =>
    ((
      if o31.1 < o13.1 then
        some 1
      else
        some 0
    ) : Option (Int64)).bind fun t34 =>
    (ck h33 p0 11).bind fun u35 =>
    (fn_X12_tell h33 p0 t34).bind fun h36 =>
    (gR h36 p0 11 0).bind fun a37 =>
    (ck h36 p0 11).bind fun u38 =>
    (fn_X12_sumOf h36 p0 a37 0).bind fun x39 =>
    (ck h36 p0 11).bind fun u40 =>
    (fn_X12_tell h36 p0 (Int32.toInt64 x39)).bind fun h41 =>
    some (o31.1, h41)
set_option maxRecDepth 20000 in
set_option maxHeartbeats 4000000 in
theorem ev_X12_night {l : Launch} {g : aG} {d : Nat} (hd : 248 ≤ d) (h : aH) (p0 : Nat) (o : Int32 × aH) (hf : fn_X12_night h p0 = some o) : EvM l g d yX12_night cX12_night 3 (some .int) [.ref p0] h (some (.int o.1), o.2) := by
  refine EvM.of mk_X12_night (Nat.le_of_ble_eq_true rfl) ?_
  intro Γ hl hg hq X
  have hd1 : 1 ≤ d := by omega
  have hk : RqI Γ o := hq
  unfold fn_X12_night at hf
  show Jd Γ (0, 0) 0 [some (.ref p0), none, none] [] h
  refine r_aload_n (pc := 0) X dX12_night_0 rfl ?_
  refine r_iconst (pc := 1) X 0 dX12_night_1 (by decide) ?_
  obtain ⟨h1, eh1, hf⟩ := ob hf
  refine r_putI (pc := 2) X dX12_night_2 fp_X12_100 rfl eh1 ?_
  refine r_aload_n (pc := 5) X dX12_night_5 rfl ?_
  refine r_bipush (pc := 6) X 60 dX12_night_6 (by decide) ?_
  obtain ⟨u2, eu2, hf⟩ := ob hf
  obtain ⟨h3, eh3, hf⟩ := ob hf
  refine r_callVV (pc := 8) X [.int 60] dX12_night_8 ml_X12_169 vo_X12_beginText ⟨Nat.le_refl _, Nat.le_refl _⟩ eu2 (ev_X12_beginText (d := d - 1) (by omega) _ _ _ _ eh3) hd1 rfl (Nat.le_of_ble_eq_true rfl) rfl ?_
  refine r_iconst (pc := 11) X 0 dX12_night_11 (by decide) ?_
  refine r_istore_n (pc := 12) X [some (.ref p0), some (.int 0), none] dX12_night_12 (by decide) rfl ?_
  obtain ⟨o13, eo13, hf⟩ := ob hf
  refine (lw_X12_night_13 X hd _ lpN _ o13 eo13 ?_) _
  intro j14
  refine r_aload_n (pc := 44) X dX12_night_44 rfl ?_
  obtain ⟨u15, eu15, hf⟩ := ob hf
  obtain ⟨o16, eo16, hf⟩ := ob hf
  refine r_callVI (pc := 45) X [] dX12_night_45 ml_X12_172 vo_X12_wasRight ⟨Nat.le_refl _, Nat.le_refl _⟩ eu15 (ev_X12_wasRight (d := d - 1) (by omega) _ _ _ eo16) hd1 rfl (Nat.le_of_ble_eq_true rfl) rfl ?_
  refine r_if_ne (pc := 48) X 58 dX12_night_48 (by decide) (fun c48 => ?_) (fun c48 => ?_)
  · rw [if_neg c48] at hf
    refine r_aload_n (pc := 58) X dX12_night_58 rfl ?_
    obtain ⟨a17, ea17, hf⟩ := ob hf
    refine r_getR (pc := 59) X dX12_night_59 fl_X12_9 rfl ea17 ?_
    refine r_aload_n (pc := 62) X dX12_night_62 rfl ?_
    obtain ⟨a18, ea18, hf⟩ := ob hf
    refine r_getR (pc := 63) X dX12_night_63 fl_X12_45 rfl ea18 ?_
    refine r_iconst (pc := 66) X 0 dX12_night_66 (by decide) ?_
    obtain ⟨h19, eh19, hf⟩ := ob hf
    refine r_callSV (pc := 67) X [.ref a17, .ref a18, .int 0] dX12_night_67 ml_X12_242 so_X12_lay ⟨Nat.le_refl _, Nat.le_refl _⟩ (ev_X12_lay (d := d - 1) (by omega) _ _ _ _ _ eh19) hd1 rfl (Nat.le_of_ble_eq_true rfl) rfl ?_
    refine r_iconst (pc := 70) X 0 dX12_night_70 (by decide) ?_
    refine r_istore_n (pc := 71) X [some (.ref p0), some (.int o13.1), some (.int 0)] dX12_night_71 (by decide) rfl ?_
    obtain ⟨o31, eo31, hf⟩ := ob hf
    refine (lw_X12_night_72 X hd _ _ lpN _ o31 eo31 ?_)
    refine r_iload_n (pc := 118) X dX12_night_118 rfl ?_
    obtain ⟨t32, et32, hf⟩ := ob hf
    have Jt32 : Jd Γ (0, 0) 130 [some (.ref p0), some (.int o13.1), some (.int o31.1)] [] t32 := by
      refine r_aload_n (pc := 130) X dX12_night_130 rfl ?_
      refine r_iconst (pc := 131) X 0 dX12_night_131 (by decide) ?_
      obtain ⟨h33, eh33, hf⟩ := ob hf
      refine r_putI (pc := 132) X dX12_night_132 fp_X12_104 rfl eh33 ?_
      refine r_aload_n (pc := 135) X dX12_night_135 rfl ?_
      refine r_iload_n (pc := 136) X dX12_night_136 rfl ?_
      refine r_iload_n (pc := 137) X dX12_night_137 rfl ?_
      obtain ⟨t34, et34, hf⟩ := ob hf
      have Jt34 : Jd Γ (0, 0) 146 [some (.ref p0), some (.int o13.1), some (.int o31.1)] [.long t34, .ref p0] h33 := by
        obtain ⟨u35, eu35, hf⟩ := ob hf
        obtain ⟨h36, eh36, hf⟩ := ob hf
        refine r_callVV (pc := 146) X [.long t34] dX12_night_146 ml_X12_274 vo_X12_tell ⟨Nat.le_refl _, Nat.le_refl _⟩ eu35 (ev_X12_tell (d := d - 1) (by omega) _ _ _ _ eh36) hd1 rfl (Nat.le_of_ble_eq_true rfl) rfl ?_
        refine r_aload_n (pc := 149) X dX12_night_149 rfl ?_
        refine r_aload_n (pc := 150) X dX12_night_150 rfl ?_
        refine r_aload_n (pc := 151) X dX12_night_151 rfl ?_
        obtain ⟨a37, ea37, hf⟩ := ob hf
        refine r_getR (pc := 152) X dX12_night_152 fl_X12_9 rfl ea37 ?_
        refine r_iconst (pc := 155) X 0 dX12_night_155 (by decide) ?_
        obtain ⟨u38, eu38, hf⟩ := ob hf
        obtain ⟨x39, ex39, hf⟩ := ob hf
        refine r_callVI (pc := 156) X [.ref a37, .int 0] dX12_night_156 ml_X12_239 vo_X12_sumOf ⟨Nat.le_refl _, Nat.le_refl _⟩ eu38 (ev_X12_sumOf (d := d - 1) (by omega) _ _ _ _ _ ex39) hd1 rfl (Nat.le_of_ble_eq_true rfl) rfl ?_
        refine r_i2l (pc := 159) X dX12_night_159 ?_
        obtain ⟨u40, eu40, hf⟩ := ob hf
        obtain ⟨h41, eh41, hf⟩ := ob hf
        refine r_callVV (pc := 160) X [.long (Int32.toInt64 x39)] dX12_night_160 ml_X12_274 vo_X12_tell ⟨Nat.le_refl _, Nat.le_refl _⟩ eu40 (ev_X12_tell (d := d - 1) (by omega) _ _ _ _ eh41) hd1 rfl (Nat.le_of_ble_eq_true rfl) rfl ?_
        refine r_iload_n (pc := 163) X dX12_night_163 rfl ?_
        obtain rfl := Option.some.inj hf
        exact r_iret (pc := 164) X dX12_night_164 hk
      refine r_icmp_ge (pc := 138) X 145 dX12_night_138 (by decide) (fun c42 => ?_) (fun c42 => ?_)
      · rw [if_neg c42] at et34
        refine r_lconst (pc := 145) X 0 dX12_night_145 (by decide) ?_
        obtain rfl := Option.some.inj et34
        exact Jt34
      · rw [if_pos c42] at et34
        refine r_lconst (pc := 141) X 1 dX12_night_141 (by decide) ?_
        refine r_goto (pc := 142) X 146 dX12_night_142 (by decide) ?_
        obtain rfl := Option.some.inj et34
        exact Jt34
    refine r_if_le (pc := 119) X 130 dX12_night_119 (by decide) (fun c46 => ?_) (fun c46 => ?_)
    · rw [if_pos c46] at et32
      obtain rfl := Option.some.inj et32
      exact Jt32
    · rw [if_neg c46] at et32
      refine r_aload_n (pc := 122) X dX12_night_122 rfl ?_
      refine r_aload_n (pc := 123) X dX12_night_123 rfl ?_
      obtain ⟨a43, ea43, et32⟩ := ob et32
      refine r_getR (pc := 124) X dX12_night_124 fl_X12_45 rfl ea43 ?_
      obtain ⟨u44, eu44, et32⟩ := ob et32
      obtain ⟨h45, eh45, et32⟩ := ob et32
      refine r_callVV (pc := 127) X [.ref a43] dX12_night_127 ml_X12_271 vo_X12_remember ⟨Nat.le_refl _, Nat.le_refl _⟩ eu44 (ev_X12_remember (d := d - 1) (by omega) _ _ _ _ eh45) hd1 rfl (Nat.le_of_ble_eq_true rfl) rfl ?_
      obtain rfl := Option.some.inj et32
      exact Jt32
  · rw [if_pos c48] at hf
    refine r_iconst (pc := 51) X (-1) dX12_night_51 (by decide) ?_
    refine r_aload_n (pc := 52) X dX12_night_52 rfl ?_
    obtain ⟨x47, ex47, hf⟩ := ob hf
    refine r_getI (pc := 53) X dX12_night_53 fl_X12_136 rfl ex47 ?_
    refine r_isub (pc := 56) X dX12_night_56 ?_
    obtain rfl := Option.some.inj hf
    exact r_iret (pc := 57) X dX12_night_57 hk
