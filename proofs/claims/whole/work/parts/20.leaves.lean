theorem dJ6_bitCount_0f7a4_0 : decode cJ6_bitCount_0f7a4 0 = .ok (.iload_n 0, 1) := by decide +kernel
theorem dJ6_bitCount_0f7a4_1 : decode cJ6_bitCount_0f7a4 1 = .ok (.iload_n 0, 1) := by decide +kernel
theorem dJ6_bitCount_0f7a4_2 : decode cJ6_bitCount_0f7a4 2 = .ok (.iconst 1, 1) := by decide +kernel
theorem dJ6_bitCount_0f7a4_3 : decode cJ6_bitCount_0f7a4 3 = .ok (.iushr, 1) := by decide +kernel
theorem dJ6_bitCount_0f7a4_4 : decode cJ6_bitCount_0f7a4 4 = .ok (.ldc_w 265, 3) := by decide +kernel
theorem dJ6_bitCount_0f7a4_7 : decode cJ6_bitCount_0f7a4 7 = .ok (.iand, 1) := by decide +kernel
theorem dJ6_bitCount_0f7a4_8 : decode cJ6_bitCount_0f7a4 8 = .ok (.isub, 1) := by decide +kernel
theorem dJ6_bitCount_0f7a4_9 : decode cJ6_bitCount_0f7a4 9 = .ok (.istore_n 0, 1) := by decide +kernel
theorem dJ6_bitCount_0f7a4_10 : decode cJ6_bitCount_0f7a4 10 = .ok (.iload_n 0, 1) := by decide +kernel
theorem dJ6_bitCount_0f7a4_11 : decode cJ6_bitCount_0f7a4 11 = .ok (.ldc_w 266, 3) := by decide +kernel
theorem dJ6_bitCount_0f7a4_14 : decode cJ6_bitCount_0f7a4 14 = .ok (.iand, 1) := by decide +kernel
theorem dJ6_bitCount_0f7a4_15 : decode cJ6_bitCount_0f7a4 15 = .ok (.iload_n 0, 1) := by decide +kernel
theorem dJ6_bitCount_0f7a4_16 : decode cJ6_bitCount_0f7a4 16 = .ok (.iconst 2, 1) := by decide +kernel
theorem dJ6_bitCount_0f7a4_17 : decode cJ6_bitCount_0f7a4 17 = .ok (.iushr, 1) := by decide +kernel
theorem dJ6_bitCount_0f7a4_18 : decode cJ6_bitCount_0f7a4 18 = .ok (.ldc_w 266, 3) := by decide +kernel
theorem dJ6_bitCount_0f7a4_21 : decode cJ6_bitCount_0f7a4 21 = .ok (.iand, 1) := by decide +kernel
theorem dJ6_bitCount_0f7a4_22 : decode cJ6_bitCount_0f7a4 22 = .ok (.iadd, 1) := by decide +kernel
theorem dJ6_bitCount_0f7a4_23 : decode cJ6_bitCount_0f7a4 23 = .ok (.istore_n 0, 1) := by decide +kernel
theorem dJ6_bitCount_0f7a4_24 : decode cJ6_bitCount_0f7a4 24 = .ok (.iload_n 0, 1) := by decide +kernel
theorem dJ6_bitCount_0f7a4_25 : decode cJ6_bitCount_0f7a4 25 = .ok (.iload_n 0, 1) := by decide +kernel
theorem dJ6_bitCount_0f7a4_26 : decode cJ6_bitCount_0f7a4 26 = .ok (.iconst 4, 1) := by decide +kernel
theorem dJ6_bitCount_0f7a4_27 : decode cJ6_bitCount_0f7a4 27 = .ok (.iushr, 1) := by decide +kernel
theorem dJ6_bitCount_0f7a4_28 : decode cJ6_bitCount_0f7a4 28 = .ok (.iadd, 1) := by decide +kernel
theorem dJ6_bitCount_0f7a4_29 : decode cJ6_bitCount_0f7a4 29 = .ok (.ldc_w 267, 3) := by decide +kernel
theorem dJ6_bitCount_0f7a4_32 : decode cJ6_bitCount_0f7a4 32 = .ok (.iand, 1) := by decide +kernel
theorem dJ6_bitCount_0f7a4_33 : decode cJ6_bitCount_0f7a4 33 = .ok (.istore_n 0, 1) := by decide +kernel
theorem dJ6_bitCount_0f7a4_34 : decode cJ6_bitCount_0f7a4 34 = .ok (.iload_n 0, 1) := by decide +kernel
theorem dJ6_bitCount_0f7a4_35 : decode cJ6_bitCount_0f7a4 35 = .ok (.iload_n 0, 1) := by decide +kernel
theorem dJ6_bitCount_0f7a4_36 : decode cJ6_bitCount_0f7a4 36 = .ok (.bipush 8, 2) := by decide +kernel
theorem dJ6_bitCount_0f7a4_38 : decode cJ6_bitCount_0f7a4 38 = .ok (.iushr, 1) := by decide +kernel
theorem dJ6_bitCount_0f7a4_39 : decode cJ6_bitCount_0f7a4 39 = .ok (.iadd, 1) := by decide +kernel
theorem dJ6_bitCount_0f7a4_40 : decode cJ6_bitCount_0f7a4 40 = .ok (.istore_n 0, 1) := by decide +kernel
theorem dJ6_bitCount_0f7a4_41 : decode cJ6_bitCount_0f7a4 41 = .ok (.iload_n 0, 1) := by decide +kernel
theorem dJ6_bitCount_0f7a4_42 : decode cJ6_bitCount_0f7a4 42 = .ok (.iload_n 0, 1) := by decide +kernel
theorem dJ6_bitCount_0f7a4_43 : decode cJ6_bitCount_0f7a4 43 = .ok (.bipush 16, 2) := by decide +kernel
theorem dJ6_bitCount_0f7a4_45 : decode cJ6_bitCount_0f7a4 45 = .ok (.iushr, 1) := by decide +kernel
theorem dJ6_bitCount_0f7a4_46 : decode cJ6_bitCount_0f7a4 46 = .ok (.iadd, 1) := by decide +kernel
theorem dJ6_bitCount_0f7a4_47 : decode cJ6_bitCount_0f7a4 47 = .ok (.istore_n 0, 1) := by decide +kernel
theorem dJ6_bitCount_0f7a4_48 : decode cJ6_bitCount_0f7a4 48 = .ok (.iload_n 0, 1) := by decide +kernel
theorem dJ6_bitCount_0f7a4_49 : decode cJ6_bitCount_0f7a4 49 = .ok (.bipush 63, 2) := by decide +kernel
theorem dJ6_bitCount_0f7a4_51 : decode cJ6_bitCount_0f7a4 51 = .ok (.iand, 1) := by decide +kernel
theorem dJ6_bitCount_0f7a4_52 : decode cJ6_bitCount_0f7a4 52 = .ok (.ireturn, 1) := by decide +kernel
def fn_J6_bitCount_0f7a4 (h : aH) (p0 : Int32) : Option (Int32) :=
  (some (p0 - ((ius p0 1) &&& 1431655765))).bind fun x1 =>
  (some ((x1 &&& 858993459) + ((ius x1 2) &&& 858993459))).bind fun x2 =>
  (some ((x2 + (ius x2 4)) &&& 252645135)).bind fun x3 =>
  (some (x3 + (ius x3 8))).bind fun x4 =>
  (some (x4 + (ius x4 16))).bind fun x5 =>
  some (x5 &&& 63)
set_option maxRecDepth 20000 in
set_option maxHeartbeats 4000000 in
theorem ev_J6_bitCount_0f7a4 {l : Launch} {g : aG} {d : Nat} (hd : 0 ≤ d) (h : aH) (p0 : Int32) (o : Int32) (hf : fn_J6_bitCount_0f7a4 h p0 = some o) : EvM l g d yJ6_bitCount_0f7a4 cJ6_bitCount_0f7a4 1 (some .int) [.int p0] h (some (.int o), h) := by
  refine EvM.of mk_J6_bitCount_0f7a4 (Nat.le_of_ble_eq_true rfl) ?_
  intro Γ hl hg hq X
  have hd1 : 0 ≤ d := by omega
  have hk : RpI h Γ o := hq
  unfold fn_J6_bitCount_0f7a4 at hf
  show Jd Γ (0, 0) 0 [some (.int p0)] [] h
  refine r_iload_n (pc := 0) X dJ6_bitCount_0f7a4_0 rfl ?_
  refine r_iload_n (pc := 1) X dJ6_bitCount_0f7a4_1 rfl ?_
  refine r_iconst (pc := 2) X 1 dJ6_bitCount_0f7a4_2 (by decide) ?_
  refine r_iushr (pc := 3) X dJ6_bitCount_0f7a4_3 ?_
  refine r_ldcw (pc := 4) X 1431655765 dJ6_bitCount_0f7a4_4 kc_J6_265 ?_
  refine r_iand (pc := 7) X dJ6_bitCount_0f7a4_7 ?_
  refine r_isub (pc := 8) X dJ6_bitCount_0f7a4_8 ?_
  obtain ⟨x1, ex1, hf⟩ := ob hf
  refine r_nmI ex1 ?_
  refine r_istore_n (pc := 9) X [some (.int x1)] dJ6_bitCount_0f7a4_9 (by decide) rfl ?_
  refine r_iload_n (pc := 10) X dJ6_bitCount_0f7a4_10 rfl ?_
  refine r_ldcw (pc := 11) X 858993459 dJ6_bitCount_0f7a4_11 kc_J6_266 ?_
  refine r_iand (pc := 14) X dJ6_bitCount_0f7a4_14 ?_
  refine r_iload_n (pc := 15) X dJ6_bitCount_0f7a4_15 rfl ?_
  refine r_iconst (pc := 16) X 2 dJ6_bitCount_0f7a4_16 (by decide) ?_
  refine r_iushr (pc := 17) X dJ6_bitCount_0f7a4_17 ?_
  refine r_ldcw (pc := 18) X 858993459 dJ6_bitCount_0f7a4_18 kc_J6_266 ?_
  refine r_iand (pc := 21) X dJ6_bitCount_0f7a4_21 ?_
  refine r_iadd (pc := 22) X dJ6_bitCount_0f7a4_22 ?_
  obtain ⟨x2, ex2, hf⟩ := ob hf
  refine r_nmI ex2 ?_
  refine r_istore_n (pc := 23) X [some (.int x2)] dJ6_bitCount_0f7a4_23 (by decide) rfl ?_
  refine r_iload_n (pc := 24) X dJ6_bitCount_0f7a4_24 rfl ?_
  refine r_iload_n (pc := 25) X dJ6_bitCount_0f7a4_25 rfl ?_
  refine r_iconst (pc := 26) X 4 dJ6_bitCount_0f7a4_26 (by decide) ?_
  refine r_iushr (pc := 27) X dJ6_bitCount_0f7a4_27 ?_
  refine r_iadd (pc := 28) X dJ6_bitCount_0f7a4_28 ?_
  refine r_ldcw (pc := 29) X 252645135 dJ6_bitCount_0f7a4_29 kc_J6_267 ?_
  refine r_iand (pc := 32) X dJ6_bitCount_0f7a4_32 ?_
  obtain ⟨x3, ex3, hf⟩ := ob hf
  refine r_nmI ex3 ?_
  refine r_istore_n (pc := 33) X [some (.int x3)] dJ6_bitCount_0f7a4_33 (by decide) rfl ?_
  refine r_iload_n (pc := 34) X dJ6_bitCount_0f7a4_34 rfl ?_
  refine r_iload_n (pc := 35) X dJ6_bitCount_0f7a4_35 rfl ?_
  refine r_bipush (pc := 36) X 8 dJ6_bitCount_0f7a4_36 (by decide) ?_
  refine r_iushr (pc := 38) X dJ6_bitCount_0f7a4_38 ?_
  refine r_iadd (pc := 39) X dJ6_bitCount_0f7a4_39 ?_
  obtain ⟨x4, ex4, hf⟩ := ob hf
  refine r_nmI ex4 ?_
  refine r_istore_n (pc := 40) X [some (.int x4)] dJ6_bitCount_0f7a4_40 (by decide) rfl ?_
  refine r_iload_n (pc := 41) X dJ6_bitCount_0f7a4_41 rfl ?_
  refine r_iload_n (pc := 42) X dJ6_bitCount_0f7a4_42 rfl ?_
  refine r_bipush (pc := 43) X 16 dJ6_bitCount_0f7a4_43 (by decide) ?_
  refine r_iushr (pc := 45) X dJ6_bitCount_0f7a4_45 ?_
  refine r_iadd (pc := 46) X dJ6_bitCount_0f7a4_46 ?_
  obtain ⟨x5, ex5, hf⟩ := ob hf
  refine r_nmI ex5 ?_
  refine r_istore_n (pc := 47) X [some (.int x5)] dJ6_bitCount_0f7a4_47 (by decide) rfl ?_
  refine r_iload_n (pc := 48) X dJ6_bitCount_0f7a4_48 rfl ?_
  refine r_bipush (pc := 49) X 63 dJ6_bitCount_0f7a4_49 (by decide) ?_
  refine r_iand (pc := 51) X dJ6_bitCount_0f7a4_51 ?_
  obtain rfl := Option.some.inj hf
  exact r_iret (pc := 52) X dJ6_bitCount_0f7a4_52 hk

theorem dJ13_bitCount_95d88_0 : decode cJ13_bitCount_95d88 0 = .ok (.lload_n 0, 1) := by decide +kernel
theorem dJ13_bitCount_95d88_1 : decode cJ13_bitCount_95d88 1 = .ok (.lload_n 0, 1) := by decide +kernel
theorem dJ13_bitCount_95d88_2 : decode cJ13_bitCount_95d88 2 = .ok (.iconst 1, 1) := by decide +kernel
theorem dJ13_bitCount_95d88_3 : decode cJ13_bitCount_95d88 3 = .ok (.lushr, 1) := by decide +kernel
theorem dJ13_bitCount_95d88_4 : decode cJ13_bitCount_95d88 4 = .ok (.ldc2_w 314, 3) := by decide +kernel
theorem dJ13_bitCount_95d88_7 : decode cJ13_bitCount_95d88 7 = .ok (.land, 1) := by decide +kernel
theorem dJ13_bitCount_95d88_8 : decode cJ13_bitCount_95d88 8 = .ok (.lsub, 1) := by decide +kernel
theorem dJ13_bitCount_95d88_9 : decode cJ13_bitCount_95d88 9 = .ok (.lstore_n 0, 1) := by decide +kernel
theorem dJ13_bitCount_95d88_10 : decode cJ13_bitCount_95d88 10 = .ok (.lload_n 0, 1) := by decide +kernel
theorem dJ13_bitCount_95d88_11 : decode cJ13_bitCount_95d88 11 = .ok (.ldc2_w 316, 3) := by decide +kernel
theorem dJ13_bitCount_95d88_14 : decode cJ13_bitCount_95d88 14 = .ok (.land, 1) := by decide +kernel
theorem dJ13_bitCount_95d88_15 : decode cJ13_bitCount_95d88 15 = .ok (.lload_n 0, 1) := by decide +kernel
theorem dJ13_bitCount_95d88_16 : decode cJ13_bitCount_95d88 16 = .ok (.iconst 2, 1) := by decide +kernel
theorem dJ13_bitCount_95d88_17 : decode cJ13_bitCount_95d88 17 = .ok (.lushr, 1) := by decide +kernel
theorem dJ13_bitCount_95d88_18 : decode cJ13_bitCount_95d88 18 = .ok (.ldc2_w 316, 3) := by decide +kernel
theorem dJ13_bitCount_95d88_21 : decode cJ13_bitCount_95d88 21 = .ok (.land, 1) := by decide +kernel
theorem dJ13_bitCount_95d88_22 : decode cJ13_bitCount_95d88 22 = .ok (.ladd, 1) := by decide +kernel
theorem dJ13_bitCount_95d88_23 : decode cJ13_bitCount_95d88 23 = .ok (.lstore_n 0, 1) := by decide +kernel
theorem dJ13_bitCount_95d88_24 : decode cJ13_bitCount_95d88 24 = .ok (.lload_n 0, 1) := by decide +kernel
theorem dJ13_bitCount_95d88_25 : decode cJ13_bitCount_95d88 25 = .ok (.lload_n 0, 1) := by decide +kernel
theorem dJ13_bitCount_95d88_26 : decode cJ13_bitCount_95d88 26 = .ok (.iconst 4, 1) := by decide +kernel
theorem dJ13_bitCount_95d88_27 : decode cJ13_bitCount_95d88 27 = .ok (.lushr, 1) := by decide +kernel
theorem dJ13_bitCount_95d88_28 : decode cJ13_bitCount_95d88 28 = .ok (.ladd, 1) := by decide +kernel
theorem dJ13_bitCount_95d88_29 : decode cJ13_bitCount_95d88 29 = .ok (.ldc2_w 318, 3) := by decide +kernel
theorem dJ13_bitCount_95d88_32 : decode cJ13_bitCount_95d88 32 = .ok (.land, 1) := by decide +kernel
theorem dJ13_bitCount_95d88_33 : decode cJ13_bitCount_95d88 33 = .ok (.lstore_n 0, 1) := by decide +kernel
theorem dJ13_bitCount_95d88_34 : decode cJ13_bitCount_95d88 34 = .ok (.lload_n 0, 1) := by decide +kernel
theorem dJ13_bitCount_95d88_35 : decode cJ13_bitCount_95d88 35 = .ok (.lload_n 0, 1) := by decide +kernel
theorem dJ13_bitCount_95d88_36 : decode cJ13_bitCount_95d88 36 = .ok (.bipush 8, 2) := by decide +kernel
theorem dJ13_bitCount_95d88_38 : decode cJ13_bitCount_95d88 38 = .ok (.lushr, 1) := by decide +kernel
theorem dJ13_bitCount_95d88_39 : decode cJ13_bitCount_95d88 39 = .ok (.ladd, 1) := by decide +kernel
theorem dJ13_bitCount_95d88_40 : decode cJ13_bitCount_95d88 40 = .ok (.lstore_n 0, 1) := by decide +kernel
theorem dJ13_bitCount_95d88_41 : decode cJ13_bitCount_95d88 41 = .ok (.lload_n 0, 1) := by decide +kernel
theorem dJ13_bitCount_95d88_42 : decode cJ13_bitCount_95d88 42 = .ok (.lload_n 0, 1) := by decide +kernel
theorem dJ13_bitCount_95d88_43 : decode cJ13_bitCount_95d88 43 = .ok (.bipush 16, 2) := by decide +kernel
theorem dJ13_bitCount_95d88_45 : decode cJ13_bitCount_95d88 45 = .ok (.lushr, 1) := by decide +kernel
theorem dJ13_bitCount_95d88_46 : decode cJ13_bitCount_95d88 46 = .ok (.ladd, 1) := by decide +kernel
theorem dJ13_bitCount_95d88_47 : decode cJ13_bitCount_95d88 47 = .ok (.lstore_n 0, 1) := by decide +kernel
theorem dJ13_bitCount_95d88_48 : decode cJ13_bitCount_95d88 48 = .ok (.lload_n 0, 1) := by decide +kernel
theorem dJ13_bitCount_95d88_49 : decode cJ13_bitCount_95d88 49 = .ok (.lload_n 0, 1) := by decide +kernel
theorem dJ13_bitCount_95d88_50 : decode cJ13_bitCount_95d88 50 = .ok (.bipush 32, 2) := by decide +kernel
theorem dJ13_bitCount_95d88_52 : decode cJ13_bitCount_95d88 52 = .ok (.lushr, 1) := by decide +kernel
theorem dJ13_bitCount_95d88_53 : decode cJ13_bitCount_95d88 53 = .ok (.ladd, 1) := by decide +kernel
theorem dJ13_bitCount_95d88_54 : decode cJ13_bitCount_95d88 54 = .ok (.lstore_n 0, 1) := by decide +kernel
theorem dJ13_bitCount_95d88_55 : decode cJ13_bitCount_95d88 55 = .ok (.lload_n 0, 1) := by decide +kernel
theorem dJ13_bitCount_95d88_56 : decode cJ13_bitCount_95d88 56 = .ok (.l2i, 1) := by decide +kernel
theorem dJ13_bitCount_95d88_57 : decode cJ13_bitCount_95d88 57 = .ok (.bipush 127, 2) := by decide +kernel
theorem dJ13_bitCount_95d88_59 : decode cJ13_bitCount_95d88 59 = .ok (.iand, 1) := by decide +kernel
theorem dJ13_bitCount_95d88_60 : decode cJ13_bitCount_95d88 60 = .ok (.ireturn, 1) := by decide +kernel
def fn_J13_bitCount_95d88 (h : aH) (p0 : Int64) : Option (Int32) :=
  (some (p0 - ((lus p0 1) &&& 6148914691236517205))).bind fun y1 =>
  (some ((y1 &&& 3689348814741910323) + ((lus y1 2) &&& 3689348814741910323))).bind fun y2 =>
  (some ((y2 + (lus y2 4)) &&& 1085102592571150095)).bind fun y3 =>
  (some (y3 + (lus y3 8))).bind fun y4 =>
  (some (y4 + (lus y4 16))).bind fun y5 =>
  (some (y5 + (lus y5 32))).bind fun y6 =>
  some ((Int64.toInt32 y6) &&& 127)
set_option maxRecDepth 20000 in
set_option maxHeartbeats 4000000 in
theorem ev_J13_bitCount_95d88 {l : Launch} {g : aG} {d : Nat} (hd : 0 ≤ d) (h : aH) (p0 : Int64) (o : Int32) (hf : fn_J13_bitCount_95d88 h p0 = some o) : EvM l g d yJ13_bitCount_95d88 cJ13_bitCount_95d88 2 (some .int) [.long p0] h (some (.int o), h) := by
  refine EvM.of mk_J13_bitCount_95d88 (Nat.le_of_ble_eq_true rfl) ?_
  intro Γ hl hg hq X
  have hd1 : 0 ≤ d := by omega
  have hk : RpI h Γ o := hq
  unfold fn_J13_bitCount_95d88 at hf
  show Jd Γ (0, 0) 0 [some (.long p0), none] [] h
  refine r_lload_n (pc := 0) X dJ13_bitCount_95d88_0 rfl ?_
  refine r_lload_n (pc := 1) X dJ13_bitCount_95d88_1 rfl ?_
  refine r_iconst (pc := 2) X 1 dJ13_bitCount_95d88_2 (by decide) ?_
  refine r_lushr (pc := 3) X dJ13_bitCount_95d88_3 ?_
  refine r_ldc2 (pc := 4) X 6148914691236517205 dJ13_bitCount_95d88_4 kl_J13_314 ?_
  refine r_land (pc := 7) X dJ13_bitCount_95d88_7 ?_
  refine r_lsub (pc := 8) X dJ13_bitCount_95d88_8 ?_
  obtain ⟨y1, ey1, hf⟩ := ob hf
  refine r_nmJ ey1 ?_
  refine r_lstore_n (pc := 9) X [some (.long y1), none] dJ13_bitCount_95d88_9 (by decide) rfl ?_
  refine r_lload_n (pc := 10) X dJ13_bitCount_95d88_10 rfl ?_
  refine r_ldc2 (pc := 11) X 3689348814741910323 dJ13_bitCount_95d88_11 kl_J13_316 ?_
  refine r_land (pc := 14) X dJ13_bitCount_95d88_14 ?_
  refine r_lload_n (pc := 15) X dJ13_bitCount_95d88_15 rfl ?_
  refine r_iconst (pc := 16) X 2 dJ13_bitCount_95d88_16 (by decide) ?_
  refine r_lushr (pc := 17) X dJ13_bitCount_95d88_17 ?_
  refine r_ldc2 (pc := 18) X 3689348814741910323 dJ13_bitCount_95d88_18 kl_J13_316 ?_
  refine r_land (pc := 21) X dJ13_bitCount_95d88_21 ?_
  refine r_ladd (pc := 22) X dJ13_bitCount_95d88_22 ?_
  obtain ⟨y2, ey2, hf⟩ := ob hf
  refine r_nmJ ey2 ?_
  refine r_lstore_n (pc := 23) X [some (.long y2), none] dJ13_bitCount_95d88_23 (by decide) rfl ?_
  refine r_lload_n (pc := 24) X dJ13_bitCount_95d88_24 rfl ?_
  refine r_lload_n (pc := 25) X dJ13_bitCount_95d88_25 rfl ?_
  refine r_iconst (pc := 26) X 4 dJ13_bitCount_95d88_26 (by decide) ?_
  refine r_lushr (pc := 27) X dJ13_bitCount_95d88_27 ?_
  refine r_ladd (pc := 28) X dJ13_bitCount_95d88_28 ?_
  refine r_ldc2 (pc := 29) X 1085102592571150095 dJ13_bitCount_95d88_29 kl_J13_318 ?_
  refine r_land (pc := 32) X dJ13_bitCount_95d88_32 ?_
  obtain ⟨y3, ey3, hf⟩ := ob hf
  refine r_nmJ ey3 ?_
  refine r_lstore_n (pc := 33) X [some (.long y3), none] dJ13_bitCount_95d88_33 (by decide) rfl ?_
  refine r_lload_n (pc := 34) X dJ13_bitCount_95d88_34 rfl ?_
  refine r_lload_n (pc := 35) X dJ13_bitCount_95d88_35 rfl ?_
  refine r_bipush (pc := 36) X 8 dJ13_bitCount_95d88_36 (by decide) ?_
  refine r_lushr (pc := 38) X dJ13_bitCount_95d88_38 ?_
  refine r_ladd (pc := 39) X dJ13_bitCount_95d88_39 ?_
  obtain ⟨y4, ey4, hf⟩ := ob hf
  refine r_nmJ ey4 ?_
  refine r_lstore_n (pc := 40) X [some (.long y4), none] dJ13_bitCount_95d88_40 (by decide) rfl ?_
  refine r_lload_n (pc := 41) X dJ13_bitCount_95d88_41 rfl ?_
  refine r_lload_n (pc := 42) X dJ13_bitCount_95d88_42 rfl ?_
  refine r_bipush (pc := 43) X 16 dJ13_bitCount_95d88_43 (by decide) ?_
  refine r_lushr (pc := 45) X dJ13_bitCount_95d88_45 ?_
  refine r_ladd (pc := 46) X dJ13_bitCount_95d88_46 ?_
  obtain ⟨y5, ey5, hf⟩ := ob hf
  refine r_nmJ ey5 ?_
  refine r_lstore_n (pc := 47) X [some (.long y5), none] dJ13_bitCount_95d88_47 (by decide) rfl ?_
  refine r_lload_n (pc := 48) X dJ13_bitCount_95d88_48 rfl ?_
  refine r_lload_n (pc := 49) X dJ13_bitCount_95d88_49 rfl ?_
  refine r_bipush (pc := 50) X 32 dJ13_bitCount_95d88_50 (by decide) ?_
  refine r_lushr (pc := 52) X dJ13_bitCount_95d88_52 ?_
  refine r_ladd (pc := 53) X dJ13_bitCount_95d88_53 ?_
  obtain ⟨y6, ey6, hf⟩ := ob hf
  refine r_nmJ ey6 ?_
  refine r_lstore_n (pc := 54) X [some (.long y6), none] dJ13_bitCount_95d88_54 (by decide) rfl ?_
  refine r_lload_n (pc := 55) X dJ13_bitCount_95d88_55 rfl ?_
  refine r_l2i (pc := 56) X dJ13_bitCount_95d88_56 ?_
  refine r_bipush (pc := 57) X 127 dJ13_bitCount_95d88_57 (by decide) ?_
  refine r_iand (pc := 59) X dJ13_bitCount_95d88_59 ?_
  obtain rfl := Option.some.inj hf
  exact r_iret (pc := 60) X dJ13_bitCount_95d88_60 hk

theorem dX7_takes_0 : decode cX7_takes 0 = .ok (.aload_n 1, 1) := by decide +kernel
theorem dX7_takes_1 : decode cX7_takes 1 = .ok (.getfield 9, 3) := by decide +kernel
theorem dX7_takes_4 : decode cX7_takes 4 = .ok (.iconst 0, 1) := by decide +kernel
theorem dX7_takes_5 : decode cX7_takes 5 = .ok (.aload_n 0, 1) := by decide +kernel
theorem dX7_takes_6 : decode cX7_takes 6 = .ok (.getfield 9, 3) := by decide +kernel
theorem dX7_takes_9 : decode cX7_takes 9 = .ok (.iconst 0, 1) := by decide +kernel
theorem dX7_takes_10 : decode cX7_takes 10 = .ok (.bipush 6, 2) := by decide +kernel
theorem dX7_takes_12 : decode cX7_takes 12 = .ok (.invokestatic 18, 3) := by decide +kernel
theorem dX7_takes_15 : decode cX7_takes 15 = .ok (.aload_n 1, 1) := by decide +kernel
theorem dX7_takes_16 : decode cX7_takes 16 = .ok (.getfield 15, 3) := by decide +kernel
theorem dX7_takes_19 : decode cX7_takes 19 = .ok (.iconst 0, 1) := by decide +kernel
theorem dX7_takes_20 : decode cX7_takes 20 = .ok (.aload_n 0, 1) := by decide +kernel
theorem dX7_takes_21 : decode cX7_takes 21 = .ok (.getfield 15, 3) := by decide +kernel
theorem dX7_takes_24 : decode cX7_takes 24 = .ok (.iconst 0, 1) := by decide +kernel
theorem dX7_takes_25 : decode cX7_takes 25 = .ok (.bipush 6, 2) := by decide +kernel
theorem dX7_takes_27 : decode cX7_takes 27 = .ok (.invokestatic 18, 3) := by decide +kernel
theorem dX7_takes_30 : decode cX7_takes 30 = .ok (.aload_n 0, 1) := by decide +kernel
theorem dX7_takes_31 : decode cX7_takes 31 = .ok (.aload_n 1, 1) := by decide +kernel
theorem dX7_takes_32 : decode cX7_takes 32 = .ok (.getfield 24, 3) := by decide +kernel
theorem dX7_takes_35 : decode cX7_takes 35 = .ok (.putfield 24, 3) := by decide +kernel
theorem dX7_takes_38 : decode cX7_takes 38 = .ok (.aload_n 0, 1) := by decide +kernel
theorem dX7_takes_39 : decode cX7_takes 39 = .ok (.aload_n 1, 1) := by decide +kernel
theorem dX7_takes_40 : decode cX7_takes 40 = .ok (.getfield 28, 3) := by decide +kernel
theorem dX7_takes_43 : decode cX7_takes 43 = .ok (.putfield 28, 3) := by decide +kernel
theorem dX7_takes_46 : decode cX7_takes 46 = .ok (.aload_n 0, 1) := by decide +kernel
theorem dX7_takes_47 : decode cX7_takes 47 = .ok (.aload_n 1, 1) := by decide +kernel
theorem dX7_takes_48 : decode cX7_takes 48 = .ok (.getfield 31, 3) := by decide +kernel
theorem dX7_takes_51 : decode cX7_takes 51 = .ok (.putfield 31, 3) := by decide +kernel
theorem dX7_takes_54 : decode cX7_takes 54 = .ok (.aload_n 0, 1) := by decide +kernel
theorem dX7_takes_55 : decode cX7_takes 55 = .ok (.aload_n 1, 1) := by decide +kernel
theorem dX7_takes_56 : decode cX7_takes 56 = .ok (.getfield 34, 3) := by decide +kernel
theorem dX7_takes_59 : decode cX7_takes 59 = .ok (.putfield 34, 3) := by decide +kernel
theorem dX7_takes_62 : decode cX7_takes 62 = .ok (.return_, 1) := by decide +kernel
def fn_X7_takes (h : aH) (p0 : Nat) (p1 : Nat) : Option (aH) :=
  (gR h p1 6 0).bind fun a1 =>
  (gR h p0 6 0).bind fun a2 =>
  (cpI h a1 0 a2 0 6).bind fun h3 =>
  (gR h3 p1 6 1).bind fun a4 =>
  (gR h3 p0 6 1).bind fun a5 =>
  (cpI h3 a4 0 a5 0 6).bind fun h6 =>
  (gI h6 p1 6 2).bind fun x7 =>
  (pI h6 p0 6 2 x7).bind fun h8 =>
  (gI h8 p1 6 3).bind fun x9 =>
  (pI h8 p0 6 3 x9).bind fun h10 =>
  (gI h10 p1 6 4).bind fun x11 =>
  (pI h10 p0 6 4 x11).bind fun h12 =>
  (gI h12 p1 6 5).bind fun x13 =>
  (pI h12 p0 6 5 x13).bind fun h14 =>
  some h14
set_option maxRecDepth 20000 in
set_option maxHeartbeats 4000000 in
theorem ev_X7_takes {l : Launch} {g : aG} {d : Nat} (hd : 1 ≤ d) (h : aH) (p0 : Nat) (p1 : Nat) (o : aH) (hf : fn_X7_takes h p0 p1 = some o) : EvM l g d yX7_takes cX7_takes 2 none [.ref p0, .ref p1] h (none, o) := by
  refine EvM.of mk_X7_takes (Nat.le_of_ble_eq_true rfl) ?_
  intro Γ hl hg hq X
  have hd1 : 1 ≤ d := by omega
  have hk : RqV Γ o := hq
  unfold fn_X7_takes at hf
  show Jd Γ (0, 0) 0 [some (.ref p0), some (.ref p1)] [] h
  refine r_aload_n (pc := 0) X dX7_takes_0 rfl ?_
  obtain ⟨a1, ea1, hf⟩ := ob hf
  refine r_getR (pc := 1) X dX7_takes_1 fl_X7_9 rfl ea1 ?_
  refine r_iconst (pc := 4) X 0 dX7_takes_4 (by decide) ?_
  refine r_aload_n (pc := 5) X dX7_takes_5 rfl ?_
  obtain ⟨a2, ea2, hf⟩ := ob hf
  refine r_getR (pc := 6) X dX7_takes_6 fl_X7_9 rfl ea2 ?_
  refine r_iconst (pc := 9) X 0 dX7_takes_9 (by decide) ?_
  refine r_bipush (pc := 10) X 6 dX7_takes_10 (by decide) ?_
  obtain ⟨h3, eh3, hf⟩ := ob hf
  refine r_copy (pc := 12) X dX7_takes_12 ml_X7_18 ac_nat ac_sta ac_ini hd1 (Nat.le_of_ble_eq_true rfl) eh3 ?_
  refine r_aload_n (pc := 15) X dX7_takes_15 rfl ?_
  obtain ⟨a4, ea4, hf⟩ := ob hf
  refine r_getR (pc := 16) X dX7_takes_16 fl_X7_15 rfl ea4 ?_
  refine r_iconst (pc := 19) X 0 dX7_takes_19 (by decide) ?_
  refine r_aload_n (pc := 20) X dX7_takes_20 rfl ?_
  obtain ⟨a5, ea5, hf⟩ := ob hf
  refine r_getR (pc := 21) X dX7_takes_21 fl_X7_15 rfl ea5 ?_
  refine r_iconst (pc := 24) X 0 dX7_takes_24 (by decide) ?_
  refine r_bipush (pc := 25) X 6 dX7_takes_25 (by decide) ?_
  obtain ⟨h6, eh6, hf⟩ := ob hf
  refine r_copy (pc := 27) X dX7_takes_27 ml_X7_18 ac_nat ac_sta ac_ini hd1 (Nat.le_of_ble_eq_true rfl) eh6 ?_
  refine r_aload_n (pc := 30) X dX7_takes_30 rfl ?_
  refine r_aload_n (pc := 31) X dX7_takes_31 rfl ?_
  obtain ⟨x7, ex7, hf⟩ := ob hf
  refine r_getI (pc := 32) X dX7_takes_32 fl_X7_24 rfl ex7 ?_
  obtain ⟨h8, eh8, hf⟩ := ob hf
  refine r_putI (pc := 35) X dX7_takes_35 fp_X7_24 rfl eh8 ?_
  refine r_aload_n (pc := 38) X dX7_takes_38 rfl ?_
  refine r_aload_n (pc := 39) X dX7_takes_39 rfl ?_
  obtain ⟨x9, ex9, hf⟩ := ob hf
  refine r_getI (pc := 40) X dX7_takes_40 fl_X7_28 rfl ex9 ?_
  obtain ⟨h10, eh10, hf⟩ := ob hf
  refine r_putI (pc := 43) X dX7_takes_43 fp_X7_28 rfl eh10 ?_
  refine r_aload_n (pc := 46) X dX7_takes_46 rfl ?_
  refine r_aload_n (pc := 47) X dX7_takes_47 rfl ?_
  obtain ⟨x11, ex11, hf⟩ := ob hf
  refine r_getI (pc := 48) X dX7_takes_48 fl_X7_31 rfl ex11 ?_
  obtain ⟨h12, eh12, hf⟩ := ob hf
  refine r_putI (pc := 51) X dX7_takes_51 fp_X7_31 rfl eh12 ?_
  refine r_aload_n (pc := 54) X dX7_takes_54 rfl ?_
  refine r_aload_n (pc := 55) X dX7_takes_55 rfl ?_
  obtain ⟨x13, ex13, hf⟩ := ob hf
  refine r_getI (pc := 56) X dX7_takes_56 fl_X7_34 rfl ex13 ?_
  obtain ⟨h14, eh14, hf⟩ := ob hf
  refine r_putI (pc := 59) X dX7_takes_59 fp_X7_34 rfl eh14 ?_
  obtain rfl := Option.some.inj hf
  exact r_vret (pc := 62) X dX7_takes_62 hk

theorem dX7_isAtMark_0 : decode cX7_isAtMark 0 = .ok (.aload_n 0, 1) := by decide +kernel
theorem dX7_isAtMark_1 : decode cX7_isAtMark 1 = .ok (.getfield 9, 3) := by decide +kernel
theorem dX7_isAtMark_4 : decode cX7_isAtMark 4 = .ok (.iload_n 1, 1) := by decide +kernel
theorem dX7_isAtMark_5 : decode cX7_isAtMark 5 = .ok (.iaload, 1) := by decide +kernel
theorem dX7_isAtMark_6 : decode cX7_isAtMark 6 = .ok (.aload_n 0, 1) := by decide +kernel
theorem dX7_isAtMark_7 : decode cX7_isAtMark 7 = .ok (.getfield 15, 3) := by decide +kernel
theorem dX7_isAtMark_10 : decode cX7_isAtMark 10 = .ok (.iload_n 1, 1) := by decide +kernel
theorem dX7_isAtMark_11 : decode cX7_isAtMark 11 = .ok (.iaload, 1) := by decide +kernel
theorem dX7_isAtMark_12 : decode cX7_isAtMark 12 = .ok (.if_icmp .lt 7, 3) := by decide +kernel
theorem dX7_isAtMark_15 : decode cX7_isAtMark 15 = .ok (.iconst 1, 1) := by decide +kernel
theorem dX7_isAtMark_16 : decode cX7_isAtMark 16 = .ok (.goto 4, 3) := by decide +kernel
theorem dX7_isAtMark_19 : decode cX7_isAtMark 19 = .ok (.iconst 0, 1) := by decide +kernel
theorem dX7_isAtMark_20 : decode cX7_isAtMark 20 = .ok (.ireturn, 1) := by decide +kernel
def fn_X7_isAtMark (h : aH) (p0 : Nat) (p1 : Int32) : Option (Int32) :=
  (gR h p0 6 0).bind fun a1 =>
  (aI h a1 14 p1).bind fun x2 =>
  (gR h p0 6 1).bind fun a3 =>
  (aI h a3 14 p1).bind fun x4 =>
  if x2 < x4 then
    some 0
  else
    some 1
set_option maxRecDepth 20000 in
set_option maxHeartbeats 4000000 in
theorem ev_X7_isAtMark {l : Launch} {g : aG} {d : Nat} (hd : 0 ≤ d) (h : aH) (p0 : Nat) (p1 : Int32) (o : Int32) (hf : fn_X7_isAtMark h p0 p1 = some o) : EvM l g d yX7_isAtMark cX7_isAtMark 2 (some .boolean) [.ref p0, .int p1] h (some (.int o), h) := by
  refine EvM.of mk_X7_isAtMark (Nat.le_of_ble_eq_true rfl) ?_
  intro Γ hl hg hq X
  have hd1 : 0 ≤ d := by omega
  have hk : RpI h Γ o := hq
  unfold fn_X7_isAtMark at hf
  show Jd Γ (0, 0) 0 [some (.ref p0), some (.int p1)] [] h
  refine r_aload_n (pc := 0) X dX7_isAtMark_0 rfl ?_
  obtain ⟨a1, ea1, hf⟩ := ob hf
  refine r_getR (pc := 1) X dX7_isAtMark_1 fl_X7_9 rfl ea1 ?_
  refine r_iload_n (pc := 4) X dX7_isAtMark_4 rfl ?_
  obtain ⟨x2, ex2, hf⟩ := ob hf
  refine r_iald (pc := 5) X dX7_isAtMark_5 ex2 ?_
  refine r_aload_n (pc := 6) X dX7_isAtMark_6 rfl ?_
  obtain ⟨a3, ea3, hf⟩ := ob hf
  refine r_getR (pc := 7) X dX7_isAtMark_7 fl_X7_15 rfl ea3 ?_
  refine r_iload_n (pc := 10) X dX7_isAtMark_10 rfl ?_
  obtain ⟨x4, ex4, hf⟩ := ob hf
  refine r_iald (pc := 11) X dX7_isAtMark_11 ex4 ?_
  refine r_icmp_lt (pc := 12) X 19 dX7_isAtMark_12 (by decide) (fun c5 => ?_) (fun c5 => ?_)
  · rw [if_pos c5] at hf
    refine r_iconst (pc := 19) X 0 dX7_isAtMark_19 (by decide) ?_
    obtain rfl := Option.some.inj hf
    exact r_zret (pc := 20) X dX7_isAtMark_20 (Or.inl rfl) hk
  · rw [if_neg c5] at hf
    refine r_iconst (pc := 15) X 1 dX7_isAtMark_15 (by decide) ?_
    refine r_goto (pc := 16) X 20 dX7_isAtMark_16 (by decide) ?_
    obtain rfl := Option.some.inj hf
    exact r_zret (pc := 20) X dX7_isAtMark_20 (Or.inr rfl) hk

theorem dX7_code_0 : decode cX7_code 0 = .ok (.aload_n 0, 1) := by decide +kernel
theorem dX7_code_1 : decode cX7_code 1 = .ok (.getfield 31, 3) := by decide +kernel
theorem dX7_code_4 : decode cX7_code 4 = .ok (.iconst 3, 1) := by decide +kernel
theorem dX7_code_5 : decode cX7_code 5 = .ok (.iand, 1) := by decide +kernel
theorem dX7_code_6 : decode cX7_code 6 = .ok (.i2l, 1) := by decide +kernel
theorem dX7_code_7 : decode cX7_code 7 = .ok (.bipush 8, 2) := by decide +kernel
theorem dX7_code_9 : decode cX7_code 9 = .ok (.lshl, 1) := by decide +kernel
theorem dX7_code_10 : decode cX7_code 10 = .ok (.aload_n 0, 1) := by decide +kernel
theorem dX7_code_11 : decode cX7_code 11 = .ok (.getfield 24, 3) := by decide +kernel
theorem dX7_code_14 : decode cX7_code 14 = .ok (.i2l, 1) := by decide +kernel
theorem dX7_code_15 : decode cX7_code 15 = .ok (.lor, 1) := by decide +kernel
theorem dX7_code_16 : decode cX7_code 16 = .ok (.lstore_n 1, 1) := by decide +kernel
theorem dX7_code_17 : decode cX7_code 17 = .ok (.iconst 5, 1) := by decide +kernel
theorem dX7_code_18 : decode cX7_code 18 = .ok (.istore_n 3, 1) := by decide +kernel
theorem dX7_code_19 : decode cX7_code 19 = .ok (.iload_n 3, 1) := by decide +kernel
theorem dX7_code_20 : decode cX7_code 20 = .ok (.ifCond .lt 21, 3) := by decide +kernel
theorem dX7_code_23 : decode cX7_code 23 = .ok (.lload_n 1, 1) := by decide +kernel
theorem dX7_code_24 : decode cX7_code 24 = .ok (.iconst 4, 1) := by decide +kernel
theorem dX7_code_25 : decode cX7_code 25 = .ok (.lshl, 1) := by decide +kernel
theorem dX7_code_26 : decode cX7_code 26 = .ok (.aload_n 0, 1) := by decide +kernel
theorem dX7_code_27 : decode cX7_code 27 = .ok (.getfield 9, 3) := by decide +kernel
theorem dX7_code_30 : decode cX7_code 30 = .ok (.iload_n 3, 1) := by decide +kernel
theorem dX7_code_31 : decode cX7_code 31 = .ok (.iaload, 1) := by decide +kernel
theorem dX7_code_32 : decode cX7_code 32 = .ok (.i2l, 1) := by decide +kernel
theorem dX7_code_33 : decode cX7_code 33 = .ok (.lor, 1) := by decide +kernel
theorem dX7_code_34 : decode cX7_code 34 = .ok (.lstore_n 1, 1) := by decide +kernel
theorem dX7_code_35 : decode cX7_code 35 = .ok (.iinc 3 (-1), 3) := by decide +kernel
theorem dX7_code_38 : decode cX7_code 38 = .ok (.goto (-19), 3) := by decide +kernel
theorem dX7_code_41 : decode cX7_code 41 = .ok (.lload_n 1, 1) := by decide +kernel
theorem dX7_code_42 : decode cX7_code 42 = .ok (.lreturn, 1) := by decide +kernel
def lb_X7_code_19 (hh : aH) (v0 : Nat) (s : Int64 × Int32) : Option ((Int64 × Int32) ⊕ ((Int64))) :=
  if s.2 < 0 then
    some (.inr s.1)
  else
    (gR hh v0 6 0).bind fun a4 =>
    (aI hh a4 14 s.2).bind fun x5 =>
    (some ((lsl s.1 4) ||| (Int32.toInt64 x5))).bind fun y6 =>
    (some (s.2 + (-1))).bind fun x7 =>
    some (.inl (y6, x7))
def hd_X7_code_19 (Γ : aC) (hh : aH) (v0 : Nat) (s : Int64 × Int32) : Prop := ∀ (j2 : Option Value), Jd Γ (0, 0) 19 [some (.ref v0), some (.long s.1), j2, some (.int s.2)] [] hh
def ex_X7_code_19 (Γ : aC) (hh : aH) (v0 : Nat) (r : (Int64)) : Prop := (fun r => RpJ hh Γ r) r
set_option maxRecDepth 20000 in
set_option maxHeartbeats 4000000 in
theorem lw_X7_code_19 {Γ : aC} {d : Nat} (X : Cx Γ RX7 cX7_code 4 (some .long) (d, 0, 0)) (hd : 0 ≤ d) (hh : aH) (v0 : Nat) : ∀ n s o, lp (lb_X7_code_19 hh v0) n s = some o → ex_X7_code_19 Γ hh v0 o → hd_X7_code_19 Γ hh v0 s := by
  have hd1 : 0 ≤ d := by omega
  refine J_lp _ _ _ ?_
  intro s o hf hk j2
  unfold lb_X7_code_19 at hf
  refine r_iload_n (pc := 19) X dX7_code_19 rfl ?_
  refine r_if_lt (pc := 20) X 41 dX7_code_20 (by decide) (fun c8 => ?_) (fun c8 => ?_)
  · rw [if_pos c8] at hf
    refine r_lload_n (pc := 41) X dX7_code_41 rfl ?_
    obtain rfl := Option.some.inj hf
    exact r_lret (pc := 42) X dX7_code_42 hk
  · rw [if_neg c8] at hf
    refine r_lload_n (pc := 23) X dX7_code_23 rfl ?_
    refine r_iconst (pc := 24) X 4 dX7_code_24 (by decide) ?_
    refine r_lshl (pc := 25) X dX7_code_25 ?_
    refine r_aload_n (pc := 26) X dX7_code_26 rfl ?_
    obtain ⟨a4, ea4, hf⟩ := ob hf
    refine r_getR (pc := 27) X dX7_code_27 fl_X7_9 rfl ea4 ?_
    refine r_iload_n (pc := 30) X dX7_code_30 rfl ?_
    obtain ⟨x5, ex5, hf⟩ := ob hf
    refine r_iald (pc := 31) X dX7_code_31 ex5 ?_
    refine r_i2l (pc := 32) X dX7_code_32 ?_
    refine r_lor (pc := 33) X dX7_code_33 ?_
    obtain ⟨y6, ey6, hf⟩ := ob hf
    refine r_nmJ ey6 ?_
    refine r_lstore_n (pc := 34) X [some (.ref v0), some (.long y6), none, some (.int s.2)] dX7_code_34 (by decide) rfl ?_
    obtain ⟨x7, ex7, hf⟩ := ob hf
    refine r_iinc2 (pc := 35) X (-1) [some (.ref v0), some (.long y6), none, some (.int x7)] dX7_code_35 (by decide) rfl (by decide) ex7 rfl ?_
    refine r_goto (pc := 38) X 19 dX7_code_38 (by decide) ?_
    obtain rfl := Option.some.inj hf
    exact hk _
def fn_X7_code (h : aH) (p0 : Nat) : Option (Int64) :=
  (gI h p0 6 4).bind fun x1 =>
  (gI h p0 6 2).bind fun x2 =>
  (some ((lsl (Int32.toInt64 (x1 &&& 3)) 8) ||| (Int32.toInt64 x2))).bind fun y3 =>
  (lp (lb_X7_code_19 h p0) lpN (y3, 5)).bind fun o9 =>
  some o9
set_option maxRecDepth 20000 in
set_option maxHeartbeats 4000000 in
theorem ev_X7_code {l : Launch} {g : aG} {d : Nat} (hd : 0 ≤ d) (h : aH) (p0 : Nat) (o : Int64) (hf : fn_X7_code h p0 = some o) : EvM l g d yX7_code cX7_code 4 (some .long) [.ref p0] h (some (.long o), h) := by
  refine EvM.of mk_X7_code (Nat.le_of_ble_eq_true rfl) ?_
  intro Γ hl hg hq X
  have hd1 : 0 ≤ d := by omega
  have hk : RpJ h Γ o := hq
  unfold fn_X7_code at hf
  show Jd Γ (0, 0) 0 [some (.ref p0), none, none, none] [] h
  refine r_aload_n (pc := 0) X dX7_code_0 rfl ?_
  obtain ⟨x1, ex1, hf⟩ := ob hf
  refine r_getI (pc := 1) X dX7_code_1 fl_X7_31 rfl ex1 ?_
  refine r_iconst (pc := 4) X 3 dX7_code_4 (by decide) ?_
  refine r_iand (pc := 5) X dX7_code_5 ?_
  refine r_i2l (pc := 6) X dX7_code_6 ?_
  refine r_bipush (pc := 7) X 8 dX7_code_7 (by decide) ?_
  refine r_lshl (pc := 9) X dX7_code_9 ?_
  refine r_aload_n (pc := 10) X dX7_code_10 rfl ?_
  obtain ⟨x2, ex2, hf⟩ := ob hf
  refine r_getI (pc := 11) X dX7_code_11 fl_X7_24 rfl ex2 ?_
  refine r_i2l (pc := 14) X dX7_code_14 ?_
  refine r_lor (pc := 15) X dX7_code_15 ?_
  obtain ⟨y3, ey3, hf⟩ := ob hf
  refine r_nmJ ey3 ?_
  refine r_lstore_n (pc := 16) X [some (.ref p0), some (.long y3), none, none] dX7_code_16 (by decide) rfl ?_
  refine r_iconst (pc := 17) X 5 dX7_code_17 (by decide) ?_
  refine r_istore_n (pc := 18) X [some (.ref p0), some (.long y3), none, some (.int 5)] dX7_code_18 (by decide) rfl ?_
  obtain ⟨o9, eo9, hf⟩ := ob hf
  refine (lw_X7_code_19 X hd _ _ lpN _ o9 eo9 ?_) _
  obtain rfl := Option.some.inj hf
  exact hk

theorem dX7_levelOf_0 : decode cX7_levelOf 0 = .ok (.lload_n 0, 1) := by decide +kernel
theorem dX7_levelOf_1 : decode cX7_levelOf 1 = .ok (.iconst 4, 1) := by decide +kernel
theorem dX7_levelOf_2 : decode cX7_levelOf 2 = .ok (.iload_n 2, 1) := by decide +kernel
theorem dX7_levelOf_3 : decode cX7_levelOf 3 = .ok (.imul, 1) := by decide +kernel
theorem dX7_levelOf_4 : decode cX7_levelOf 4 = .ok (.lshr, 1) := by decide +kernel
theorem dX7_levelOf_5 : decode cX7_levelOf 5 = .ok (.l2i, 1) := by decide +kernel
theorem dX7_levelOf_6 : decode cX7_levelOf 6 = .ok (.bipush 15, 2) := by decide +kernel
theorem dX7_levelOf_8 : decode cX7_levelOf 8 = .ok (.iand, 1) := by decide +kernel
theorem dX7_levelOf_9 : decode cX7_levelOf 9 = .ok (.ireturn, 1) := by decide +kernel
def fn_X7_levelOf (h : aH) (p0 : Int64) (p1 : Int32) : Option (Int32) :=
  some ((Int64.toInt32 (lsr p0 (4 * p1))) &&& 15)
set_option maxRecDepth 20000 in
set_option maxHeartbeats 4000000 in
theorem ev_X7_levelOf {l : Launch} {g : aG} {d : Nat} (hd : 0 ≤ d) (h : aH) (p0 : Int64) (p1 : Int32) (o : Int32) (hf : fn_X7_levelOf h p0 p1 = some o) : EvM l g d yX7_levelOf cX7_levelOf 3 (some .int) [.long p0, .int p1] h (some (.int o), h) := by
  refine EvM.of mk_X7_levelOf (Nat.le_of_ble_eq_true rfl) ?_
  intro Γ hl hg hq X
  have hd1 : 0 ≤ d := by omega
  have hk : RpI h Γ o := hq
  unfold fn_X7_levelOf at hf
  show Jd Γ (0, 0) 0 [some (.long p0), none, some (.int p1)] [] h
  refine r_lload_n (pc := 0) X dX7_levelOf_0 rfl ?_
  refine r_iconst (pc := 1) X 4 dX7_levelOf_1 (by decide) ?_
  refine r_iload_n (pc := 2) X dX7_levelOf_2 rfl ?_
  refine r_imul (pc := 3) X dX7_levelOf_3 ?_
  refine r_lshr (pc := 4) X dX7_levelOf_4 ?_
  refine r_l2i (pc := 5) X dX7_levelOf_5 ?_
  refine r_bipush (pc := 6) X 15 dX7_levelOf_6 (by decide) ?_
  refine r_iand (pc := 8) X dX7_levelOf_8 ?_
  obtain rfl := Option.some.inj hf
  exact r_iret (pc := 9) X dX7_levelOf_9 hk

theorem dX7_levelsOf_0 : decode cX7_levelsOf 0 = .ok (.lload_n 0, 1) := by decide +kernel
theorem dX7_levelsOf_1 : decode cX7_levelsOf 1 = .ok (.l2i, 1) := by decide +kernel
theorem dX7_levelsOf_2 : decode cX7_levelsOf 2 = .ok (.ldc 37, 2) := by decide +kernel
theorem dX7_levelsOf_4 : decode cX7_levelsOf 4 = .ok (.iand, 1) := by decide +kernel
theorem dX7_levelsOf_5 : decode cX7_levelsOf 5 = .ok (.ireturn, 1) := by decide +kernel
def fn_X7_levelsOf (h : aH) (p0 : Int64) : Option (Int32) :=
  some ((Int64.toInt32 p0) &&& 16777215)
set_option maxRecDepth 20000 in
set_option maxHeartbeats 4000000 in
theorem ev_X7_levelsOf {l : Launch} {g : aG} {d : Nat} (hd : 0 ≤ d) (h : aH) (p0 : Int64) (o : Int32) (hf : fn_X7_levelsOf h p0 = some o) : EvM l g d yX7_levelsOf cX7_levelsOf 2 (some .int) [.long p0] h (some (.int o), h) := by
  refine EvM.of mk_X7_levelsOf (Nat.le_of_ble_eq_true rfl) ?_
  intro Γ hl hg hq X
  have hd1 : 0 ≤ d := by omega
  have hk : RpI h Γ o := hq
  unfold fn_X7_levelsOf at hf
  show Jd Γ (0, 0) 0 [some (.long p0), none] [] h
  refine r_lload_n (pc := 0) X dX7_levelsOf_0 rfl ?_
  refine r_l2i (pc := 1) X dX7_levelsOf_1 ?_
  refine r_ldc (pc := 2) X 16777215 dX7_levelsOf_2 kc_X7_37 ?_
  refine r_iand (pc := 4) X dX7_levelsOf_4 ?_
  obtain rfl := Option.some.inj hf
  exact r_iret (pc := 5) X dX7_levelsOf_5 hk

theorem dX7_sumOf_0 : decode cX7_sumOf 0 = .ok (.iconst 0, 1) := by decide +kernel
theorem dX7_sumOf_1 : decode cX7_sumOf 1 = .ok (.istore_n 2, 1) := by decide +kernel
theorem dX7_sumOf_2 : decode cX7_sumOf 2 = .ok (.iconst 0, 1) := by decide +kernel
theorem dX7_sumOf_3 : decode cX7_sumOf 3 = .ok (.istore_n 3, 1) := by decide +kernel
theorem dX7_sumOf_4 : decode cX7_sumOf 4 = .ok (.iload_n 3, 1) := by decide +kernel
theorem dX7_sumOf_5 : decode cX7_sumOf 5 = .ok (.bipush 6, 2) := by decide +kernel
theorem dX7_sumOf_7 : decode cX7_sumOf 7 = .ok (.if_icmp .ge 17, 3) := by decide +kernel
theorem dX7_sumOf_10 : decode cX7_sumOf 10 = .ok (.iload_n 2, 1) := by decide +kernel
theorem dX7_sumOf_11 : decode cX7_sumOf 11 = .ok (.lload_n 0, 1) := by decide +kernel
theorem dX7_sumOf_12 : decode cX7_sumOf 12 = .ok (.iload_n 3, 1) := by decide +kernel
theorem dX7_sumOf_13 : decode cX7_sumOf 13 = .ok (.invokestatic 38, 3) := by decide +kernel
theorem dX7_sumOf_16 : decode cX7_sumOf 16 = .ok (.iadd, 1) := by decide +kernel
theorem dX7_sumOf_17 : decode cX7_sumOf 17 = .ok (.istore_n 2, 1) := by decide +kernel
theorem dX7_sumOf_18 : decode cX7_sumOf 18 = .ok (.iinc 3 1, 3) := by decide +kernel
theorem dX7_sumOf_21 : decode cX7_sumOf 21 = .ok (.goto (-17), 3) := by decide +kernel
theorem dX7_sumOf_24 : decode cX7_sumOf 24 = .ok (.iload_n 2, 1) := by decide +kernel
theorem dX7_sumOf_25 : decode cX7_sumOf 25 = .ok (.ireturn, 1) := by decide +kernel
def lb_X7_sumOf_4 (hh : aH) (v0 : Int64) (s : Int32 × Int32) : Option ((Int32 × Int32) ⊕ ((Int32))) :=
  if s.2 < 6 then
    (fn_X7_levelOf hh v0 s.2).bind fun x1 =>
    (some (s.1 + x1)).bind fun x2 =>
    (some (s.2 + 1)).bind fun x3 =>
    some (.inl (x2, x3))
  else
    some (.inr s.1)
def hd_X7_sumOf_4 (Γ : aC) (hh : aH) (v0 : Int64) (s : Int32 × Int32) : Prop := ∀ (j1 : Option Value), Jd Γ (0, 0) 4 [some (.long v0), j1, some (.int s.1), some (.int s.2)] [] hh
def ex_X7_sumOf_4 (Γ : aC) (hh : aH) (v0 : Int64) (r : (Int32)) : Prop := (fun r => RpI hh Γ r) r
set_option maxRecDepth 20000 in
set_option maxHeartbeats 4000000 in
theorem lw_X7_sumOf_4 {Γ : aC} {d : Nat} (X : Cx Γ RX7 cX7_sumOf 4 (some .int) (d, 0, 0)) (hd : 1 ≤ d) (hh : aH) (v0 : Int64) : ∀ n s o, lp (lb_X7_sumOf_4 hh v0) n s = some o → ex_X7_sumOf_4 Γ hh v0 o → hd_X7_sumOf_4 Γ hh v0 s := by
  have hd1 : 1 ≤ d := by omega
  refine J_lp _ _ _ ?_
  intro s o hf hk j1
  unfold lb_X7_sumOf_4 at hf
  refine r_iload_n (pc := 4) X dX7_sumOf_4 rfl ?_
  refine r_bipush (pc := 5) X 6 dX7_sumOf_5 (by decide) ?_
  refine r_icmp_ge (pc := 7) X 24 dX7_sumOf_7 (by decide) (fun c4 => ?_) (fun c4 => ?_)
  · rw [if_neg c4] at hf
    refine r_iload_n (pc := 24) X dX7_sumOf_24 rfl ?_
    obtain rfl := Option.some.inj hf
    exact r_iret (pc := 25) X dX7_sumOf_25 hk
  · rw [if_pos c4] at hf
    refine r_iload_n (pc := 10) X dX7_sumOf_10 rfl ?_
    refine r_lload_n (pc := 11) X dX7_sumOf_11 rfl ?_
    refine r_iload_n (pc := 12) X dX7_sumOf_12 rfl ?_
    obtain ⟨x1, ex1, hf⟩ := ob hf
    refine r_callSI (pc := 13) X [.long v0, .int s.2] dX7_sumOf_13 ml_X7_38 so_X7_levelOf ⟨Nat.le_refl _, Nat.le_refl _⟩ (ev_X7_levelOf (d := d - 1) (by omega) _ _ _ _ ex1) hd1 rfl (Nat.le_of_ble_eq_true rfl) rfl ?_
    refine r_iadd (pc := 16) X dX7_sumOf_16 ?_
    obtain ⟨x2, ex2, hf⟩ := ob hf
    refine r_nmI ex2 ?_
    refine r_fg 1 [some (.long v0), none, some (.int s.1), some (.int s.2)] rfl ?_
    refine r_istore_n (pc := 17) X [some (.long v0), none, some (.int x2), some (.int s.2)] dX7_sumOf_17 (by decide) rfl ?_
    obtain ⟨x3, ex3, hf⟩ := ob hf
    refine r_iinc2 (pc := 18) X 1 [some (.long v0), none, some (.int x2), some (.int x3)] dX7_sumOf_18 (by decide) rfl (by decide) ex3 rfl ?_
    refine r_goto (pc := 21) X 4 dX7_sumOf_21 (by decide) ?_
    obtain rfl := Option.some.inj hf
    exact hk _
def fn_X7_sumOf (h : aH) (p0 : Int64) : Option (Int32) :=
  (lp (lb_X7_sumOf_4 h p0) lpN (0, 0)).bind fun o5 =>
  some o5
set_option maxRecDepth 20000 in
set_option maxHeartbeats 4000000 in
theorem ev_X7_sumOf {l : Launch} {g : aG} {d : Nat} (hd : 1 ≤ d) (h : aH) (p0 : Int64) (o : Int32) (hf : fn_X7_sumOf h p0 = some o) : EvM l g d yX7_sumOf cX7_sumOf 4 (some .int) [.long p0] h (some (.int o), h) := by
  refine EvM.of mk_X7_sumOf (Nat.le_of_ble_eq_true rfl) ?_
  intro Γ hl hg hq X
  have hd1 : 1 ≤ d := by omega
  have hk : RpI h Γ o := hq
  unfold fn_X7_sumOf at hf
  show Jd Γ (0, 0) 0 [some (.long p0), none, none, none] [] h
  refine r_iconst (pc := 0) X 0 dX7_sumOf_0 (by decide) ?_
  refine r_istore_n (pc := 1) X [some (.long p0), none, some (.int 0), none] dX7_sumOf_1 (by decide) rfl ?_
  refine r_iconst (pc := 2) X 0 dX7_sumOf_2 (by decide) ?_
  refine r_istore_n (pc := 3) X [some (.long p0), none, some (.int 0), some (.int 0)] dX7_sumOf_3 (by decide) rfl ?_
  obtain ⟨o5, eo5, hf⟩ := ob hf
  refine (lw_X7_sumOf_4 X hd _ _ lpN _ o5 eo5 ?_) _
  obtain rfl := Option.some.inj hf
  exact hk

theorem dX8_append_0 : decode cX8_append 0 = .ok (.aload_n 0, 1) := by decide +kernel
theorem dX8_append_1 : decode cX8_append 1 = .ok (.getfield 15, 3) := by decide +kernel
theorem dX8_append_4 : decode cX8_append 4 = .ok (.bipush 76, 2) := by decide +kernel
theorem dX8_append_6 : decode cX8_append 6 = .ok (.if_icmp .le 5, 3) := by decide +kernel
theorem dX8_append_9 : decode cX8_append 9 = .ok (.iconst (-1), 1) := by decide +kernel
theorem dX8_append_10 : decode cX8_append 10 = .ok (.ireturn, 1) := by decide +kernel
theorem dX8_append_11 : decode cX8_append 11 = .ok (.bipush 24, 2) := by decide +kernel
theorem dX8_append_13 : decode cX8_append 13 = .ok (.istore_n 2, 1) := by decide +kernel
theorem dX8_append_14 : decode cX8_append 14 = .ok (.iload_n 2, 1) := by decide +kernel
theorem dX8_append_15 : decode cX8_append 15 = .ok (.ifCond .lt 36, 3) := by decide +kernel
theorem dX8_append_18 : decode cX8_append 18 = .ok (.aload_n 0, 1) := by decide +kernel
theorem dX8_append_19 : decode cX8_append 19 = .ok (.getfield 9, 3) := by decide +kernel
theorem dX8_append_22 : decode cX8_append 22 = .ok (.aload_n 0, 1) := by decide +kernel
theorem dX8_append_23 : decode cX8_append 23 = .ok (.getfield 15, 3) := by decide +kernel
theorem dX8_append_26 : decode cX8_append 26 = .ok (.iload_n 1, 1) := by decide +kernel
theorem dX8_append_27 : decode cX8_append 27 = .ok (.iload_n 2, 1) := by decide +kernel
theorem dX8_append_28 : decode cX8_append 28 = .ok (.iushr, 1) := by decide +kernel
theorem dX8_append_29 : decode cX8_append 29 = .ok (.sipush 255, 3) := by decide +kernel
theorem dX8_append_32 : decode cX8_append 32 = .ok (.iand, 1) := by decide +kernel
theorem dX8_append_33 : decode cX8_append 33 = .ok (.i2c, 1) := by decide +kernel
theorem dX8_append_34 : decode cX8_append 34 = .ok (.castore, 1) := by decide +kernel
theorem dX8_append_35 : decode cX8_append 35 = .ok (.aload_n 0, 1) := by decide +kernel
theorem dX8_append_36 : decode cX8_append 36 = .ok (.dup, 1) := by decide +kernel
theorem dX8_append_37 : decode cX8_append 37 = .ok (.getfield 15, 3) := by decide +kernel
theorem dX8_append_40 : decode cX8_append 40 = .ok (.iconst 1, 1) := by decide +kernel
theorem dX8_append_41 : decode cX8_append 41 = .ok (.iadd, 1) := by decide +kernel
theorem dX8_append_42 : decode cX8_append 42 = .ok (.putfield 15, 3) := by decide +kernel
theorem dX8_append_45 : decode cX8_append 45 = .ok (.iinc 2 (-8), 3) := by decide +kernel
theorem dX8_append_48 : decode cX8_append 48 = .ok (.goto (-34), 3) := by decide +kernel
theorem dX8_append_51 : decode cX8_append 51 = .ok (.aload_n 0, 1) := by decide +kernel
theorem dX8_append_52 : decode cX8_append 52 = .ok (.getfield 15, 3) := by decide +kernel
theorem dX8_append_55 : decode cX8_append 55 = .ok (.ireturn, 1) := by decide +kernel
def lb_X8_append_14 (v0 : Nat) (v1 : Int32) (s : Int32 × aH) : Option ((Int32 × aH) ⊕ ((Int32 × aH))) :=
  if s.1 < 0 then
    (gI s.2 v0 7 1).bind fun x2 =>
    some (.inr (x2, s.2))
  else
    (gR s.2 v0 7 0).bind fun a3 =>
    (gI s.2 v0 7 1).bind fun x4 =>
    (wC s.2 a3 x4 (i2c ((ius v1 s.1) &&& 255))).bind fun h5 =>
    (gI h5 v0 7 1).bind fun x6 =>
    (pI h5 v0 7 1 (x6 + 1)).bind fun h7 =>
    (some (s.1 + (-8))).bind fun x8 =>
    some (.inl (x8, h7))
def hd_X8_append_14 (Γ : aC) (v0 : Nat) (v1 : Int32) (s : Int32 × aH) : Prop := Jd Γ (0, 0) 14 [some (.ref v0), some (.int v1), some (.int s.1)] [] s.2
def ex_X8_append_14 (Γ : aC) (v0 : Nat) (v1 : Int32) (r : (Int32 × aH)) : Prop := (fun r => RqI Γ r) r
set_option maxRecDepth 20000 in
set_option maxHeartbeats 4000000 in
theorem lw_X8_append_14 {Γ : aC} {d : Nat} (X : Cx Γ RX8 cX8_append 3 (some .int) (d, 0, 0)) (hd : 0 ≤ d) (v0 : Nat) (v1 : Int32) : ∀ n s o, lp (lb_X8_append_14 v0 v1) n s = some o → ex_X8_append_14 Γ v0 v1 o → hd_X8_append_14 Γ v0 v1 s := by
  have hd1 : 0 ≤ d := by omega
  refine J_lp _ _ _ ?_
  intro s o hf hk
  unfold lb_X8_append_14 at hf
  refine r_iload_n (pc := 14) X dX8_append_14 rfl ?_
  refine r_if_lt (pc := 15) X 51 dX8_append_15 (by decide) (fun c9 => ?_) (fun c9 => ?_)
  · rw [if_pos c9] at hf
    refine r_aload_n (pc := 51) X dX8_append_51 rfl ?_
    obtain ⟨x2, ex2, hf⟩ := ob hf
    refine r_getI (pc := 52) X dX8_append_52 fl_X8_15 rfl ex2 ?_
    obtain rfl := Option.some.inj hf
    exact r_iret (pc := 55) X dX8_append_55 hk
  · rw [if_neg c9] at hf
    refine r_aload_n (pc := 18) X dX8_append_18 rfl ?_
    obtain ⟨a3, ea3, hf⟩ := ob hf
    refine r_getR (pc := 19) X dX8_append_19 fl_X8_9 rfl ea3 ?_
    refine r_aload_n (pc := 22) X dX8_append_22 rfl ?_
    obtain ⟨x4, ex4, hf⟩ := ob hf
    refine r_getI (pc := 23) X dX8_append_23 fl_X8_15 rfl ex4 ?_
    refine r_iload_n (pc := 26) X dX8_append_26 rfl ?_
    refine r_iload_n (pc := 27) X dX8_append_27 rfl ?_
    refine r_iushr (pc := 28) X dX8_append_28 ?_
    refine r_sipush (pc := 29) X 255 dX8_append_29 (by decide) ?_
    refine r_iand (pc := 32) X dX8_append_32 ?_
    refine r_i2c (pc := 33) X dX8_append_33 ?_
    obtain ⟨h5, eh5, hf⟩ := ob hf
    refine r_cast (pc := 34) X dX8_append_34 eh5 ?_
    refine r_aload_n (pc := 35) X dX8_append_35 rfl ?_
    refine r_dup (pc := 36) X dX8_append_36 rfl ?_
    obtain ⟨x6, ex6, hf⟩ := ob hf
    refine r_getI (pc := 37) X dX8_append_37 fl_X8_15 rfl ex6 ?_
    refine r_iconst (pc := 40) X 1 dX8_append_40 (by decide) ?_
    refine r_iadd (pc := 41) X dX8_append_41 ?_
    obtain ⟨h7, eh7, hf⟩ := ob hf
    refine r_putI (pc := 42) X dX8_append_42 fp_X8_15 rfl eh7 ?_
    obtain ⟨x8, ex8, hf⟩ := ob hf
    refine r_iinc2 (pc := 45) X (-8) [some (.ref v0), some (.int v1), some (.int x8)] dX8_append_45 (by decide) rfl (by decide) ex8 rfl ?_
    refine r_goto (pc := 48) X 14 dX8_append_48 (by decide) ?_
    obtain rfl := Option.some.inj hf
    exact hk
def fn_X8_append (h : aH) (p0 : Nat) (p1 : Int32) : Option (Int32 × aH) :=
  (gI h p0 7 1).bind fun x1 =>
  if x1 ≤ 76 then
    (lp (lb_X8_append_14 p0 p1) lpN (24, h)).bind fun o10 =>
    some o10
  else
    some ((-1), h)
set_option maxRecDepth 20000 in
set_option maxHeartbeats 4000000 in
theorem ev_X8_append {l : Launch} {g : aG} {d : Nat} (hd : 0 ≤ d) (h : aH) (p0 : Nat) (p1 : Int32) (o : Int32 × aH) (hf : fn_X8_append h p0 p1 = some o) : EvM l g d yX8_append cX8_append 3 (some .int) [.ref p0, .int p1] h (some (.int o.1), o.2) := by
  refine EvM.of mk_X8_append (Nat.le_of_ble_eq_true rfl) ?_
  intro Γ hl hg hq X
  have hd1 : 0 ≤ d := by omega
  have hk : RqI Γ o := hq
  unfold fn_X8_append at hf
  show Jd Γ (0, 0) 0 [some (.ref p0), some (.int p1), none] [] h
  refine r_aload_n (pc := 0) X dX8_append_0 rfl ?_
  obtain ⟨x1, ex1, hf⟩ := ob hf
  refine r_getI (pc := 1) X dX8_append_1 fl_X8_15 rfl ex1 ?_
  refine r_bipush (pc := 4) X 76 dX8_append_4 (by decide) ?_
  refine r_icmp_le (pc := 6) X 11 dX8_append_6 (by decide) (fun c11 => ?_) (fun c11 => ?_)
  · rw [if_pos c11] at hf
    refine r_bipush (pc := 11) X 24 dX8_append_11 (by decide) ?_
    refine r_istore_n (pc := 13) X [some (.ref p0), some (.int p1), some (.int 24)] dX8_append_13 (by decide) rfl ?_
    obtain ⟨o10, eo10, hf⟩ := ob hf
    refine (lw_X8_append_14 X hd _ _ lpN _ o10 eo10 ?_)
    obtain rfl := Option.some.inj hf
    exact hk
  · rw [if_neg c11] at hf
    refine r_iconst (pc := 9) X (-1) dX8_append_9 (by decide) ?_
    obtain rfl := Option.some.inj hf
    exact r_iret (pc := 10) X dX8_append_10 hk

theorem dX8_shorten_0 : decode cX8_shorten 0 = .ok (.iload_n 1, 1) := by decide +kernel
theorem dX8_shorten_1 : decode cX8_shorten 1 = .ok (.ifCond .lt 11, 3) := by decide +kernel
theorem dX8_shorten_4 : decode cX8_shorten 4 = .ok (.iload_n 1, 1) := by decide +kernel
theorem dX8_shorten_5 : decode cX8_shorten 5 = .ok (.aload_n 0, 1) := by decide +kernel
theorem dX8_shorten_6 : decode cX8_shorten 6 = .ok (.getfield 15, 3) := by decide +kernel
theorem dX8_shorten_9 : decode cX8_shorten 9 = .ok (.if_icmp .le 5, 3) := by decide +kernel
theorem dX8_shorten_12 : decode cX8_shorten 12 = .ok (.iconst 0, 1) := by decide +kernel
theorem dX8_shorten_13 : decode cX8_shorten 13 = .ok (.ireturn, 1) := by decide +kernel
theorem dX8_shorten_14 : decode cX8_shorten 14 = .ok (.aload_n 0, 1) := by decide +kernel
theorem dX8_shorten_15 : decode cX8_shorten 15 = .ok (.iload_n 1, 1) := by decide +kernel
theorem dX8_shorten_16 : decode cX8_shorten 16 = .ok (.putfield 15, 3) := by decide +kernel
theorem dX8_shorten_19 : decode cX8_shorten 19 = .ok (.iconst 1, 1) := by decide +kernel
theorem dX8_shorten_20 : decode cX8_shorten 20 = .ok (.ireturn, 1) := by decide +kernel
def fn_X8_shorten (h : aH) (p0 : Nat) (p1 : Int32) : Option (Int32 × aH) :=
  if p1 < 0 then
    some (0, h)
  else
    (gI h p0 7 1).bind fun x1 =>
    if p1 ≤ x1 then
      (pI h p0 7 1 p1).bind fun h2 =>
      some (1, h2)
    else
      some (0, h)
set_option maxRecDepth 20000 in
set_option maxHeartbeats 4000000 in
theorem ev_X8_shorten {l : Launch} {g : aG} {d : Nat} (hd : 0 ≤ d) (h : aH) (p0 : Nat) (p1 : Int32) (o : Int32 × aH) (hf : fn_X8_shorten h p0 p1 = some o) : EvM l g d yX8_shorten cX8_shorten 2 (some .boolean) [.ref p0, .int p1] h (some (.int o.1), o.2) := by
  refine EvM.of mk_X8_shorten (Nat.le_of_ble_eq_true rfl) ?_
  intro Γ hl hg hq X
  have hd1 : 0 ≤ d := by omega
  have hk : RqI Γ o := hq
  unfold fn_X8_shorten at hf
  show Jd Γ (0, 0) 0 [some (.ref p0), some (.int p1)] [] h
  refine r_iload_n (pc := 0) X dX8_shorten_0 rfl ?_
  refine r_if_lt (pc := 1) X 12 dX8_shorten_1 (by decide) (fun c4 => ?_) (fun c4 => ?_)
  · rw [if_pos c4] at hf
    refine r_iconst (pc := 12) X 0 dX8_shorten_12 (by decide) ?_
    obtain rfl := Option.some.inj hf
    exact r_zret (pc := 13) X dX8_shorten_13 (Or.inl rfl) hk
  · rw [if_neg c4] at hf
    refine r_iload_n (pc := 4) X dX8_shorten_4 rfl ?_
    refine r_aload_n (pc := 5) X dX8_shorten_5 rfl ?_
    obtain ⟨x1, ex1, hf⟩ := ob hf
    refine r_getI (pc := 6) X dX8_shorten_6 fl_X8_15 rfl ex1 ?_
    refine r_icmp_le (pc := 9) X 14 dX8_shorten_9 (by decide) (fun c3 => ?_) (fun c3 => ?_)
    · rw [if_pos c3] at hf
      refine r_aload_n (pc := 14) X dX8_shorten_14 rfl ?_
      refine r_iload_n (pc := 15) X dX8_shorten_15 rfl ?_
      obtain ⟨h2, eh2, hf⟩ := ob hf
      refine r_putI (pc := 16) X dX8_shorten_16 fp_X8_15 rfl eh2 ?_
      refine r_iconst (pc := 19) X 1 dX8_shorten_19 (by decide) ?_
      obtain rfl := Option.some.inj hf
      exact r_zret (pc := 20) X dX8_shorten_20 (Or.inr rfl) hk
    · rw [if_neg c3] at hf
      refine r_iconst (pc := 12) X 0 dX8_shorten_12 (by decide) ?_
      obtain rfl := Option.some.inj hf
      exact r_zret (pc := 13) X dX8_shorten_13 (Or.inl rfl) hk

theorem dX8_at_0 : decode cX8_at 0 = .ok (.iload_n 1, 1) := by decide +kernel
theorem dX8_at_1 : decode cX8_at 1 = .ok (.ifCond .lt 20, 3) := by decide +kernel
theorem dX8_at_4 : decode cX8_at 4 = .ok (.iload_n 1, 1) := by decide +kernel
theorem dX8_at_5 : decode cX8_at 5 = .ok (.aload_n 0, 1) := by decide +kernel
theorem dX8_at_6 : decode cX8_at 6 = .ok (.getfield 15, 3) := by decide +kernel
theorem dX8_at_9 : decode cX8_at 9 = .ok (.if_icmp .ge 12, 3) := by decide +kernel
theorem dX8_at_12 : decode cX8_at 12 = .ok (.aload_n 0, 1) := by decide +kernel
theorem dX8_at_13 : decode cX8_at 13 = .ok (.getfield 9, 3) := by decide +kernel
theorem dX8_at_16 : decode cX8_at 16 = .ok (.iload_n 1, 1) := by decide +kernel
theorem dX8_at_17 : decode cX8_at 17 = .ok (.caload, 1) := by decide +kernel
theorem dX8_at_18 : decode cX8_at 18 = .ok (.goto 4, 3) := by decide +kernel
theorem dX8_at_21 : decode cX8_at 21 = .ok (.iconst (-1), 1) := by decide +kernel
theorem dX8_at_22 : decode cX8_at 22 = .ok (.ireturn, 1) := by decide +kernel
def fn_X8_at (h : aH) (p0 : Nat) (p1 : Int32) : Option (Int32) :=
  if p1 < 0 then
    some (-1)
  else
    (gI h p0 7 1).bind fun x1 =>
    if p1 < x1 then
      (gR h p0 7 0).bind fun a2 =>
      (aI h a2 13 p1).bind fun x3 =>
      some x3
    else
      some (-1)
set_option maxRecDepth 20000 in
set_option maxHeartbeats 4000000 in
theorem ev_X8_at {l : Launch} {g : aG} {d : Nat} (hd : 0 ≤ d) (h : aH) (p0 : Nat) (p1 : Int32) (o : Int32) (hf : fn_X8_at h p0 p1 = some o) : EvM l g d yX8_at cX8_at 2 (some .int) [.ref p0, .int p1] h (some (.int o), h) := by
  refine EvM.of mk_X8_at (Nat.le_of_ble_eq_true rfl) ?_
  intro Γ hl hg hq X
  have hd1 : 0 ≤ d := by omega
  have hk : RpI h Γ o := hq
  unfold fn_X8_at at hf
  show Jd Γ (0, 0) 0 [some (.ref p0), some (.int p1)] [] h
  refine r_iload_n (pc := 0) X dX8_at_0 rfl ?_
  refine r_if_lt (pc := 1) X 21 dX8_at_1 (by decide) (fun c5 => ?_) (fun c5 => ?_)
  · rw [if_pos c5] at hf
    refine r_iconst (pc := 21) X (-1) dX8_at_21 (by decide) ?_
    obtain rfl := Option.some.inj hf
    exact r_iret (pc := 22) X dX8_at_22 hk
  · rw [if_neg c5] at hf
    refine r_iload_n (pc := 4) X dX8_at_4 rfl ?_
    refine r_aload_n (pc := 5) X dX8_at_5 rfl ?_
    obtain ⟨x1, ex1, hf⟩ := ob hf
    refine r_getI (pc := 6) X dX8_at_6 fl_X8_15 rfl ex1 ?_
    refine r_icmp_ge (pc := 9) X 21 dX8_at_9 (by decide) (fun c4 => ?_) (fun c4 => ?_)
    · rw [if_neg c4] at hf
      refine r_iconst (pc := 21) X (-1) dX8_at_21 (by decide) ?_
      obtain rfl := Option.some.inj hf
      exact r_iret (pc := 22) X dX8_at_22 hk
    · rw [if_pos c4] at hf
      refine r_aload_n (pc := 12) X dX8_at_12 rfl ?_
      obtain ⟨a2, ea2, hf⟩ := ob hf
      refine r_getR (pc := 13) X dX8_at_13 fl_X8_9 rfl ea2 ?_
      refine r_iload_n (pc := 16) X dX8_at_16 rfl ?_
      obtain ⟨x3, ex3, hf⟩ := ob hf
      refine r_cald (pc := 17) X dX8_at_17 ex3 ?_
      refine r_goto (pc := 18) X 22 dX8_at_18 (by decide) ?_
      obtain rfl := Option.some.inj hf
      exact r_iret (pc := 22) X dX8_at_22 hk

theorem dX8_isDigit_0 : decode cX8_isDigit 0 = .ok (.aload_n 0, 1) := by decide +kernel
theorem dX8_isDigit_1 : decode cX8_isDigit 1 = .ok (.iload_n 1, 1) := by decide +kernel
theorem dX8_isDigit_2 : decode cX8_isDigit 2 = .ok (.invokevirtual 19, 3) := by decide +kernel
theorem dX8_isDigit_5 : decode cX8_isDigit 5 = .ok (.istore_n 2, 1) := by decide +kernel
theorem dX8_isDigit_6 : decode cX8_isDigit 6 = .ok (.iload_n 2, 1) := by decide +kernel
theorem dX8_isDigit_7 : decode cX8_isDigit 7 = .ok (.bipush 48, 2) := by decide +kernel
theorem dX8_isDigit_9 : decode cX8_isDigit 9 = .ok (.if_icmp .lt 13, 3) := by decide +kernel
theorem dX8_isDigit_12 : decode cX8_isDigit 12 = .ok (.iload_n 2, 1) := by decide +kernel
theorem dX8_isDigit_13 : decode cX8_isDigit 13 = .ok (.bipush 57, 2) := by decide +kernel
theorem dX8_isDigit_15 : decode cX8_isDigit 15 = .ok (.if_icmp .gt 7, 3) := by decide +kernel
theorem dX8_isDigit_18 : decode cX8_isDigit 18 = .ok (.iconst 1, 1) := by decide +kernel
theorem dX8_isDigit_19 : decode cX8_isDigit 19 = .ok (.goto 4, 3) := by decide +kernel
theorem dX8_isDigit_22 : decode cX8_isDigit 22 = .ok (.iconst 0, 1) := by decide +kernel
theorem dX8_isDigit_23 : decode cX8_isDigit 23 = .ok (.ireturn, 1) := by decide +kernel
def fn_X8_isDigit (h : aH) (p0 : Nat) (p1 : Int32) : Option (Int32) :=
  (ck h p0 7).bind fun u1 =>
  (fn_X8_at h p0 p1).bind fun x2 =>
  if x2 < 48 then
    some 0
  else
    if x2 ≤ 57 then
      some 1
    else
      some 0
set_option maxRecDepth 20000 in
set_option maxHeartbeats 4000000 in
theorem ev_X8_isDigit {l : Launch} {g : aG} {d : Nat} (hd : 1 ≤ d) (h : aH) (p0 : Nat) (p1 : Int32) (o : Int32) (hf : fn_X8_isDigit h p0 p1 = some o) : EvM l g d yX8_isDigit cX8_isDigit 3 (some .boolean) [.ref p0, .int p1] h (some (.int o), h) := by
  refine EvM.of mk_X8_isDigit (Nat.le_of_ble_eq_true rfl) ?_
  intro Γ hl hg hq X
  have hd1 : 1 ≤ d := by omega
  have hk : RpI h Γ o := hq
  unfold fn_X8_isDigit at hf
  show Jd Γ (0, 0) 0 [some (.ref p0), some (.int p1), none] [] h
  refine r_aload_n (pc := 0) X dX8_isDigit_0 rfl ?_
  refine r_iload_n (pc := 1) X dX8_isDigit_1 rfl ?_
  obtain ⟨u1, eu1, hf⟩ := ob hf
  obtain ⟨x2, ex2, hf⟩ := ob hf
  refine r_callVI (pc := 2) X [.int p1] dX8_isDigit_2 ml_X8_19 vo_X8_at ⟨Nat.le_refl _, Nat.le_refl _⟩ eu1 (ev_X8_at (d := d - 1) (by omega) _ _ _ _ ex2) hd1 rfl (Nat.le_of_ble_eq_true rfl) rfl ?_
  refine r_istore_n (pc := 5) X [some (.ref p0), some (.int p1), some (.int x2)] dX8_isDigit_5 (by decide) rfl ?_
  refine r_iload_n (pc := 6) X dX8_isDigit_6 rfl ?_
  refine r_bipush (pc := 7) X 48 dX8_isDigit_7 (by decide) ?_
  refine r_icmp_lt (pc := 9) X 22 dX8_isDigit_9 (by decide) (fun c4 => ?_) (fun c4 => ?_)
  · rw [if_pos c4] at hf
    refine r_iconst (pc := 22) X 0 dX8_isDigit_22 (by decide) ?_
    obtain rfl := Option.some.inj hf
    exact r_zret (pc := 23) X dX8_isDigit_23 (Or.inl rfl) hk
  · rw [if_neg c4] at hf
    refine r_iload_n (pc := 12) X dX8_isDigit_12 rfl ?_
    refine r_bipush (pc := 13) X 57 dX8_isDigit_13 (by decide) ?_
    refine r_icmp_gt (pc := 15) X 22 dX8_isDigit_15 (by decide) (fun c3 => ?_) (fun c3 => ?_)
    · rw [if_neg c3] at hf
      refine r_iconst (pc := 22) X 0 dX8_isDigit_22 (by decide) ?_
      obtain rfl := Option.some.inj hf
      exact r_zret (pc := 23) X dX8_isDigit_23 (Or.inl rfl) hk
    · rw [if_pos c3] at hf
      refine r_iconst (pc := 18) X 1 dX8_isDigit_18 (by decide) ?_
      refine r_goto (pc := 19) X 23 dX8_isDigit_19 (by decide) ?_
      obtain rfl := Option.some.inj hf
      exact r_zret (pc := 23) X dX8_isDigit_23 (Or.inr rfl) hk

theorem dX8_digit_0 : decode cX8_digit 0 = .ok (.aload_n 0, 1) := by decide +kernel
theorem dX8_digit_1 : decode cX8_digit 1 = .ok (.iload_n 1, 1) := by decide +kernel
theorem dX8_digit_2 : decode cX8_digit 2 = .ok (.invokevirtual 23, 3) := by decide +kernel
theorem dX8_digit_5 : decode cX8_digit 5 = .ok (.ifCond .eq 14, 3) := by decide +kernel
theorem dX8_digit_8 : decode cX8_digit 8 = .ok (.aload_n 0, 1) := by decide +kernel
theorem dX8_digit_9 : decode cX8_digit 9 = .ok (.iload_n 1, 1) := by decide +kernel
theorem dX8_digit_10 : decode cX8_digit 10 = .ok (.invokevirtual 19, 3) := by decide +kernel
theorem dX8_digit_13 : decode cX8_digit 13 = .ok (.bipush 48, 2) := by decide +kernel
theorem dX8_digit_15 : decode cX8_digit 15 = .ok (.isub, 1) := by decide +kernel
theorem dX8_digit_16 : decode cX8_digit 16 = .ok (.goto 4, 3) := by decide +kernel
theorem dX8_digit_19 : decode cX8_digit 19 = .ok (.iconst 0, 1) := by decide +kernel
theorem dX8_digit_20 : decode cX8_digit 20 = .ok (.ireturn, 1) := by decide +kernel
def fn_X8_digit (h : aH) (p0 : Nat) (p1 : Int32) : Option (Int32) :=
  (ck h p0 7).bind fun u1 =>
  (fn_X8_isDigit h p0 p1).bind fun x2 =>
  if x2 = 0 then
    some 0
  else
    (ck h p0 7).bind fun u3 =>
    (fn_X8_at h p0 p1).bind fun x4 =>
    some (x4 - 48)
set_option maxRecDepth 20000 in
set_option maxHeartbeats 4000000 in
theorem ev_X8_digit {l : Launch} {g : aG} {d : Nat} (hd : 2 ≤ d) (h : aH) (p0 : Nat) (p1 : Int32) (o : Int32) (hf : fn_X8_digit h p0 p1 = some o) : EvM l g d yX8_digit cX8_digit 2 (some .int) [.ref p0, .int p1] h (some (.int o), h) := by
  refine EvM.of mk_X8_digit (Nat.le_of_ble_eq_true rfl) ?_
  intro Γ hl hg hq X
  have hd1 : 1 ≤ d := by omega
  have hk : RpI h Γ o := hq
  unfold fn_X8_digit at hf
  show Jd Γ (0, 0) 0 [some (.ref p0), some (.int p1)] [] h
  refine r_aload_n (pc := 0) X dX8_digit_0 rfl ?_
  refine r_iload_n (pc := 1) X dX8_digit_1 rfl ?_
  obtain ⟨u1, eu1, hf⟩ := ob hf
  obtain ⟨x2, ex2, hf⟩ := ob hf
  refine r_callVI (pc := 2) X [.int p1] dX8_digit_2 ml_X8_23 vo_X8_isDigit ⟨Nat.le_refl _, Nat.le_refl _⟩ eu1 (ev_X8_isDigit (d := d - 1) (by omega) _ _ _ _ ex2) hd1 rfl (Nat.le_of_ble_eq_true rfl) rfl ?_
  refine r_if_eq (pc := 5) X 19 dX8_digit_5 (by decide) (fun c5 => ?_) (fun c5 => ?_)
  · rw [if_pos c5] at hf
    refine r_iconst (pc := 19) X 0 dX8_digit_19 (by decide) ?_
    obtain rfl := Option.some.inj hf
    exact r_iret (pc := 20) X dX8_digit_20 hk
  · rw [if_neg c5] at hf
    refine r_aload_n (pc := 8) X dX8_digit_8 rfl ?_
    refine r_iload_n (pc := 9) X dX8_digit_9 rfl ?_
    obtain ⟨u3, eu3, hf⟩ := ob hf
    obtain ⟨x4, ex4, hf⟩ := ob hf
    refine r_callVI (pc := 10) X [.int p1] dX8_digit_10 ml_X8_19 vo_X8_at ⟨Nat.le_refl _, Nat.le_refl _⟩ eu3 (ev_X8_at (d := d - 1) (by omega) _ _ _ _ ex4) hd1 rfl (Nat.le_of_ble_eq_true rfl) rfl ?_
    refine r_bipush (pc := 13) X 48 dX8_digit_13 (by decide) ?_
    refine r_isub (pc := 15) X dX8_digit_15 ?_
    refine r_goto (pc := 16) X 20 dX8_digit_16 (by decide) ?_
    obtain rfl := Option.some.inj hf
    exact r_iret (pc := 20) X dX8_digit_20 hk

theorem dX8_clear_0 : decode cX8_clear 0 = .ok (.aload_n 0, 1) := by decide +kernel
theorem dX8_clear_1 : decode cX8_clear 1 = .ok (.iconst 0, 1) := by decide +kernel
theorem dX8_clear_2 : decode cX8_clear 2 = .ok (.putfield 15, 3) := by decide +kernel
theorem dX8_clear_5 : decode cX8_clear 5 = .ok (.return_, 1) := by decide +kernel
def fn_X8_clear (h : aH) (p0 : Nat) : Option (aH) :=
  (pI h p0 7 1 0).bind fun h1 =>
  some h1
set_option maxRecDepth 20000 in
set_option maxHeartbeats 4000000 in
theorem ev_X8_clear {l : Launch} {g : aG} {d : Nat} (hd : 0 ≤ d) (h : aH) (p0 : Nat) (o : aH) (hf : fn_X8_clear h p0 = some o) : EvM l g d yX8_clear cX8_clear 1 none [.ref p0] h (none, o) := by
  refine EvM.of mk_X8_clear (Nat.le_of_ble_eq_true rfl) ?_
  intro Γ hl hg hq X
  have hd1 : 0 ≤ d := by omega
  have hk : RqV Γ o := hq
  unfold fn_X8_clear at hf
  show Jd Γ (0, 0) 0 [some (.ref p0)] [] h
  refine r_aload_n (pc := 0) X dX8_clear_0 rfl ?_
  refine r_iconst (pc := 1) X 0 dX8_clear_1 (by decide) ?_
  obtain ⟨h1, eh1, hf⟩ := ob hf
  refine r_putI (pc := 2) X dX8_clear_2 fp_X8_15 rfl eh1 ?_
  obtain rfl := Option.some.inj hf
  exact r_vret (pc := 5) X dX8_clear_5 hk

theorem dX3_begin_0 : decode cX3_begin 0 = .ok (.aload_n 0, 1) := by decide +kernel
theorem dX3_begin_1 : decode cX3_begin 1 = .ok (.iconst 0, 1) := by decide +kernel
theorem dX3_begin_2 : decode cX3_begin 2 = .ok (.putfield 13, 3) := by decide +kernel
theorem dX3_begin_5 : decode cX3_begin 5 = .ok (.return_, 1) := by decide +kernel
def fn_X3_begin (h : aH) (p0 : Nat) : Option (aH) :=
  (pI h p0 2 1 0).bind fun h1 =>
  some h1
set_option maxRecDepth 20000 in
set_option maxHeartbeats 4000000 in
theorem ev_X3_begin {l : Launch} {g : aG} {d : Nat} (hd : 0 ≤ d) (h : aH) (p0 : Nat) (o : aH) (hf : fn_X3_begin h p0 = some o) : EvM l g d yX3_begin cX3_begin 1 none [.ref p0] h (none, o) := by
  refine EvM.of mk_X3_begin (Nat.le_of_ble_eq_true rfl) ?_
  intro Γ hl hg hq X
  have hd1 : 0 ≤ d := by omega
  have hk : RqV Γ o := hq
  unfold fn_X3_begin at hf
  show Jd Γ (0, 0) 0 [some (.ref p0)] [] h
  refine r_aload_n (pc := 0) X dX3_begin_0 rfl ?_
  refine r_iconst (pc := 1) X 0 dX3_begin_1 (by decide) ?_
  obtain ⟨h1, eh1, hf⟩ := ob hf
  refine r_putI (pc := 2) X dX3_begin_2 fp_X3_13 rfl eh1 ?_
  obtain rfl := Option.some.inj hf
  exact r_vret (pc := 5) X dX3_begin_5 hk

theorem dX3_add_0 : decode cX3_add 0 = .ok (.aload_n 0, 1) := by decide +kernel
theorem dX3_add_1 : decode cX3_add 1 = .ok (.getfield 13, 3) := by decide +kernel
theorem dX3_add_4 : decode cX3_add 4 = .ok (.bipush 16, 2) := by decide +kernel
theorem dX3_add_6 : decode cX3_add 6 = .ok (.if_icmp .ge 23, 3) := by decide +kernel
theorem dX3_add_9 : decode cX3_add 9 = .ok (.aload_n 0, 1) := by decide +kernel
theorem dX3_add_10 : decode cX3_add 10 = .ok (.getfield 9, 3) := by decide +kernel
theorem dX3_add_13 : decode cX3_add 13 = .ok (.aload_n 0, 1) := by decide +kernel
theorem dX3_add_14 : decode cX3_add 14 = .ok (.getfield 13, 3) := by decide +kernel
theorem dX3_add_17 : decode cX3_add 17 = .ok (.lload_n 1, 1) := by decide +kernel
theorem dX3_add_18 : decode cX3_add 18 = .ok (.lastore, 1) := by decide +kernel
theorem dX3_add_19 : decode cX3_add 19 = .ok (.aload_n 0, 1) := by decide +kernel
theorem dX3_add_20 : decode cX3_add 20 = .ok (.dup, 1) := by decide +kernel
theorem dX3_add_21 : decode cX3_add 21 = .ok (.getfield 13, 3) := by decide +kernel
theorem dX3_add_24 : decode cX3_add 24 = .ok (.iconst 1, 1) := by decide +kernel
theorem dX3_add_25 : decode cX3_add 25 = .ok (.iadd, 1) := by decide +kernel
theorem dX3_add_26 : decode cX3_add 26 = .ok (.putfield 13, 3) := by decide +kernel
theorem dX3_add_29 : decode cX3_add 29 = .ok (.return_, 1) := by decide +kernel
def fn_X3_add (h : aH) (p0 : Nat) (p1 : Int64) : Option (aH) :=
  (gI h p0 2 1).bind fun x1 =>
  if x1 < 16 then
    (gR h p0 2 0).bind fun a2 =>
    (gI h p0 2 1).bind fun x3 =>
    (wJ h a2 x3 p1).bind fun h4 =>
    (gI h4 p0 2 1).bind fun x5 =>
    (pI h4 p0 2 1 (x5 + 1)).bind fun h6 =>
    some h6
  else
    some h
set_option maxRecDepth 20000 in
set_option maxHeartbeats 4000000 in
theorem ev_X3_add {l : Launch} {g : aG} {d : Nat} (hd : 0 ≤ d) (h : aH) (p0 : Nat) (p1 : Int64) (o : aH) (hf : fn_X3_add h p0 p1 = some o) : EvM l g d yX3_add cX3_add 3 none [.ref p0, .long p1] h (none, o) := by
  refine EvM.of mk_X3_add (Nat.le_of_ble_eq_true rfl) ?_
  intro Γ hl hg hq X
  have hd1 : 0 ≤ d := by omega
  have hk : RqV Γ o := hq
  unfold fn_X3_add at hf
  show Jd Γ (0, 0) 0 [some (.ref p0), some (.long p1), none] [] h
  refine r_aload_n (pc := 0) X dX3_add_0 rfl ?_
  obtain ⟨x1, ex1, hf⟩ := ob hf
  refine r_getI (pc := 1) X dX3_add_1 fl_X3_13 rfl ex1 ?_
  refine r_bipush (pc := 4) X 16 dX3_add_4 (by decide) ?_
  refine r_icmp_ge (pc := 6) X 29 dX3_add_6 (by decide) (fun c7 => ?_) (fun c7 => ?_)
  · rw [if_neg c7] at hf
    obtain rfl := Option.some.inj hf
    exact r_vret (pc := 29) X dX3_add_29 hk
  · rw [if_pos c7] at hf
    refine r_aload_n (pc := 9) X dX3_add_9 rfl ?_
    obtain ⟨a2, ea2, hf⟩ := ob hf
    refine r_getR (pc := 10) X dX3_add_10 fl_X3_9 rfl ea2 ?_
    refine r_aload_n (pc := 13) X dX3_add_13 rfl ?_
    obtain ⟨x3, ex3, hf⟩ := ob hf
    refine r_getI (pc := 14) X dX3_add_14 fl_X3_13 rfl ex3 ?_
    refine r_lload_n (pc := 17) X dX3_add_17 rfl ?_
    obtain ⟨h4, eh4, hf⟩ := ob hf
    refine r_last (pc := 18) X dX3_add_18 eh4 ?_
    refine r_aload_n (pc := 19) X dX3_add_19 rfl ?_
    refine r_dup (pc := 20) X dX3_add_20 rfl ?_
    obtain ⟨x5, ex5, hf⟩ := ob hf
    refine r_getI (pc := 21) X dX3_add_21 fl_X3_13 rfl ex5 ?_
    refine r_iconst (pc := 24) X 1 dX3_add_24 (by decide) ?_
    refine r_iadd (pc := 25) X dX3_add_25 ?_
    obtain ⟨h6, eh6, hf⟩ := ob hf
    refine r_putI (pc := 26) X dX3_add_26 fp_X3_13 rfl eh6 ?_
    obtain rfl := Option.some.inj hf
    exact r_vret (pc := 29) X dX3_add_29 hk

theorem dX6_add_0 : decode cX6_add 0 = .ok (.aload_n 0, 1) := by decide +kernel
theorem dX6_add_1 : decode cX6_add 1 = .ok (.getfield 21, 3) := by decide +kernel
theorem dX6_add_4 : decode cX6_add 4 = .ok (.bipush 10, 2) := by decide +kernel
theorem dX6_add_6 : decode cX6_add 6 = .ok (.if_icmp .lt 5, 3) := by decide +kernel
theorem dX6_add_9 : decode cX6_add 9 = .ok (.iconst (-1), 1) := by decide +kernel
theorem dX6_add_10 : decode cX6_add 10 = .ok (.ireturn, 1) := by decide +kernel
theorem dX6_add_11 : decode cX6_add 11 = .ok (.aload_n 0, 1) := by decide +kernel
theorem dX6_add_12 : decode cX6_add 12 = .ok (.getfield 11, 3) := by decide +kernel
theorem dX6_add_15 : decode cX6_add 15 = .ok (.aload_n 0, 1) := by decide +kernel
theorem dX6_add_16 : decode cX6_add 16 = .ok (.getfield 21, 3) := by decide +kernel
theorem dX6_add_19 : decode cX6_add 19 = .ok (.iload_n 1, 1) := by decide +kernel
theorem dX6_add_20 : decode cX6_add 20 = .ok (.iastore, 1) := by decide +kernel
theorem dX6_add_21 : decode cX6_add 21 = .ok (.aload_n 0, 1) := by decide +kernel
theorem dX6_add_22 : decode cX6_add 22 = .ok (.getfield 15, 3) := by decide +kernel
theorem dX6_add_25 : decode cX6_add 25 = .ok (.aload_n 0, 1) := by decide +kernel
theorem dX6_add_26 : decode cX6_add 26 = .ok (.getfield 21, 3) := by decide +kernel
theorem dX6_add_29 : decode cX6_add 29 = .ok (.iload_n 2, 1) := by decide +kernel
theorem dX6_add_30 : decode cX6_add 30 = .ok (.iastore, 1) := by decide +kernel
theorem dX6_add_31 : decode cX6_add 31 = .ok (.aload_n 0, 1) := by decide +kernel
theorem dX6_add_32 : decode cX6_add 32 = .ok (.getfield 18, 3) := by decide +kernel
theorem dX6_add_35 : decode cX6_add 35 = .ok (.aload_n 0, 1) := by decide +kernel
theorem dX6_add_36 : decode cX6_add 36 = .ok (.getfield 21, 3) := by decide +kernel
theorem dX6_add_39 : decode cX6_add 39 = .ok (.iload_n 3, 1) := by decide +kernel
theorem dX6_add_40 : decode cX6_add 40 = .ok (.iastore, 1) := by decide +kernel
theorem dX6_add_41 : decode cX6_add 41 = .ok (.aload_n 0, 1) := by decide +kernel
theorem dX6_add_42 : decode cX6_add 42 = .ok (.dup, 1) := by decide +kernel
theorem dX6_add_43 : decode cX6_add 43 = .ok (.getfield 21, 3) := by decide +kernel
theorem dX6_add_46 : decode cX6_add 46 = .ok (.iconst 1, 1) := by decide +kernel
theorem dX6_add_47 : decode cX6_add 47 = .ok (.iadd, 1) := by decide +kernel
theorem dX6_add_48 : decode cX6_add 48 = .ok (.putfield 21, 3) := by decide +kernel
theorem dX6_add_51 : decode cX6_add 51 = .ok (.aload_n 0, 1) := by decide +kernel
theorem dX6_add_52 : decode cX6_add 52 = .ok (.getfield 21, 3) := by decide +kernel
theorem dX6_add_55 : decode cX6_add 55 = .ok (.ireturn, 1) := by decide +kernel
def fn_X6_add (h : aH) (p0 : Nat) (p1 : Int32) (p2 : Int32) (p3 : Int32) : Option (Int32 × aH) :=
  (gI h p0 5 3).bind fun x1 =>
  if x1 < 10 then
    (gR h p0 5 0).bind fun a2 =>
    (gI h p0 5 3).bind fun x3 =>
    (wI h a2 x3 p1).bind fun h4 =>
    (gR h4 p0 5 1).bind fun a5 =>
    (gI h4 p0 5 3).bind fun x6 =>
    (wI h4 a5 x6 p2).bind fun h7 =>
    (gR h7 p0 5 2).bind fun a8 =>
    (gI h7 p0 5 3).bind fun x9 =>
    (wI h7 a8 x9 p3).bind fun h10 =>
    (gI h10 p0 5 3).bind fun x11 =>
    (pI h10 p0 5 3 (x11 + 1)).bind fun h12 =>
    (gI h12 p0 5 3).bind fun x13 =>
    some (x13, h12)
  else
    some ((-1), h)
set_option maxRecDepth 20000 in
set_option maxHeartbeats 4000000 in
theorem ev_X6_add {l : Launch} {g : aG} {d : Nat} (hd : 0 ≤ d) (h : aH) (p0 : Nat) (p1 : Int32) (p2 : Int32) (p3 : Int32) (o : Int32 × aH) (hf : fn_X6_add h p0 p1 p2 p3 = some o) : EvM l g d yX6_add cX6_add 4 (some .int) [.ref p0, .int p1, .int p2, .int p3] h (some (.int o.1), o.2) := by
  refine EvM.of mk_X6_add (Nat.le_of_ble_eq_true rfl) ?_
  intro Γ hl hg hq X
  have hd1 : 0 ≤ d := by omega
  have hk : RqI Γ o := hq
  unfold fn_X6_add at hf
  show Jd Γ (0, 0) 0 [some (.ref p0), some (.int p1), some (.int p2), some (.int p3)] [] h
  refine r_aload_n (pc := 0) X dX6_add_0 rfl ?_
  obtain ⟨x1, ex1, hf⟩ := ob hf
  refine r_getI (pc := 1) X dX6_add_1 fl_X6_21 rfl ex1 ?_
  refine r_bipush (pc := 4) X 10 dX6_add_4 (by decide) ?_
  refine r_icmp_lt (pc := 6) X 11 dX6_add_6 (by decide) (fun c14 => ?_) (fun c14 => ?_)
  · rw [if_pos c14] at hf
    refine r_aload_n (pc := 11) X dX6_add_11 rfl ?_
    obtain ⟨a2, ea2, hf⟩ := ob hf
    refine r_getR (pc := 12) X dX6_add_12 fl_X6_11 rfl ea2 ?_
    refine r_aload_n (pc := 15) X dX6_add_15 rfl ?_
    obtain ⟨x3, ex3, hf⟩ := ob hf
    refine r_getI (pc := 16) X dX6_add_16 fl_X6_21 rfl ex3 ?_
    refine r_iload_n (pc := 19) X dX6_add_19 rfl ?_
    obtain ⟨h4, eh4, hf⟩ := ob hf
    refine r_iast (pc := 20) X dX6_add_20 eh4 ?_
    refine r_aload_n (pc := 21) X dX6_add_21 rfl ?_
    obtain ⟨a5, ea5, hf⟩ := ob hf
    refine r_getR (pc := 22) X dX6_add_22 fl_X6_15 rfl ea5 ?_
    refine r_aload_n (pc := 25) X dX6_add_25 rfl ?_
    obtain ⟨x6, ex6, hf⟩ := ob hf
    refine r_getI (pc := 26) X dX6_add_26 fl_X6_21 rfl ex6 ?_
    refine r_iload_n (pc := 29) X dX6_add_29 rfl ?_
    obtain ⟨h7, eh7, hf⟩ := ob hf
    refine r_iast (pc := 30) X dX6_add_30 eh7 ?_
    refine r_aload_n (pc := 31) X dX6_add_31 rfl ?_
    obtain ⟨a8, ea8, hf⟩ := ob hf
    refine r_getR (pc := 32) X dX6_add_32 fl_X6_18 rfl ea8 ?_
    refine r_aload_n (pc := 35) X dX6_add_35 rfl ?_
    obtain ⟨x9, ex9, hf⟩ := ob hf
    refine r_getI (pc := 36) X dX6_add_36 fl_X6_21 rfl ex9 ?_
    refine r_iload_n (pc := 39) X dX6_add_39 rfl ?_
    obtain ⟨h10, eh10, hf⟩ := ob hf
    refine r_iast (pc := 40) X dX6_add_40 eh10 ?_
    refine r_aload_n (pc := 41) X dX6_add_41 rfl ?_
    refine r_dup (pc := 42) X dX6_add_42 rfl ?_
    obtain ⟨x11, ex11, hf⟩ := ob hf
    refine r_getI (pc := 43) X dX6_add_43 fl_X6_21 rfl ex11 ?_
    refine r_iconst (pc := 46) X 1 dX6_add_46 (by decide) ?_
    refine r_iadd (pc := 47) X dX6_add_47 ?_
    obtain ⟨h12, eh12, hf⟩ := ob hf
    refine r_putI (pc := 48) X dX6_add_48 fp_X6_21 rfl eh12 ?_
    refine r_aload_n (pc := 51) X dX6_add_51 rfl ?_
    obtain ⟨x13, ex13, hf⟩ := ob hf
    refine r_getI (pc := 52) X dX6_add_52 fl_X6_21 rfl ex13 ?_
    obtain rfl := Option.some.inj hf
    exact r_iret (pc := 55) X dX6_add_55 hk
  · rw [if_neg c14] at hf
    refine r_iconst (pc := 9) X (-1) dX6_add_9 (by decide) ?_
    obtain rfl := Option.some.inj hf
    exact r_iret (pc := 10) X dX6_add_10 hk

theorem dX6_clear_0 : decode cX6_clear 0 = .ok (.aload_n 0, 1) := by decide +kernel
theorem dX6_clear_1 : decode cX6_clear 1 = .ok (.getfield 21, 3) := by decide +kernel
theorem dX6_clear_4 : decode cX6_clear 4 = .ok (.istore_n 1, 1) := by decide +kernel
theorem dX6_clear_5 : decode cX6_clear 5 = .ok (.aload_n 0, 1) := by decide +kernel
theorem dX6_clear_6 : decode cX6_clear 6 = .ok (.iconst 0, 1) := by decide +kernel
theorem dX6_clear_7 : decode cX6_clear 7 = .ok (.putfield 21, 3) := by decide +kernel
theorem dX6_clear_10 : decode cX6_clear 10 = .ok (.iload_n 1, 1) := by decide +kernel
theorem dX6_clear_11 : decode cX6_clear 11 = .ok (.ireturn, 1) := by decide +kernel
def fn_X6_clear (h : aH) (p0 : Nat) : Option (Int32 × aH) :=
  (gI h p0 5 3).bind fun x1 =>
  (pI h p0 5 3 0).bind fun h2 =>
  some (x1, h2)
set_option maxRecDepth 20000 in
set_option maxHeartbeats 4000000 in
theorem ev_X6_clear {l : Launch} {g : aG} {d : Nat} (hd : 0 ≤ d) (h : aH) (p0 : Nat) (o : Int32 × aH) (hf : fn_X6_clear h p0 = some o) : EvM l g d yX6_clear cX6_clear 2 (some .int) [.ref p0] h (some (.int o.1), o.2) := by
  refine EvM.of mk_X6_clear (Nat.le_of_ble_eq_true rfl) ?_
  intro Γ hl hg hq X
  have hd1 : 0 ≤ d := by omega
  have hk : RqI Γ o := hq
  unfold fn_X6_clear at hf
  show Jd Γ (0, 0) 0 [some (.ref p0), none] [] h
  refine r_aload_n (pc := 0) X dX6_clear_0 rfl ?_
  obtain ⟨x1, ex1, hf⟩ := ob hf
  refine r_getI (pc := 1) X dX6_clear_1 fl_X6_21 rfl ex1 ?_
  refine r_istore_n (pc := 4) X [some (.ref p0), some (.int x1)] dX6_clear_4 (by decide) rfl ?_
  refine r_aload_n (pc := 5) X dX6_clear_5 rfl ?_
  refine r_iconst (pc := 6) X 0 dX6_clear_6 (by decide) ?_
  obtain ⟨h2, eh2, hf⟩ := ob hf
  refine r_putI (pc := 7) X dX6_clear_7 fp_X6_21 rfl eh2 ?_
  refine r_iload_n (pc := 10) X dX6_clear_10 rfl ?_
  obtain rfl := Option.some.inj hf
  exact r_iret (pc := 11) X dX6_clear_11 hk

theorem dX6_lastHour_0 : decode cX6_lastHour 0 = .ok (.iconst (-1), 1) := by decide +kernel
theorem dX6_lastHour_1 : decode cX6_lastHour 1 = .ok (.istore_n 1, 1) := by decide +kernel
theorem dX6_lastHour_2 : decode cX6_lastHour 2 = .ok (.iconst 0, 1) := by decide +kernel
theorem dX6_lastHour_3 : decode cX6_lastHour 3 = .ok (.istore_n 2, 1) := by decide +kernel
theorem dX6_lastHour_4 : decode cX6_lastHour 4 = .ok (.iload_n 2, 1) := by decide +kernel
theorem dX6_lastHour_5 : decode cX6_lastHour 5 = .ok (.aload_n 0, 1) := by decide +kernel
theorem dX6_lastHour_6 : decode cX6_lastHour 6 = .ok (.getfield 21, 3) := by decide +kernel
theorem dX6_lastHour_9 : decode cX6_lastHour 9 = .ok (.if_icmp .ge 20, 3) := by decide +kernel
theorem dX6_lastHour_12 : decode cX6_lastHour 12 = .ok (.iload_n 1, 1) := by decide +kernel
theorem dX6_lastHour_13 : decode cX6_lastHour 13 = .ok (.aload_n 0, 1) := by decide +kernel
theorem dX6_lastHour_14 : decode cX6_lastHour 14 = .ok (.getfield 15, 3) := by decide +kernel
theorem dX6_lastHour_17 : decode cX6_lastHour 17 = .ok (.iload_n 2, 1) := by decide +kernel
theorem dX6_lastHour_18 : decode cX6_lastHour 18 = .ok (.iaload, 1) := by decide +kernel
theorem dX6_lastHour_19 : decode cX6_lastHour 19 = .ok (.invokestatic 25, 3) := by decide +kernel
theorem dX6_lastHour_22 : decode cX6_lastHour 22 = .ok (.istore_n 1, 1) := by decide +kernel
theorem dX6_lastHour_23 : decode cX6_lastHour 23 = .ok (.iinc 2 1, 3) := by decide +kernel
theorem dX6_lastHour_26 : decode cX6_lastHour 26 = .ok (.goto (-22), 3) := by decide +kernel
theorem dX6_lastHour_29 : decode cX6_lastHour 29 = .ok (.iload_n 1, 1) := by decide +kernel
theorem dX6_lastHour_30 : decode cX6_lastHour 30 = .ok (.ireturn, 1) := by decide +kernel
def lb_X6_lastHour_4 (hh : aH) (v0 : Nat) (s : Int32 × Int32) : Option ((Int32 × Int32) ⊕ ((Int32))) :=
  (gI hh v0 5 3).bind fun x1 =>
  if s.2 < x1 then
    (gR hh v0 5 1).bind fun a2 =>
    (aI hh a2 14 s.2).bind fun x3 =>
    (some (mx s.1 x3)).bind fun x4 =>
    (some (s.2 + 1)).bind fun x5 =>
    some (.inl (x4, x5))
  else
    some (.inr s.1)
def hd_X6_lastHour_4 (Γ : aC) (hh : aH) (v0 : Nat) (s : Int32 × Int32) : Prop := Jd Γ (0, 0) 4 [some (.ref v0), some (.int s.1), some (.int s.2)] [] hh
def ex_X6_lastHour_4 (Γ : aC) (hh : aH) (v0 : Nat) (r : (Int32)) : Prop := (fun r => RpI hh Γ r) r
set_option maxRecDepth 20000 in
set_option maxHeartbeats 4000000 in
theorem lw_X6_lastHour_4 {Γ : aC} {d : Nat} (X : Cx Γ RX6 cX6_lastHour 3 (some .int) (d, 0, 0)) (hd : 1 ≤ d) (hh : aH) (v0 : Nat) : ∀ n s o, lp (lb_X6_lastHour_4 hh v0) n s = some o → ex_X6_lastHour_4 Γ hh v0 o → hd_X6_lastHour_4 Γ hh v0 s := by
  have hd1 : 1 ≤ d := by omega
  refine J_lp _ _ _ ?_
  intro s o hf hk
  unfold lb_X6_lastHour_4 at hf
  refine r_iload_n (pc := 4) X dX6_lastHour_4 rfl ?_
  refine r_aload_n (pc := 5) X dX6_lastHour_5 rfl ?_
  obtain ⟨x1, ex1, hf⟩ := ob hf
  refine r_getI (pc := 6) X dX6_lastHour_6 fl_X6_21 rfl ex1 ?_
  refine r_icmp_ge (pc := 9) X 29 dX6_lastHour_9 (by decide) (fun c6 => ?_) (fun c6 => ?_)
  · rw [if_neg c6] at hf
    refine r_iload_n (pc := 29) X dX6_lastHour_29 rfl ?_
    obtain rfl := Option.some.inj hf
    exact r_iret (pc := 30) X dX6_lastHour_30 hk
  · rw [if_pos c6] at hf
    refine r_iload_n (pc := 12) X dX6_lastHour_12 rfl ?_
    refine r_aload_n (pc := 13) X dX6_lastHour_13 rfl ?_
    obtain ⟨a2, ea2, hf⟩ := ob hf
    refine r_getR (pc := 14) X dX6_lastHour_14 fl_X6_15 rfl ea2 ?_
    refine r_iload_n (pc := 17) X dX6_lastHour_17 rfl ?_
    obtain ⟨x3, ex3, hf⟩ := ob hf
    refine r_iald (pc := 18) X dX6_lastHour_18 ex3 ?_
    refine r_max (pc := 19) X dX6_lastHour_19 ml_X6_25 ⟨Nat.le_refl _, Nat.le_refl _⟩ hd1 (Nat.le_of_ble_eq_true rfl) ?_
    obtain ⟨x4, ex4, hf⟩ := ob hf
    refine r_nmI ex4 ?_
    refine r_istore_n (pc := 22) X [some (.ref v0), some (.int x4), some (.int s.2)] dX6_lastHour_22 (by decide) rfl ?_
    obtain ⟨x5, ex5, hf⟩ := ob hf
    refine r_iinc2 (pc := 23) X 1 [some (.ref v0), some (.int x4), some (.int x5)] dX6_lastHour_23 (by decide) rfl (by decide) ex5 rfl ?_
    refine r_goto (pc := 26) X 4 dX6_lastHour_26 (by decide) ?_
    obtain rfl := Option.some.inj hf
    exact hk
def fn_X6_lastHour (h : aH) (p0 : Nat) : Option (Int32) :=
  (lp (lb_X6_lastHour_4 h p0) lpN ((-1), 0)).bind fun o7 =>
  some o7
set_option maxRecDepth 20000 in
set_option maxHeartbeats 4000000 in
theorem ev_X6_lastHour {l : Launch} {g : aG} {d : Nat} (hd : 1 ≤ d) (h : aH) (p0 : Nat) (o : Int32) (hf : fn_X6_lastHour h p0 = some o) : EvM l g d yX6_lastHour cX6_lastHour 3 (some .int) [.ref p0] h (some (.int o), h) := by
  refine EvM.of mk_X6_lastHour (Nat.le_of_ble_eq_true rfl) ?_
  intro Γ hl hg hq X
  have hd1 : 1 ≤ d := by omega
  have hk : RpI h Γ o := hq
  unfold fn_X6_lastHour at hf
  show Jd Γ (0, 0) 0 [some (.ref p0), none, none] [] h
  refine r_iconst (pc := 0) X (-1) dX6_lastHour_0 (by decide) ?_
  refine r_istore_n (pc := 1) X [some (.ref p0), some (.int (-1)), none] dX6_lastHour_1 (by decide) rfl ?_
  refine r_iconst (pc := 2) X 0 dX6_lastHour_2 (by decide) ?_
  refine r_istore_n (pc := 3) X [some (.ref p0), some (.int (-1)), some (.int 0)] dX6_lastHour_3 (by decide) rfl ?_
  obtain ⟨o7, eo7, hf⟩ := ob hf
  refine (lw_X6_lastHour_4 X hd _ _ lpN _ o7 eo7 ?_)
  obtain rfl := Option.some.inj hf
  exact hk

theorem dX6_agrees_0 : decode cX6_agrees 0 = .ok (.iconst 0, 1) := by decide +kernel
theorem dX6_agrees_1 : decode cX6_agrees 1 = .ok (.istore_n 3, 1) := by decide +kernel
theorem dX6_agrees_2 : decode cX6_agrees 2 = .ok (.iload_n 3, 1) := by decide +kernel
theorem dX6_agrees_3 : decode cX6_agrees 3 = .ok (.aload_n 0, 1) := by decide +kernel
theorem dX6_agrees_4 : decode cX6_agrees 4 = .ok (.getfield 21, 3) := by decide +kernel
theorem dX6_agrees_7 : decode cX6_agrees 7 = .ok (.if_icmp .ge 41, 3) := by decide +kernel
theorem dX6_agrees_10 : decode cX6_agrees 10 = .ok (.aload_n 0, 1) := by decide +kernel
theorem dX6_agrees_11 : decode cX6_agrees 11 = .ok (.getfield 15, 3) := by decide +kernel
theorem dX6_agrees_14 : decode cX6_agrees 14 = .ok (.iload_n 3, 1) := by decide +kernel
theorem dX6_agrees_15 : decode cX6_agrees 15 = .ok (.iaload, 1) := by decide +kernel
theorem dX6_agrees_16 : decode cX6_agrees 16 = .ok (.iload_n 2, 1) := by decide +kernel
theorem dX6_agrees_17 : decode cX6_agrees 17 = .ok (.if_icmp .ne 25, 3) := by decide +kernel
theorem dX6_agrees_20 : decode cX6_agrees 20 = .ok (.aload_n 1, 1) := by decide +kernel
theorem dX6_agrees_21 : decode cX6_agrees 21 = .ok (.getfield 31, 3) := by decide +kernel
theorem dX6_agrees_24 : decode cX6_agrees 24 = .ok (.aload_n 0, 1) := by decide +kernel
theorem dX6_agrees_25 : decode cX6_agrees 25 = .ok (.getfield 11, 3) := by decide +kernel
theorem dX6_agrees_28 : decode cX6_agrees 28 = .ok (.iload_n 3, 1) := by decide +kernel
theorem dX6_agrees_29 : decode cX6_agrees 29 = .ok (.iaload, 1) := by decide +kernel
theorem dX6_agrees_30 : decode cX6_agrees 30 = .ok (.iaload, 1) := by decide +kernel
theorem dX6_agrees_31 : decode cX6_agrees 31 = .ok (.aload_n 0, 1) := by decide +kernel
theorem dX6_agrees_32 : decode cX6_agrees 32 = .ok (.getfield 18, 3) := by decide +kernel
theorem dX6_agrees_35 : decode cX6_agrees 35 = .ok (.iload_n 3, 1) := by decide +kernel
theorem dX6_agrees_36 : decode cX6_agrees 36 = .ok (.iaload, 1) := by decide +kernel
theorem dX6_agrees_37 : decode cX6_agrees 37 = .ok (.if_icmp .eq 5, 3) := by decide +kernel
theorem dX6_agrees_40 : decode cX6_agrees 40 = .ok (.iconst 0, 1) := by decide +kernel
theorem dX6_agrees_41 : decode cX6_agrees 41 = .ok (.ireturn, 1) := by decide +kernel
theorem dX6_agrees_42 : decode cX6_agrees 42 = .ok (.iinc 3 1, 3) := by decide +kernel
theorem dX6_agrees_45 : decode cX6_agrees 45 = .ok (.goto (-43), 3) := by decide +kernel
theorem dX6_agrees_48 : decode cX6_agrees 48 = .ok (.iconst 1, 1) := by decide +kernel
theorem dX6_agrees_49 : decode cX6_agrees 49 = .ok (.ireturn, 1) := by decide +kernel
def lb_X6_agrees_2 (hh : aH) (v0 : Nat) (v1 : Nat) (v2 : Int32) (s : Int32) : Option ((Int32) ⊕ ((Int32))) :=
  (gI hh v0 5 3).bind fun x1 =>
  if s < x1 then
    (gR hh v0 5 1).bind fun a2 =>
    (aI hh a2 14 s).bind fun x3 =>
    if x3 = v2 then
      (gR hh v1 6 0).bind fun a5 =>
      (gR hh v0 5 0).bind fun a6 =>
      (aI hh a6 14 s).bind fun x7 =>
      (aI hh a5 14 x7).bind fun x8 =>
      (gR hh v0 5 2).bind fun a9 =>
      (aI hh a9 14 s).bind fun x10 =>
      if x8 = x10 then
        (some (s + 1)).bind fun x11 =>
        some (.inl x11)
      else
        some (.inr 0)
    else
      (some (s + 1)).bind fun x4 =>
      some (.inl x4)
  else
    some (.inr 1)
def hd_X6_agrees_2 (Γ : aC) (hh : aH) (v0 : Nat) (v1 : Nat) (v2 : Int32) (s : Int32) : Prop := Jd Γ (0, 0) 2 [some (.ref v0), some (.ref v1), some (.int v2), some (.int s)] [] hh
def ex_X6_agrees_2 (Γ : aC) (hh : aH) (v0 : Nat) (v1 : Nat) (v2 : Int32) (r : (Int32)) : Prop := (fun r => RpI hh Γ r) r
set_option maxRecDepth 20000 in
set_option maxHeartbeats 4000000 in
theorem lw_X6_agrees_2 {Γ : aC} {d : Nat} (X : Cx Γ RX6 cX6_agrees 4 (some .boolean) (d, 0, 0)) (hd : 0 ≤ d) (hh : aH) (v0 : Nat) (v1 : Nat) (v2 : Int32) : ∀ n s o, lp (lb_X6_agrees_2 hh v0 v1 v2) n s = some o → ex_X6_agrees_2 Γ hh v0 v1 v2 o → hd_X6_agrees_2 Γ hh v0 v1 v2 s := by
  have hd1 : 0 ≤ d := by omega
  refine J_lp _ _ _ ?_
  intro s o hf hk
  unfold lb_X6_agrees_2 at hf
  refine r_iload_n (pc := 2) X dX6_agrees_2 rfl ?_
  refine r_aload_n (pc := 3) X dX6_agrees_3 rfl ?_
  obtain ⟨x1, ex1, hf⟩ := ob hf
  refine r_getI (pc := 4) X dX6_agrees_4 fl_X6_21 rfl ex1 ?_
  refine r_icmp_ge (pc := 7) X 48 dX6_agrees_7 (by decide) (fun c14 => ?_) (fun c14 => ?_)
  · rw [if_neg c14] at hf
    refine r_iconst (pc := 48) X 1 dX6_agrees_48 (by decide) ?_
    obtain rfl := Option.some.inj hf
    exact r_zret (pc := 49) X dX6_agrees_49 (Or.inr rfl) hk
  · rw [if_pos c14] at hf
    refine r_aload_n (pc := 10) X dX6_agrees_10 rfl ?_
    obtain ⟨a2, ea2, hf⟩ := ob hf
    refine r_getR (pc := 11) X dX6_agrees_11 fl_X6_15 rfl ea2 ?_
    refine r_iload_n (pc := 14) X dX6_agrees_14 rfl ?_
    obtain ⟨x3, ex3, hf⟩ := ob hf
    refine r_iald (pc := 15) X dX6_agrees_15 ex3 ?_
    refine r_iload_n (pc := 16) X dX6_agrees_16 rfl ?_
    refine r_icmp_ne (pc := 17) X 42 dX6_agrees_17 (by decide) (fun c13 => ?_) (fun c13 => ?_)
    · rw [if_neg c13] at hf
      obtain ⟨x4, ex4, hf⟩ := ob hf
      refine r_iinc2 (pc := 42) X 1 [some (.ref v0), some (.ref v1), some (.int v2), some (.int x4)] dX6_agrees_42 (by decide) rfl (by decide) ex4 rfl ?_
      refine r_goto (pc := 45) X 2 dX6_agrees_45 (by decide) ?_
      obtain rfl := Option.some.inj hf
      exact hk
    · rw [if_pos c13] at hf
      refine r_aload_n (pc := 20) X dX6_agrees_20 rfl ?_
      obtain ⟨a5, ea5, hf⟩ := ob hf
      refine r_getR (pc := 21) X dX6_agrees_21 fl_X6_31 rfl ea5 ?_
      refine r_aload_n (pc := 24) X dX6_agrees_24 rfl ?_
      obtain ⟨a6, ea6, hf⟩ := ob hf
      refine r_getR (pc := 25) X dX6_agrees_25 fl_X6_11 rfl ea6 ?_
      refine r_iload_n (pc := 28) X dX6_agrees_28 rfl ?_
      obtain ⟨x7, ex7, hf⟩ := ob hf
      refine r_iald (pc := 29) X dX6_agrees_29 ex7 ?_
      obtain ⟨x8, ex8, hf⟩ := ob hf
      refine r_iald (pc := 30) X dX6_agrees_30 ex8 ?_
      refine r_aload_n (pc := 31) X dX6_agrees_31 rfl ?_
      obtain ⟨a9, ea9, hf⟩ := ob hf
      refine r_getR (pc := 32) X dX6_agrees_32 fl_X6_18 rfl ea9 ?_
      refine r_iload_n (pc := 35) X dX6_agrees_35 rfl ?_
      obtain ⟨x10, ex10, hf⟩ := ob hf
      refine r_iald (pc := 36) X dX6_agrees_36 ex10 ?_
      refine r_icmp_eq (pc := 37) X 42 dX6_agrees_37 (by decide) (fun c12 => ?_) (fun c12 => ?_)
      · rw [if_pos c12] at hf
        obtain ⟨x11, ex11, hf⟩ := ob hf
        refine r_iinc2 (pc := 42) X 1 [some (.ref v0), some (.ref v1), some (.int v2), some (.int x11)] dX6_agrees_42 (by decide) rfl (by decide) ex11 rfl ?_
        refine r_goto (pc := 45) X 2 dX6_agrees_45 (by decide) ?_
        obtain rfl := Option.some.inj hf
        exact hk
      · rw [if_neg c12] at hf
        refine r_iconst (pc := 40) X 0 dX6_agrees_40 (by decide) ?_
        obtain rfl := Option.some.inj hf
        exact r_zret (pc := 41) X dX6_agrees_41 (Or.inl rfl) hk
def fn_X6_agrees (h : aH) (p0 : Nat) (p1 : Nat) (p2 : Int32) : Option (Int32) :=
  (lp (lb_X6_agrees_2 h p0 p1 p2) lpN 0).bind fun o15 =>
  some o15
set_option maxRecDepth 20000 in
set_option maxHeartbeats 4000000 in
theorem ev_X6_agrees {l : Launch} {g : aG} {d : Nat} (hd : 0 ≤ d) (h : aH) (p0 : Nat) (p1 : Nat) (p2 : Int32) (o : Int32) (hf : fn_X6_agrees h p0 p1 p2 = some o) : EvM l g d yX6_agrees cX6_agrees 4 (some .boolean) [.ref p0, .ref p1, .int p2] h (some (.int o), h) := by
  refine EvM.of mk_X6_agrees (Nat.le_of_ble_eq_true rfl) ?_
  intro Γ hl hg hq X
  have hd1 : 0 ≤ d := by omega
  have hk : RpI h Γ o := hq
  unfold fn_X6_agrees at hf
  show Jd Γ (0, 0) 0 [some (.ref p0), some (.ref p1), some (.int p2), none] [] h
  refine r_iconst (pc := 0) X 0 dX6_agrees_0 (by decide) ?_
  refine r_istore_n (pc := 1) X [some (.ref p0), some (.ref p1), some (.int p2), some (.int 0)] dX6_agrees_1 (by decide) rfl ?_
  obtain ⟨o15, eo15, hf⟩ := ob hf
  refine (lw_X6_agrees_2 X hd _ _ _ _ lpN _ o15 eo15 ?_)
  obtain rfl := Option.some.inj hf
  exact hk

theorem dX9_begin_0 : decode cX9_begin 0 = .ok (.aload_n 0, 1) := by decide +kernel
theorem dX9_begin_1 : decode cX9_begin 1 = .ok (.iload_n 1, 1) := by decide +kernel
theorem dX9_begin_2 : decode cX9_begin 2 = .ok (.bipush 6, 2) := by decide +kernel
theorem dX9_begin_4 : decode cX9_begin 4 = .ok (.invokestatic 16, 3) := by decide +kernel
theorem dX9_begin_7 : decode cX9_begin 7 = .ok (.putfield 22, 3) := by decide +kernel
theorem dX9_begin_10 : decode cX9_begin 10 = .ok (.iconst 0, 1) := by decide +kernel
theorem dX9_begin_11 : decode cX9_begin 11 = .ok (.istore_n 2, 1) := by decide +kernel
theorem dX9_begin_12 : decode cX9_begin 12 = .ok (.iload_n 2, 1) := by decide +kernel
theorem dX9_begin_13 : decode cX9_begin 13 = .ok (.aload_n 0, 1) := by decide +kernel
theorem dX9_begin_14 : decode cX9_begin 14 = .ok (.getfield 22, 3) := by decide +kernel
theorem dX9_begin_17 : decode cX9_begin 17 = .ok (.if_icmp .ge 23, 3) := by decide +kernel
theorem dX9_begin_20 : decode cX9_begin 20 = .ok (.aload_n 0, 1) := by decide +kernel
theorem dX9_begin_21 : decode cX9_begin 21 = .ok (.getfield 9, 3) := by decide +kernel
theorem dX9_begin_24 : decode cX9_begin 24 = .ok (.iload_n 2, 1) := by decide +kernel
theorem dX9_begin_25 : decode cX9_begin 25 = .ok (.iload_n 2, 1) := by decide +kernel
theorem dX9_begin_26 : decode cX9_begin 26 = .ok (.iastore, 1) := by decide +kernel
theorem dX9_begin_27 : decode cX9_begin 27 = .ok (.aload_n 0, 1) := by decide +kernel
theorem dX9_begin_28 : decode cX9_begin 28 = .ok (.getfield 13, 3) := by decide +kernel
theorem dX9_begin_31 : decode cX9_begin 31 = .ok (.iload_n 2, 1) := by decide +kernel
theorem dX9_begin_32 : decode cX9_begin 32 = .ok (.iload_n 2, 1) := by decide +kernel
theorem dX9_begin_33 : decode cX9_begin 33 = .ok (.iastore, 1) := by decide +kernel
theorem dX9_begin_34 : decode cX9_begin 34 = .ok (.iinc 2 1, 3) := by decide +kernel
theorem dX9_begin_37 : decode cX9_begin 37 = .ok (.goto (-25), 3) := by decide +kernel
theorem dX9_begin_40 : decode cX9_begin 40 = .ok (.return_, 1) := by decide +kernel
def lb_X9_begin_12 (v0 : Nat) (s : Int32 × aH) : Option ((Int32 × aH) ⊕ ((aH))) :=
  (gI s.2 v0 8 2).bind fun x2 =>
  if s.1 < x2 then
    (gR s.2 v0 8 0).bind fun a3 =>
    (wI s.2 a3 s.1 s.1).bind fun h4 =>
    (gR h4 v0 8 1).bind fun a5 =>
    (wI h4 a5 s.1 s.1).bind fun h6 =>
    (some (s.1 + 1)).bind fun x7 =>
    some (.inl (x7, h6))
  else
    some (.inr s.2)
def hd_X9_begin_12 (Γ : aC) (v0 : Nat) (s : Int32 × aH) : Prop := ∀ (j1 : Option Value), Jd Γ (0, 0) 12 [some (.ref v0), j1, some (.int s.1)] [] s.2
def ex_X9_begin_12 (Γ : aC) (v0 : Nat) (r : (aH)) : Prop := (fun r => RqV Γ r) r
set_option maxRecDepth 20000 in
set_option maxHeartbeats 4000000 in
theorem lw_X9_begin_12 {Γ : aC} {d : Nat} (X : Cx Γ RX9 cX9_begin 3 none (d, 0, 0)) (hd : 1 ≤ d) (v0 : Nat) : ∀ n s o, lp (lb_X9_begin_12 v0) n s = some o → ex_X9_begin_12 Γ v0 o → hd_X9_begin_12 Γ v0 s := by
  have hd1 : 1 ≤ d := by omega
  refine J_lp _ _ _ ?_
  intro s o hf hk j1
  unfold lb_X9_begin_12 at hf
  refine r_iload_n (pc := 12) X dX9_begin_12 rfl ?_
  refine r_aload_n (pc := 13) X dX9_begin_13 rfl ?_
  obtain ⟨x2, ex2, hf⟩ := ob hf
  refine r_getI (pc := 14) X dX9_begin_14 fl_X9_22 rfl ex2 ?_
  refine r_icmp_ge (pc := 17) X 40 dX9_begin_17 (by decide) (fun c8 => ?_) (fun c8 => ?_)
  · rw [if_neg c8] at hf
    obtain rfl := Option.some.inj hf
    exact r_vret (pc := 40) X dX9_begin_40 hk
  · rw [if_pos c8] at hf
    refine r_aload_n (pc := 20) X dX9_begin_20 rfl ?_
    obtain ⟨a3, ea3, hf⟩ := ob hf
    refine r_getR (pc := 21) X dX9_begin_21 fl_X9_9 rfl ea3 ?_
    refine r_iload_n (pc := 24) X dX9_begin_24 rfl ?_
    refine r_iload_n (pc := 25) X dX9_begin_25 rfl ?_
    obtain ⟨h4, eh4, hf⟩ := ob hf
    refine r_iast (pc := 26) X dX9_begin_26 eh4 ?_
    refine r_aload_n (pc := 27) X dX9_begin_27 rfl ?_
    obtain ⟨a5, ea5, hf⟩ := ob hf
    refine r_getR (pc := 28) X dX9_begin_28 fl_X9_13 rfl ea5 ?_
    refine r_iload_n (pc := 31) X dX9_begin_31 rfl ?_
    refine r_iload_n (pc := 32) X dX9_begin_32 rfl ?_
    obtain ⟨h6, eh6, hf⟩ := ob hf
    refine r_iast (pc := 33) X dX9_begin_33 eh6 ?_
    obtain ⟨x7, ex7, hf⟩ := ob hf
    refine r_fg 1 [some (.ref v0), none, some (.int s.1)] rfl ?_
    refine r_iinc2 (pc := 34) X 1 [some (.ref v0), none, some (.int x7)] dX9_begin_34 (by decide) rfl (by decide) ex7 rfl ?_
    refine r_goto (pc := 37) X 12 dX9_begin_37 (by decide) ?_
    obtain rfl := Option.some.inj hf
    exact hk _
def fn_X9_begin (h : aH) (p0 : Nat) (p1 : Int32) : Option (aH) :=
  (pI h p0 8 2 (mn p1 6)).bind fun h1 =>
  (lp (lb_X9_begin_12 p0) lpN (0, h1)).bind fun o9 =>
  some o9
set_option maxRecDepth 20000 in
set_option maxHeartbeats 4000000 in
theorem ev_X9_begin {l : Launch} {g : aG} {d : Nat} (hd : 1 ≤ d) (h : aH) (p0 : Nat) (p1 : Int32) (o : aH) (hf : fn_X9_begin h p0 p1 = some o) : EvM l g d yX9_begin cX9_begin 3 none [.ref p0, .int p1] h (none, o) := by
  refine EvM.of mk_X9_begin (Nat.le_of_ble_eq_true rfl) ?_
  intro Γ hl hg hq X
  have hd1 : 1 ≤ d := by omega
  have hk : RqV Γ o := hq
  unfold fn_X9_begin at hf
  show Jd Γ (0, 0) 0 [some (.ref p0), some (.int p1), none] [] h
  refine r_aload_n (pc := 0) X dX9_begin_0 rfl ?_
  refine r_iload_n (pc := 1) X dX9_begin_1 rfl ?_
  refine r_bipush (pc := 2) X 6 dX9_begin_2 (by decide) ?_
  refine r_min (pc := 4) X dX9_begin_4 ml_X9_16 ⟨Nat.le_refl _, Nat.le_refl _⟩ hd1 (Nat.le_of_ble_eq_true rfl) ?_
  obtain ⟨h1, eh1, hf⟩ := ob hf
  refine r_putI (pc := 7) X dX9_begin_7 fp_X9_22 rfl eh1 ?_
  refine r_iconst (pc := 10) X 0 dX9_begin_10 (by decide) ?_
  refine r_istore_n (pc := 11) X [some (.ref p0), some (.int p1), some (.int 0)] dX9_begin_11 (by decide) rfl ?_
  obtain ⟨o9, eo9, hf⟩ := ob hf
  refine (lw_X9_begin_12 X hd _ lpN _ o9 eo9 ?_) _
  obtain rfl := Option.some.inj hf
  exact hk

theorem dX9_holdBest_0 : decode cX9_holdBest 0 = .ok (.aload_n 0, 1) := by decide +kernel
theorem dX9_holdBest_1 : decode cX9_holdBest 1 = .ok (.getfield 9, 3) := by decide +kernel
theorem dX9_holdBest_4 : decode cX9_holdBest 4 = .ok (.iconst 0, 1) := by decide +kernel
theorem dX9_holdBest_5 : decode cX9_holdBest 5 = .ok (.aload_n 0, 1) := by decide +kernel
theorem dX9_holdBest_6 : decode cX9_holdBest 6 = .ok (.getfield 13, 3) := by decide +kernel
theorem dX9_holdBest_9 : decode cX9_holdBest 9 = .ok (.iconst 0, 1) := by decide +kernel
theorem dX9_holdBest_10 : decode cX9_holdBest 10 = .ok (.bipush 6, 2) := by decide +kernel
theorem dX9_holdBest_12 : decode cX9_holdBest 12 = .ok (.invokestatic 26, 3) := by decide +kernel
theorem dX9_holdBest_15 : decode cX9_holdBest 15 = .ok (.return_, 1) := by decide +kernel
def fn_X9_holdBest (h : aH) (p0 : Nat) : Option (aH) :=
  (gR h p0 8 0).bind fun a1 =>
  (gR h p0 8 1).bind fun a2 =>
  (cpI h a1 0 a2 0 6).bind fun h3 =>
  some h3
set_option maxRecDepth 20000 in
set_option maxHeartbeats 4000000 in
theorem ev_X9_holdBest {l : Launch} {g : aG} {d : Nat} (hd : 1 ≤ d) (h : aH) (p0 : Nat) (o : aH) (hf : fn_X9_holdBest h p0 = some o) : EvM l g d yX9_holdBest cX9_holdBest 1 none [.ref p0] h (none, o) := by
  refine EvM.of mk_X9_holdBest (Nat.le_of_ble_eq_true rfl) ?_
  intro Γ hl hg hq X
  have hd1 : 1 ≤ d := by omega
  have hk : RqV Γ o := hq
  unfold fn_X9_holdBest at hf
  show Jd Γ (0, 0) 0 [some (.ref p0)] [] h
  refine r_aload_n (pc := 0) X dX9_holdBest_0 rfl ?_
  obtain ⟨a1, ea1, hf⟩ := ob hf
  refine r_getR (pc := 1) X dX9_holdBest_1 fl_X9_9 rfl ea1 ?_
  refine r_iconst (pc := 4) X 0 dX9_holdBest_4 (by decide) ?_
  refine r_aload_n (pc := 5) X dX9_holdBest_5 rfl ?_
  obtain ⟨a2, ea2, hf⟩ := ob hf
  refine r_getR (pc := 6) X dX9_holdBest_6 fl_X9_13 rfl ea2 ?_
  refine r_iconst (pc := 9) X 0 dX9_holdBest_9 (by decide) ?_
  refine r_bipush (pc := 10) X 6 dX9_holdBest_10 (by decide) ?_
  obtain ⟨h3, eh3, hf⟩ := ob hf
  refine r_copy (pc := 12) X dX9_holdBest_12 ml_X9_26 ac_nat ac_sta ac_ini hd1 (Nat.le_of_ble_eq_true rfl) eh3 ?_
  obtain rfl := Option.some.inj hf
  exact r_vret (pc := 15) X dX9_holdBest_15 hk

theorem dX9_swap_0 : decode cX9_swap 0 = .ok (.aload_n 0, 1) := by decide +kernel
theorem dX9_swap_1 : decode cX9_swap 1 = .ok (.getfield 9, 3) := by decide +kernel
theorem dX9_swap_4 : decode cX9_swap 4 = .ok (.iload_n 1, 1) := by decide +kernel
theorem dX9_swap_5 : decode cX9_swap 5 = .ok (.iaload, 1) := by decide +kernel
theorem dX9_swap_6 : decode cX9_swap 6 = .ok (.istore_n 3, 1) := by decide +kernel
theorem dX9_swap_7 : decode cX9_swap 7 = .ok (.aload_n 0, 1) := by decide +kernel
theorem dX9_swap_8 : decode cX9_swap 8 = .ok (.getfield 9, 3) := by decide +kernel
theorem dX9_swap_11 : decode cX9_swap 11 = .ok (.iload_n 1, 1) := by decide +kernel
theorem dX9_swap_12 : decode cX9_swap 12 = .ok (.aload_n 0, 1) := by decide +kernel
theorem dX9_swap_13 : decode cX9_swap 13 = .ok (.getfield 9, 3) := by decide +kernel
theorem dX9_swap_16 : decode cX9_swap 16 = .ok (.iload_n 2, 1) := by decide +kernel
theorem dX9_swap_17 : decode cX9_swap 17 = .ok (.iaload, 1) := by decide +kernel
theorem dX9_swap_18 : decode cX9_swap 18 = .ok (.iastore, 1) := by decide +kernel
theorem dX9_swap_19 : decode cX9_swap 19 = .ok (.aload_n 0, 1) := by decide +kernel
theorem dX9_swap_20 : decode cX9_swap 20 = .ok (.getfield 9, 3) := by decide +kernel
theorem dX9_swap_23 : decode cX9_swap 23 = .ok (.iload_n 2, 1) := by decide +kernel
theorem dX9_swap_24 : decode cX9_swap 24 = .ok (.iload_n 3, 1) := by decide +kernel
theorem dX9_swap_25 : decode cX9_swap 25 = .ok (.iastore, 1) := by decide +kernel
theorem dX9_swap_26 : decode cX9_swap 26 = .ok (.return_, 1) := by decide +kernel
def fn_X9_swap (h : aH) (p0 : Nat) (p1 : Int32) (p2 : Int32) : Option (aH) :=
  (gR h p0 8 0).bind fun a1 =>
  (aI h a1 14 p1).bind fun x2 =>
  (gR h p0 8 0).bind fun a3 =>
  (gR h p0 8 0).bind fun a4 =>
  (aI h a4 14 p2).bind fun x5 =>
  (wI h a3 p1 x5).bind fun h6 =>
  (gR h6 p0 8 0).bind fun a7 =>
  (wI h6 a7 p2 x2).bind fun h8 =>
  some h8
set_option maxRecDepth 20000 in
set_option maxHeartbeats 4000000 in
theorem ev_X9_swap {l : Launch} {g : aG} {d : Nat} (hd : 0 ≤ d) (h : aH) (p0 : Nat) (p1 : Int32) (p2 : Int32) (o : aH) (hf : fn_X9_swap h p0 p1 p2 = some o) : EvM l g d yX9_swap cX9_swap 4 none [.ref p0, .int p1, .int p2] h (none, o) := by
  refine EvM.of mk_X9_swap (Nat.le_of_ble_eq_true rfl) ?_
  intro Γ hl hg hq X
  have hd1 : 0 ≤ d := by omega
  have hk : RqV Γ o := hq
  unfold fn_X9_swap at hf
  show Jd Γ (0, 0) 0 [some (.ref p0), some (.int p1), some (.int p2), none] [] h
  refine r_aload_n (pc := 0) X dX9_swap_0 rfl ?_
  obtain ⟨a1, ea1, hf⟩ := ob hf
  refine r_getR (pc := 1) X dX9_swap_1 fl_X9_9 rfl ea1 ?_
  refine r_iload_n (pc := 4) X dX9_swap_4 rfl ?_
  obtain ⟨x2, ex2, hf⟩ := ob hf
  refine r_iald (pc := 5) X dX9_swap_5 ex2 ?_
  refine r_istore_n (pc := 6) X [some (.ref p0), some (.int p1), some (.int p2), some (.int x2)] dX9_swap_6 (by decide) rfl ?_
  refine r_aload_n (pc := 7) X dX9_swap_7 rfl ?_
  obtain ⟨a3, ea3, hf⟩ := ob hf
  refine r_getR (pc := 8) X dX9_swap_8 fl_X9_9 rfl ea3 ?_
  refine r_iload_n (pc := 11) X dX9_swap_11 rfl ?_
  refine r_aload_n (pc := 12) X dX9_swap_12 rfl ?_
  obtain ⟨a4, ea4, hf⟩ := ob hf
  refine r_getR (pc := 13) X dX9_swap_13 fl_X9_9 rfl ea4 ?_
  refine r_iload_n (pc := 16) X dX9_swap_16 rfl ?_
  obtain ⟨x5, ex5, hf⟩ := ob hf
  refine r_iald (pc := 17) X dX9_swap_17 ex5 ?_
  obtain ⟨h6, eh6, hf⟩ := ob hf
  refine r_iast (pc := 18) X dX9_swap_18 eh6 ?_
  refine r_aload_n (pc := 19) X dX9_swap_19 rfl ?_
  obtain ⟨a7, ea7, hf⟩ := ob hf
  refine r_getR (pc := 20) X dX9_swap_20 fl_X9_9 rfl ea7 ?_
  refine r_iload_n (pc := 23) X dX9_swap_23 rfl ?_
  refine r_iload_n (pc := 24) X dX9_swap_24 rfl ?_
  obtain ⟨h8, eh8, hf⟩ := ob hf
  refine r_iast (pc := 25) X dX9_swap_25 eh8 ?_
  obtain rfl := Option.some.inj hf
  exact r_vret (pc := 26) X dX9_swap_26 hk

theorem dX9_next_0 : decode cX9_next 0 = .ok (.aload_n 0, 1) := by decide +kernel
theorem dX9_next_1 : decode cX9_next 1 = .ok (.getfield 22, 3) := by decide +kernel
theorem dX9_next_4 : decode cX9_next 4 = .ok (.iconst 2, 1) := by decide +kernel
theorem dX9_next_5 : decode cX9_next 5 = .ok (.isub, 1) := by decide +kernel
theorem dX9_next_6 : decode cX9_next 6 = .ok (.istore_n 1, 1) := by decide +kernel
theorem dX9_next_7 : decode cX9_next 7 = .ok (.iload_n 1, 1) := by decide +kernel
theorem dX9_next_8 : decode cX9_next 8 = .ok (.ifCond .lt 26, 3) := by decide +kernel
theorem dX9_next_11 : decode cX9_next 11 = .ok (.aload_n 0, 1) := by decide +kernel
theorem dX9_next_12 : decode cX9_next 12 = .ok (.getfield 9, 3) := by decide +kernel
theorem dX9_next_15 : decode cX9_next 15 = .ok (.iload_n 1, 1) := by decide +kernel
theorem dX9_next_16 : decode cX9_next 16 = .ok (.iaload, 1) := by decide +kernel
theorem dX9_next_17 : decode cX9_next 17 = .ok (.aload_n 0, 1) := by decide +kernel
theorem dX9_next_18 : decode cX9_next 18 = .ok (.getfield 9, 3) := by decide +kernel
theorem dX9_next_21 : decode cX9_next 21 = .ok (.iload_n 1, 1) := by decide +kernel
theorem dX9_next_22 : decode cX9_next 22 = .ok (.iconst 1, 1) := by decide +kernel
theorem dX9_next_23 : decode cX9_next 23 = .ok (.iadd, 1) := by decide +kernel
theorem dX9_next_24 : decode cX9_next 24 = .ok (.iaload, 1) := by decide +kernel
theorem dX9_next_25 : decode cX9_next 25 = .ok (.if_icmp .le 9, 3) := by decide +kernel
theorem dX9_next_28 : decode cX9_next 28 = .ok (.iinc 1 (-1), 3) := by decide +kernel
theorem dX9_next_31 : decode cX9_next 31 = .ok (.goto (-24), 3) := by decide +kernel
theorem dX9_next_34 : decode cX9_next 34 = .ok (.iload_n 1, 1) := by decide +kernel
theorem dX9_next_35 : decode cX9_next 35 = .ok (.ifCond .ge 5, 3) := by decide +kernel
theorem dX9_next_38 : decode cX9_next 38 = .ok (.iconst 0, 1) := by decide +kernel
theorem dX9_next_39 : decode cX9_next 39 = .ok (.ireturn, 1) := by decide +kernel
theorem dX9_next_40 : decode cX9_next 40 = .ok (.aload_n 0, 1) := by decide +kernel
theorem dX9_next_41 : decode cX9_next 41 = .ok (.getfield 22, 3) := by decide +kernel
theorem dX9_next_44 : decode cX9_next 44 = .ok (.iconst 1, 1) := by decide +kernel
theorem dX9_next_45 : decode cX9_next 45 = .ok (.isub, 1) := by decide +kernel
theorem dX9_next_46 : decode cX9_next 46 = .ok (.istore_n 2, 1) := by decide +kernel
theorem dX9_next_47 : decode cX9_next 47 = .ok (.iload_n 2, 1) := by decide +kernel
theorem dX9_next_48 : decode cX9_next 48 = .ok (.iload_n 1, 1) := by decide +kernel
theorem dX9_next_49 : decode cX9_next 49 = .ok (.if_icmp .le 24, 3) := by decide +kernel
theorem dX9_next_52 : decode cX9_next 52 = .ok (.aload_n 0, 1) := by decide +kernel
theorem dX9_next_53 : decode cX9_next 53 = .ok (.getfield 9, 3) := by decide +kernel
theorem dX9_next_56 : decode cX9_next 56 = .ok (.iload_n 2, 1) := by decide +kernel
theorem dX9_next_57 : decode cX9_next 57 = .ok (.iaload, 1) := by decide +kernel
theorem dX9_next_58 : decode cX9_next 58 = .ok (.aload_n 0, 1) := by decide +kernel
theorem dX9_next_59 : decode cX9_next 59 = .ok (.getfield 9, 3) := by decide +kernel
theorem dX9_next_62 : decode cX9_next 62 = .ok (.iload_n 1, 1) := by decide +kernel
theorem dX9_next_63 : decode cX9_next 63 = .ok (.iaload, 1) := by decide +kernel
theorem dX9_next_64 : decode cX9_next 64 = .ok (.if_icmp .ge 9, 3) := by decide +kernel
theorem dX9_next_67 : decode cX9_next 67 = .ok (.iinc 2 (-1), 3) := by decide +kernel
theorem dX9_next_70 : decode cX9_next 70 = .ok (.goto (-23), 3) := by decide +kernel
theorem dX9_next_73 : decode cX9_next 73 = .ok (.aload_n 0, 1) := by decide +kernel
theorem dX9_next_74 : decode cX9_next 74 = .ok (.iload_n 1, 1) := by decide +kernel
theorem dX9_next_75 : decode cX9_next 75 = .ok (.iload_n 2, 1) := by decide +kernel
theorem dX9_next_76 : decode cX9_next 76 = .ok (.invokevirtual 32, 3) := by decide +kernel
theorem dX9_next_79 : decode cX9_next 79 = .ok (.iload_n 1, 1) := by decide +kernel
theorem dX9_next_80 : decode cX9_next 80 = .ok (.iconst 1, 1) := by decide +kernel
theorem dX9_next_81 : decode cX9_next 81 = .ok (.iadd, 1) := by decide +kernel
theorem dX9_next_82 : decode cX9_next 82 = .ok (.istore_n 3, 1) := by decide +kernel
theorem dX9_next_83 : decode cX9_next 83 = .ok (.aload_n 0, 1) := by decide +kernel
theorem dX9_next_84 : decode cX9_next 84 = .ok (.getfield 22, 3) := by decide +kernel
theorem dX9_next_87 : decode cX9_next 87 = .ok (.iconst 1, 1) := by decide +kernel
theorem dX9_next_88 : decode cX9_next 88 = .ok (.isub, 1) := by decide +kernel
theorem dX9_next_89 : decode cX9_next 89 = .ok (.istore 4, 2) := by decide +kernel
theorem dX9_next_91 : decode cX9_next 91 = .ok (.iload_n 3, 1) := by decide +kernel
theorem dX9_next_92 : decode cX9_next 92 = .ok (.iload 4, 2) := by decide +kernel
theorem dX9_next_94 : decode cX9_next 94 = .ok (.if_icmp .ge 19, 3) := by decide +kernel
theorem dX9_next_97 : decode cX9_next 97 = .ok (.aload_n 0, 1) := by decide +kernel
theorem dX9_next_98 : decode cX9_next 98 = .ok (.iload_n 3, 1) := by decide +kernel
theorem dX9_next_99 : decode cX9_next 99 = .ok (.iload 4, 2) := by decide +kernel
theorem dX9_next_101 : decode cX9_next 101 = .ok (.invokevirtual 32, 3) := by decide +kernel
theorem dX9_next_104 : decode cX9_next 104 = .ok (.iinc 3 1, 3) := by decide +kernel
theorem dX9_next_107 : decode cX9_next 107 = .ok (.iinc 4 (-1), 3) := by decide +kernel
theorem dX9_next_110 : decode cX9_next 110 = .ok (.goto (-19), 3) := by decide +kernel
theorem dX9_next_113 : decode cX9_next 113 = .ok (.iconst 1, 1) := by decide +kernel
theorem dX9_next_114 : decode cX9_next 114 = .ok (.ireturn, 1) := by decide +kernel
def lb_X9_next_7 (hh : aH) (v0 : Nat) (s : Int32) : Option ((Int32) ⊕ ((Int32))) :=
  if s < 0 then
    some (.inr s)
  else
    (gR hh v0 8 0).bind fun a3 =>
    (aI hh a3 14 s).bind fun x4 =>
    (gR hh v0 8 0).bind fun a5 =>
    (aI hh a5 14 (s + 1)).bind fun x6 =>
    if x4 ≤ x6 then
      some (.inr s)
    else
      (some (s + (-1))).bind fun x7 =>
      some (.inl x7)
def hd_X9_next_7 (Γ : aC) (hh : aH) (v0 : Nat) (s : Int32) : Prop := ∀ (j2 : Option Value) (j3 : Option Value) (j4 : Option Value), Jd Γ (0, 0) 7 [some (.ref v0), some (.int s), j2, j3, j4] [] hh
def ex_X9_next_7 (Γ : aC) (hh : aH) (v0 : Nat) (r : (Int32)) : Prop := (fun r => ∀ (j2 : Option Value) (j3 : Option Value) (j4 : Option Value), Jd Γ (0, 0) 34 [some (.ref v0), some (.int r), j2, j3, j4] [] hh) r
set_option maxRecDepth 20000 in
set_option maxHeartbeats 4000000 in
theorem lw_X9_next_7 {Γ : aC} {d : Nat} (X : Cx Γ RX9 cX9_next 5 (some .boolean) (d, 0, 0)) (hd : 1 ≤ d) (hh : aH) (v0 : Nat) : ∀ n s o, lp (lb_X9_next_7 hh v0) n s = some o → ex_X9_next_7 Γ hh v0 o → hd_X9_next_7 Γ hh v0 s := by
  have hd1 : 1 ≤ d := by omega
  refine J_lp _ _ _ ?_
  intro s o hf hk j2 j3 j4
  unfold lb_X9_next_7 at hf
  refine r_iload_n (pc := 7) X dX9_next_7 rfl ?_
  refine r_if_lt (pc := 8) X 34 dX9_next_8 (by decide) (fun c9 => ?_) (fun c9 => ?_)
  · rw [if_pos c9] at hf
    obtain rfl := Option.some.inj hf
    exact hk _ _ _
  · rw [if_neg c9] at hf
    refine r_aload_n (pc := 11) X dX9_next_11 rfl ?_
    obtain ⟨a3, ea3, hf⟩ := ob hf
    refine r_getR (pc := 12) X dX9_next_12 fl_X9_9 rfl ea3 ?_
    refine r_iload_n (pc := 15) X dX9_next_15 rfl ?_
    obtain ⟨x4, ex4, hf⟩ := ob hf
    refine r_iald (pc := 16) X dX9_next_16 ex4 ?_
    refine r_aload_n (pc := 17) X dX9_next_17 rfl ?_
    obtain ⟨a5, ea5, hf⟩ := ob hf
    refine r_getR (pc := 18) X dX9_next_18 fl_X9_9 rfl ea5 ?_
    refine r_iload_n (pc := 21) X dX9_next_21 rfl ?_
    refine r_iconst (pc := 22) X 1 dX9_next_22 (by decide) ?_
    refine r_iadd (pc := 23) X dX9_next_23 ?_
    obtain ⟨x6, ex6, hf⟩ := ob hf
    refine r_iald (pc := 24) X dX9_next_24 ex6 ?_
    refine r_icmp_le (pc := 25) X 34 dX9_next_25 (by decide) (fun c8 => ?_) (fun c8 => ?_)
    · rw [if_pos c8] at hf
      obtain rfl := Option.some.inj hf
      exact hk _ _ _
    · rw [if_neg c8] at hf
      obtain ⟨x7, ex7, hf⟩ := ob hf
      refine r_iinc2 (pc := 28) X (-1) [some (.ref v0), some (.int x7), j2, j3, j4] dX9_next_28 (by decide) rfl (by decide) ex7 rfl ?_
      refine r_goto (pc := 31) X 7 dX9_next_31 (by decide) ?_
      obtain rfl := Option.some.inj hf
      exact hk _ _ _
def lb_X9_next_47 (hh : aH) (v0 : Nat) (v1 : Int32) (s : Int32) : Option ((Int32) ⊕ ((Int32))) :=
  if s ≤ v1 then
    some (.inr s)
  else
    (gR hh v0 8 0).bind fun a16 =>
    (aI hh a16 14 s).bind fun x17 =>
    (gR hh v0 8 0).bind fun a18 =>
    (aI hh a18 14 v1).bind fun x19 =>
    if x17 < x19 then
      (some (s + (-1))).bind fun x20 =>
      some (.inl x20)
    else
      some (.inr s)
def hd_X9_next_47 (Γ : aC) (hh : aH) (v0 : Nat) (v1 : Int32) (s : Int32) : Prop := ∀ (j3 : Option Value) (j4 : Option Value), Jd Γ (0, 0) 47 [some (.ref v0), some (.int v1), some (.int s), j3, j4] [] hh
def ex_X9_next_47 (Γ : aC) (hh : aH) (v0 : Nat) (v1 : Int32) (r : (Int32)) : Prop := (fun r => ∀ (j3 : Option Value) (j4 : Option Value), Jd Γ (0, 0) 73 [some (.ref v0), some (.int v1), some (.int r), j3, j4] [] hh) r
set_option maxRecDepth 20000 in
set_option maxHeartbeats 4000000 in
theorem lw_X9_next_47 {Γ : aC} {d : Nat} (X : Cx Γ RX9 cX9_next 5 (some .boolean) (d, 0, 0)) (hd : 1 ≤ d) (hh : aH) (v0 : Nat) (v1 : Int32) : ∀ n s o, lp (lb_X9_next_47 hh v0 v1) n s = some o → ex_X9_next_47 Γ hh v0 v1 o → hd_X9_next_47 Γ hh v0 v1 s := by
  have hd1 : 1 ≤ d := by omega
  refine J_lp _ _ _ ?_
  intro s o hf hk j3 j4
  unfold lb_X9_next_47 at hf
  refine r_iload_n (pc := 47) X dX9_next_47 rfl ?_
  refine r_iload_n (pc := 48) X dX9_next_48 rfl ?_
  refine r_icmp_le (pc := 49) X 73 dX9_next_49 (by decide) (fun c22 => ?_) (fun c22 => ?_)
  · rw [if_pos c22] at hf
    obtain rfl := Option.some.inj hf
    exact hk _ _
  · rw [if_neg c22] at hf
    refine r_aload_n (pc := 52) X dX9_next_52 rfl ?_
    obtain ⟨a16, ea16, hf⟩ := ob hf
    refine r_getR (pc := 53) X dX9_next_53 fl_X9_9 rfl ea16 ?_
    refine r_iload_n (pc := 56) X dX9_next_56 rfl ?_
    obtain ⟨x17, ex17, hf⟩ := ob hf
    refine r_iald (pc := 57) X dX9_next_57 ex17 ?_
    refine r_aload_n (pc := 58) X dX9_next_58 rfl ?_
    obtain ⟨a18, ea18, hf⟩ := ob hf
    refine r_getR (pc := 59) X dX9_next_59 fl_X9_9 rfl ea18 ?_
    refine r_iload_n (pc := 62) X dX9_next_62 rfl ?_
    obtain ⟨x19, ex19, hf⟩ := ob hf
    refine r_iald (pc := 63) X dX9_next_63 ex19 ?_
    refine r_icmp_ge (pc := 64) X 73 dX9_next_64 (by decide) (fun c21 => ?_) (fun c21 => ?_)
    · rw [if_neg c21] at hf
      obtain rfl := Option.some.inj hf
      exact hk _ _
    · rw [if_pos c21] at hf
      obtain ⟨x20, ex20, hf⟩ := ob hf
      refine r_iinc2 (pc := 67) X (-1) [some (.ref v0), some (.int v1), some (.int x20), j3, j4] dX9_next_67 (by decide) rfl (by decide) ex20 rfl ?_
      refine r_goto (pc := 70) X 47 dX9_next_70 (by decide) ?_
      obtain rfl := Option.some.inj hf
      exact hk _ _
def lb_X9_next_91 (v0 : Nat) (s : Int32 × Int32 × aH) : Option ((Int32 × Int32 × aH) ⊕ ((Int32 × aH))) :=
  if s.1 < s.2.1 then
    (ck s.2.2 v0 8).bind fun u31 =>
    (fn_X9_swap s.2.2 v0 s.1 s.2.1).bind fun h32 =>
    (some (s.1 + 1)).bind fun x33 =>
    (some (s.2.1 + (-1))).bind fun x34 =>
    some (.inl (x33, x34, h32))
  else
    some (.inr (1, s.2.2))
def hd_X9_next_91 (Γ : aC) (v0 : Nat) (s : Int32 × Int32 × aH) : Prop := ∀ (j1 : Option Value) (j2 : Option Value), Jd Γ (0, 0) 91 [some (.ref v0), j1, j2, some (.int s.1), some (.int s.2.1)] [] s.2.2
def ex_X9_next_91 (Γ : aC) (v0 : Nat) (r : (Int32 × aH)) : Prop := (fun r => RqI Γ r) r
set_option maxRecDepth 20000 in
set_option maxHeartbeats 4000000 in
theorem lw_X9_next_91 {Γ : aC} {d : Nat} (X : Cx Γ RX9 cX9_next 5 (some .boolean) (d, 0, 0)) (hd : 1 ≤ d) (v0 : Nat) : ∀ n s o, lp (lb_X9_next_91 v0) n s = some o → ex_X9_next_91 Γ v0 o → hd_X9_next_91 Γ v0 s := by
  have hd1 : 1 ≤ d := by omega
  refine J_lp _ _ _ ?_
  intro s o hf hk j1 j2
  unfold lb_X9_next_91 at hf
  refine r_iload_n (pc := 91) X dX9_next_91 rfl ?_
  refine r_iload (pc := 92) X dX9_next_92 rfl ?_
  refine r_icmp_ge (pc := 94) X 113 dX9_next_94 (by decide) (fun c35 => ?_) (fun c35 => ?_)
  · rw [if_neg c35] at hf
    refine r_iconst (pc := 113) X 1 dX9_next_113 (by decide) ?_
    obtain rfl := Option.some.inj hf
    exact r_zret (pc := 114) X dX9_next_114 (Or.inr rfl) hk
  · rw [if_pos c35] at hf
    refine r_aload_n (pc := 97) X dX9_next_97 rfl ?_
    refine r_iload_n (pc := 98) X dX9_next_98 rfl ?_
    refine r_iload (pc := 99) X dX9_next_99 rfl ?_
    obtain ⟨u31, eu31, hf⟩ := ob hf
    obtain ⟨h32, eh32, hf⟩ := ob hf
    refine r_callVV (pc := 101) X [.int s.1, .int s.2.1] dX9_next_101 ml_X9_32 vo_X9_swap ⟨Nat.le_refl _, Nat.le_refl _⟩ eu31 (ev_X9_swap (d := d - 1) (by omega) _ _ _ _ _ eh32) hd1 rfl (Nat.le_of_ble_eq_true rfl) rfl ?_
    obtain ⟨x33, ex33, hf⟩ := ob hf
    refine r_fg 2 [some (.ref v0), j1, none, some (.int s.1), some (.int s.2.1)] rfl ?_
    refine r_iinc2 (pc := 104) X 1 [some (.ref v0), j1, none, some (.int x33), some (.int s.2.1)] dX9_next_104 (by decide) rfl (by decide) ex33 rfl ?_
    obtain ⟨x34, ex34, hf⟩ := ob hf
    refine r_iinc2 (pc := 107) X (-1) [some (.ref v0), j1, none, some (.int x33), some (.int x34)] dX9_next_107 (by decide) rfl (by decide) ex34 rfl ?_
    refine r_goto (pc := 110) X 91 dX9_next_110 (by decide) ?_
    obtain rfl := Option.some.inj hf
    exact hk _ _
def fn_X9_next (h : aH) (p0 : Nat) : Option (Int32 × aH) :=
  (gI h p0 8 2).bind fun x1 =>
  (some (x1 - 2)).bind fun x2 =>
  (lp (lb_X9_next_7 h p0) lpN x2).bind fun o10 =>
  if o10 < 0 then
    some (0, h)
  else
    (gI h p0 8 2).bind fun x14 =>
    (some (x14 - 1)).bind fun x15 =>
    (lp (lb_X9_next_47 h p0 o10) lpN x15).bind fun o23 =>
    (ck h p0 8).bind fun u26 =>
    (fn_X9_swap h p0 o10 o23).bind fun h27 =>
    (some (o10 + 1)).bind fun x28 =>
    (gI h27 p0 8 2).bind fun x29 =>
    (some (x29 - 1)).bind fun x30 =>
    (lp (lb_X9_next_91 p0) lpN (x28, x30, h27)).bind fun o36 =>
    some o36
set_option maxRecDepth 20000 in
set_option maxHeartbeats 4000000 in
theorem ev_X9_next {l : Launch} {g : aG} {d : Nat} (hd : 1 ≤ d) (h : aH) (p0 : Nat) (o : Int32 × aH) (hf : fn_X9_next h p0 = some o) : EvM l g d yX9_next cX9_next 5 (some .boolean) [.ref p0] h (some (.int o.1), o.2) := by
  refine EvM.of mk_X9_next (Nat.le_of_ble_eq_true rfl) ?_
  intro Γ hl hg hq X
  have hd1 : 1 ≤ d := by omega
  have hk : RqI Γ o := hq
  unfold fn_X9_next at hf
  show Jd Γ (0, 0) 0 [some (.ref p0), none, none, none, none] [] h
  refine r_aload_n (pc := 0) X dX9_next_0 rfl ?_
  obtain ⟨x1, ex1, hf⟩ := ob hf
  refine r_getI (pc := 1) X dX9_next_1 fl_X9_22 rfl ex1 ?_
  refine r_iconst (pc := 4) X 2 dX9_next_4 (by decide) ?_
  refine r_isub (pc := 5) X dX9_next_5 ?_
  obtain ⟨x2, ex2, hf⟩ := ob hf
  refine r_nmI ex2 ?_
  refine r_istore_n (pc := 6) X [some (.ref p0), some (.int x2), none, none, none] dX9_next_6 (by decide) rfl ?_
  obtain ⟨o10, eo10, hf⟩ := ob hf
  refine (lw_X9_next_7 X hd _ _ lpN _ o10 eo10 ?_) _ _ _
  intro j11 j12 j13
  refine r_iload_n (pc := 34) X dX9_next_34 rfl ?_
  refine r_if_ge (pc := 35) X 40 dX9_next_35 (by decide) (fun c37 => ?_) (fun c37 => ?_)
  · rw [if_neg c37] at hf
    refine r_aload_n (pc := 40) X dX9_next_40 rfl ?_
    obtain ⟨x14, ex14, hf⟩ := ob hf
    refine r_getI (pc := 41) X dX9_next_41 fl_X9_22 rfl ex14 ?_
    refine r_iconst (pc := 44) X 1 dX9_next_44 (by decide) ?_
    refine r_isub (pc := 45) X dX9_next_45 ?_
    obtain ⟨x15, ex15, hf⟩ := ob hf
    refine r_nmI ex15 ?_
    refine r_istore_n (pc := 46) X [some (.ref p0), some (.int o10), some (.int x15), j12, j13] dX9_next_46 (by decide) rfl ?_
    obtain ⟨o23, eo23, hf⟩ := ob hf
    refine (lw_X9_next_47 X hd _ _ _ lpN _ o23 eo23 ?_) _ _
    intro j24 j25
    refine r_aload_n (pc := 73) X dX9_next_73 rfl ?_
    refine r_iload_n (pc := 74) X dX9_next_74 rfl ?_
    refine r_iload_n (pc := 75) X dX9_next_75 rfl ?_
    obtain ⟨u26, eu26, hf⟩ := ob hf
    obtain ⟨h27, eh27, hf⟩ := ob hf
    refine r_callVV (pc := 76) X [.int o10, .int o23] dX9_next_76 ml_X9_32 vo_X9_swap ⟨Nat.le_refl _, Nat.le_refl _⟩ eu26 (ev_X9_swap (d := d - 1) (by omega) _ _ _ _ _ eh27) hd1 rfl (Nat.le_of_ble_eq_true rfl) rfl ?_
    refine r_iload_n (pc := 79) X dX9_next_79 rfl ?_
    refine r_iconst (pc := 80) X 1 dX9_next_80 (by decide) ?_
    refine r_iadd (pc := 81) X dX9_next_81 ?_
    obtain ⟨x28, ex28, hf⟩ := ob hf
    refine r_nmI ex28 ?_
    refine r_istore_n (pc := 82) X [some (.ref p0), some (.int o10), some (.int o23), some (.int x28), j25] dX9_next_82 (by decide) rfl ?_
    refine r_aload_n (pc := 83) X dX9_next_83 rfl ?_
    obtain ⟨x29, ex29, hf⟩ := ob hf
    refine r_getI (pc := 84) X dX9_next_84 fl_X9_22 rfl ex29 ?_
    refine r_iconst (pc := 87) X 1 dX9_next_87 (by decide) ?_
    refine r_isub (pc := 88) X dX9_next_88 ?_
    obtain ⟨x30, ex30, hf⟩ := ob hf
    refine r_nmI ex30 ?_
    refine r_istore (pc := 89) X [some (.ref p0), some (.int o10), some (.int o23), some (.int x28), some (.int x30)] dX9_next_89 (by decide) rfl ?_
    obtain ⟨o36, eo36, hf⟩ := ob hf
    refine (lw_X9_next_91 X hd _ lpN _ o36 eo36 ?_) _ _
    obtain rfl := Option.some.inj hf
    exact hk
  · rw [if_pos c37] at hf
    refine r_iconst (pc := 38) X 0 dX9_next_38 (by decide) ?_
    obtain rfl := Option.some.inj hf
    exact r_zret (pc := 39) X dX9_next_39 (Or.inl rfl) hk

theorem dX1_leastWinningMove_0 : decode cX1_leastWinningMove 0 = .ok (.iconst 0, 1) := by decide +kernel
theorem dX1_leastWinningMove_1 : decode cX1_leastWinningMove 1 = .ok (.istore_n 3, 1) := by decide +kernel
theorem dX1_leastWinningMove_2 : decode cX1_leastWinningMove 2 = .ok (.iload_n 3, 1) := by decide +kernel
theorem dX1_leastWinningMove_3 : decode cX1_leastWinningMove 3 = .ok (.iconst 2, 1) := by decide +kernel
theorem dX1_leastWinningMove_4 : decode cX1_leastWinningMove 4 = .ok (.if_icmp .gt 64, 3) := by decide +kernel
theorem dX1_leastWinningMove_7 : decode cX1_leastWinningMove 7 = .ok (.iload_n 1, 1) := by decide +kernel
theorem dX1_leastWinningMove_8 : decode cX1_leastWinningMove 8 = .ok (.iload_n 3, 1) := by decide +kernel
theorem dX1_leastWinningMove_9 : decode cX1_leastWinningMove 9 = .ok (.isub, 1) := by decide +kernel
theorem dX1_leastWinningMove_10 : decode cX1_leastWinningMove 10 = .ok (.istore 4, 2) := by decide +kernel
theorem dX1_leastWinningMove_12 : decode cX1_leastWinningMove 12 = .ok (.iload_n 2, 1) := by decide +kernel
theorem dX1_leastWinningMove_13 : decode cX1_leastWinningMove 13 = .ok (.iconst 2, 1) := by decide +kernel
theorem dX1_leastWinningMove_14 : decode cX1_leastWinningMove 14 = .ok (.isub, 1) := by decide +kernel
theorem dX1_leastWinningMove_15 : decode cX1_leastWinningMove 15 = .ok (.iload_n 3, 1) := by decide +kernel
theorem dX1_leastWinningMove_16 : decode cX1_leastWinningMove 16 = .ok (.iadd, 1) := by decide +kernel
theorem dX1_leastWinningMove_17 : decode cX1_leastWinningMove 17 = .ok (.istore 5, 2) := by decide +kernel
theorem dX1_leastWinningMove_19 : decode cX1_leastWinningMove 19 = .ok (.iload 4, 2) := by decide +kernel
theorem dX1_leastWinningMove_21 : decode cX1_leastWinningMove 21 = .ok (.ifCond .lt 19, 3) := by decide +kernel
theorem dX1_leastWinningMove_24 : decode cX1_leastWinningMove 24 = .ok (.iload 4, 2) := by decide +kernel
theorem dX1_leastWinningMove_26 : decode cX1_leastWinningMove 26 = .ok (.aload_n 0, 1) := by decide +kernel
theorem dX1_leastWinningMove_27 : decode cX1_leastWinningMove 27 = .ok (.arraylength, 1) := by decide +kernel
theorem dX1_leastWinningMove_28 : decode cX1_leastWinningMove 28 = .ok (.if_icmp .ge 12, 3) := by decide +kernel
theorem dX1_leastWinningMove_31 : decode cX1_leastWinningMove 31 = .ok (.iload 5, 2) := by decide +kernel
theorem dX1_leastWinningMove_33 : decode cX1_leastWinningMove 33 = .ok (.ifCond .lt 7, 3) := by decide +kernel
theorem dX1_leastWinningMove_36 : decode cX1_leastWinningMove 36 = .ok (.iconst 1, 1) := by decide +kernel
theorem dX1_leastWinningMove_37 : decode cX1_leastWinningMove 37 = .ok (.goto 4, 3) := by decide +kernel
theorem dX1_leastWinningMove_40 : decode cX1_leastWinningMove 40 = .ok (.iconst 0, 1) := by decide +kernel
theorem dX1_leastWinningMove_41 : decode cX1_leastWinningMove 41 = .ok (.istore 6, 2) := by decide +kernel
theorem dX1_leastWinningMove_43 : decode cX1_leastWinningMove 43 = .ok (.iload 6, 2) := by decide +kernel
theorem dX1_leastWinningMove_45 : decode cX1_leastWinningMove 45 = .ok (.ifCond .eq 17, 3) := by decide +kernel
theorem dX1_leastWinningMove_48 : decode cX1_leastWinningMove 48 = .ok (.aload_n 0, 1) := by decide +kernel
theorem dX1_leastWinningMove_49 : decode cX1_leastWinningMove 49 = .ok (.iload 4, 2) := by decide +kernel
theorem dX1_leastWinningMove_51 : decode cX1_leastWinningMove 51 = .ok (.iaload, 1) := by decide +kernel
theorem dX1_leastWinningMove_52 : decode cX1_leastWinningMove 52 = .ok (.iload 5, 2) := by decide +kernel
theorem dX1_leastWinningMove_54 : decode cX1_leastWinningMove 54 = .ok (.ishr, 1) := by decide +kernel
theorem dX1_leastWinningMove_55 : decode cX1_leastWinningMove 55 = .ok (.iconst 1, 1) := by decide +kernel
theorem dX1_leastWinningMove_56 : decode cX1_leastWinningMove 56 = .ok (.iand, 1) := by decide +kernel
theorem dX1_leastWinningMove_57 : decode cX1_leastWinningMove 57 = .ok (.ifCond .ne 5, 3) := by decide +kernel
theorem dX1_leastWinningMove_60 : decode cX1_leastWinningMove 60 = .ok (.iload_n 3, 1) := by decide +kernel
theorem dX1_leastWinningMove_61 : decode cX1_leastWinningMove 61 = .ok (.ireturn, 1) := by decide +kernel
theorem dX1_leastWinningMove_62 : decode cX1_leastWinningMove 62 = .ok (.iinc 3 1, 3) := by decide +kernel
theorem dX1_leastWinningMove_65 : decode cX1_leastWinningMove 65 = .ok (.goto (-63), 3) := by decide +kernel
theorem dX1_leastWinningMove_68 : decode cX1_leastWinningMove 68 = .ok (.iconst (-1), 1) := by decide +kernel
theorem dX1_leastWinningMove_69 : decode cX1_leastWinningMove 69 = .ok (.ireturn, 1) := by decide +kernel
def lb_X1_leastWinningMove_2 (hh : aH) (v0 : Nat) (v1 : Int32) (v2 : Int32) (s : Int32) : Option ((Int32) ⊕ ((Int32))) :=
  if s ≤ 2 then
    (some (v1 - s)).bind fun x1 =>
    (some ((v2 - 2) + s)).bind fun x2 =>
    ((
      if x1 < 0 then
        some 0
      else
        (al hh v0).bind fun x9 =>
        if x1 < x9 then
          if x2 < 0 then
            some 0
          else
            some 1
        else
          some 0
    ) : Option (Int32)).bind fun t3 =>
    if t3 = 0 then
      (some (s + 1)).bind fun x4 =>
      some (.inl x4)
    else
      (aI hh v0 14 x1).bind fun x5 =>
      if ((x5 >>> (x2 &&& 31)) &&& 1) = 0 then
        some (.inr s)
      else
        (some (s + 1)).bind fun x6 =>
        some (.inl x6)
  else
    some (.inr (-1))
def hd_X1_leastWinningMove_2 (Γ : aC) (hh : aH) (v0 : Nat) (v1 : Int32) (v2 : Int32) (s : Int32) : Prop := ∀ (j4 : Option Value) (j5 : Option Value) (j6 : Option Value), Jd Γ (0, 0) 2 [some (.ref v0), some (.int v1), some (.int v2), some (.int s), j4, j5, j6] [] hh
def ex_X1_leastWinningMove_2 (Γ : aC) (hh : aH) (v0 : Nat) (v1 : Int32) (v2 : Int32) (r : (Int32)) : Prop := (fun r => RpI hh Γ r) r
set_option maxRecDepth 20000 in
set_option maxHeartbeats 4000000 in
theorem lw_X1_leastWinningMove_2 {Γ : aC} {d : Nat} (X : Cx Γ RX1 cX1_leastWinningMove 7 (some .int) (d, 0, 0)) (hd : 0 ≤ d) (hh : aH) (v0 : Nat) (v1 : Int32) (v2 : Int32) : ∀ n s o, lp (lb_X1_leastWinningMove_2 hh v0 v1 v2) n s = some o → ex_X1_leastWinningMove_2 Γ hh v0 v1 v2 o → hd_X1_leastWinningMove_2 Γ hh v0 v1 v2 s := by
  have hd1 : 0 ≤ d := by omega
  refine J_lp _ _ _ ?_
  intro s o hf hk j4 j5 j6
  unfold lb_X1_leastWinningMove_2 at hf
  refine r_iload_n (pc := 2) X dX1_leastWinningMove_2 rfl ?_
  refine r_iconst (pc := 3) X 2 dX1_leastWinningMove_3 (by decide) ?_
  refine r_icmp_gt (pc := 4) X 68 dX1_leastWinningMove_4 (by decide) (fun c13 => ?_) (fun c13 => ?_)
  · rw [if_neg c13] at hf
    refine r_iconst (pc := 68) X (-1) dX1_leastWinningMove_68 (by decide) ?_
    obtain rfl := Option.some.inj hf
    exact r_iret (pc := 69) X dX1_leastWinningMove_69 hk
  · rw [if_pos c13] at hf
    refine r_iload_n (pc := 7) X dX1_leastWinningMove_7 rfl ?_
    refine r_iload_n (pc := 8) X dX1_leastWinningMove_8 rfl ?_
    refine r_isub (pc := 9) X dX1_leastWinningMove_9 ?_
    obtain ⟨x1, ex1, hf⟩ := ob hf
    refine r_nmI ex1 ?_
    refine r_istore (pc := 10) X [some (.ref v0), some (.int v1), some (.int v2), some (.int s), some (.int x1), j5, j6] dX1_leastWinningMove_10 (by decide) rfl ?_
    refine r_iload_n (pc := 12) X dX1_leastWinningMove_12 rfl ?_
    refine r_iconst (pc := 13) X 2 dX1_leastWinningMove_13 (by decide) ?_
    refine r_isub (pc := 14) X dX1_leastWinningMove_14 ?_
    refine r_iload_n (pc := 15) X dX1_leastWinningMove_15 rfl ?_
    refine r_iadd (pc := 16) X dX1_leastWinningMove_16 ?_
    obtain ⟨x2, ex2, hf⟩ := ob hf
    refine r_nmI ex2 ?_
    refine r_istore (pc := 17) X [some (.ref v0), some (.int v1), some (.int v2), some (.int s), some (.int x1), some (.int x2), j6] dX1_leastWinningMove_17 (by decide) rfl ?_
    refine r_iload (pc := 19) X dX1_leastWinningMove_19 rfl ?_
    obtain ⟨t3, et3, hf⟩ := ob hf
    have Jt3 : Jd Γ (0, 0) 41 [some (.ref v0), some (.int v1), some (.int v2), some (.int s), some (.int x1), some (.int x2), j6] [.int t3] hh := by
      refine r_istore (pc := 41) X [some (.ref v0), some (.int v1), some (.int v2), some (.int s), some (.int x1), some (.int x2), some (.int t3)] dX1_leastWinningMove_41 (by decide) rfl ?_
      refine r_iload (pc := 43) X dX1_leastWinningMove_43 rfl ?_
      refine r_if_eq (pc := 45) X 62 dX1_leastWinningMove_45 (by decide) (fun c8 => ?_) (fun c8 => ?_)
      · rw [if_pos c8] at hf
        obtain ⟨x4, ex4, hf⟩ := ob hf
        refine r_iinc2 (pc := 62) X 1 [some (.ref v0), some (.int v1), some (.int v2), some (.int x4), some (.int x1), some (.int x2), some (.int t3)] dX1_leastWinningMove_62 (by decide) rfl (by decide) ex4 rfl ?_
        refine r_goto (pc := 65) X 2 dX1_leastWinningMove_65 (by decide) ?_
        obtain rfl := Option.some.inj hf
        exact hk _ _ _
      · rw [if_neg c8] at hf
        refine r_aload_n (pc := 48) X dX1_leastWinningMove_48 rfl ?_
        refine r_iload (pc := 49) X dX1_leastWinningMove_49 rfl ?_
        obtain ⟨x5, ex5, hf⟩ := ob hf
        refine r_iald (pc := 51) X dX1_leastWinningMove_51 ex5 ?_
        refine r_iload (pc := 52) X dX1_leastWinningMove_52 rfl ?_
        refine r_ishr (pc := 54) X dX1_leastWinningMove_54 ?_
        refine r_iconst (pc := 55) X 1 dX1_leastWinningMove_55 (by decide) ?_
        refine r_iand (pc := 56) X dX1_leastWinningMove_56 ?_
        refine r_if_ne (pc := 57) X 62 dX1_leastWinningMove_57 (by decide) (fun c7 => ?_) (fun c7 => ?_)
        · rw [if_neg c7] at hf
          obtain ⟨x6, ex6, hf⟩ := ob hf
          refine r_iinc2 (pc := 62) X 1 [some (.ref v0), some (.int v1), some (.int v2), some (.int x6), some (.int x1), some (.int x2), some (.int t3)] dX1_leastWinningMove_62 (by decide) rfl (by decide) ex6 rfl ?_
          refine r_goto (pc := 65) X 2 dX1_leastWinningMove_65 (by decide) ?_
          obtain rfl := Option.some.inj hf
          exact hk _ _ _
        · rw [if_pos c7] at hf
          refine r_iload_n (pc := 60) X dX1_leastWinningMove_60 rfl ?_
          obtain rfl := Option.some.inj hf
          exact r_iret (pc := 61) X dX1_leastWinningMove_61 hk
    refine r_if_lt (pc := 21) X 40 dX1_leastWinningMove_21 (by decide) (fun c12 => ?_) (fun c12 => ?_)
    · rw [if_pos c12] at et3
      refine r_iconst (pc := 40) X 0 dX1_leastWinningMove_40 (by decide) ?_
      obtain rfl := Option.some.inj et3
      exact Jt3
    · rw [if_neg c12] at et3
      refine r_iload (pc := 24) X dX1_leastWinningMove_24 rfl ?_
      refine r_aload_n (pc := 26) X dX1_leastWinningMove_26 rfl ?_
      obtain ⟨x9, ex9, et3⟩ := ob et3
      refine r_alen (pc := 27) X dX1_leastWinningMove_27 ex9 ?_
      refine r_icmp_ge (pc := 28) X 40 dX1_leastWinningMove_28 (by decide) (fun c11 => ?_) (fun c11 => ?_)
      · rw [if_neg c11] at et3
        refine r_iconst (pc := 40) X 0 dX1_leastWinningMove_40 (by decide) ?_
        obtain rfl := Option.some.inj et3
        exact Jt3
      · rw [if_pos c11] at et3
        refine r_iload (pc := 31) X dX1_leastWinningMove_31 rfl ?_
        refine r_if_lt (pc := 33) X 40 dX1_leastWinningMove_33 (by decide) (fun c10 => ?_) (fun c10 => ?_)
        · rw [if_pos c10] at et3
          refine r_iconst (pc := 40) X 0 dX1_leastWinningMove_40 (by decide) ?_
          obtain rfl := Option.some.inj et3
          exact Jt3
        · rw [if_neg c10] at et3
          refine r_iconst (pc := 36) X 1 dX1_leastWinningMove_36 (by decide) ?_
          refine r_goto (pc := 37) X 41 dX1_leastWinningMove_37 (by decide) ?_
          obtain rfl := Option.some.inj et3
          exact Jt3
def fn_X1_leastWinningMove (h : aH) (p0 : Nat) (p1 : Int32) (p2 : Int32) : Option (Int32) :=
  (lp (lb_X1_leastWinningMove_2 h p0 p1 p2) lpN 0).bind fun o14 =>
  some o14
set_option maxRecDepth 20000 in
set_option maxHeartbeats 4000000 in
theorem ev_X1_leastWinningMove {l : Launch} {g : aG} {d : Nat} (hd : 0 ≤ d) (h : aH) (p0 : Nat) (p1 : Int32) (p2 : Int32) (o : Int32) (hf : fn_X1_leastWinningMove h p0 p1 p2 = some o) : EvM l g d yX1_leastWinningMove cX1_leastWinningMove 7 (some .int) [.ref p0, .int p1, .int p2] h (some (.int o), h) := by
  refine EvM.of mk_X1_leastWinningMove (Nat.le_of_ble_eq_true rfl) ?_
  intro Γ hl hg hq X
  have hd1 : 0 ≤ d := by omega
  have hk : RpI h Γ o := hq
  unfold fn_X1_leastWinningMove at hf
  show Jd Γ (0, 0) 0 [some (.ref p0), some (.int p1), some (.int p2), none, none, none, none] [] h
  refine r_iconst (pc := 0) X 0 dX1_leastWinningMove_0 (by decide) ?_
  refine r_istore_n (pc := 1) X [some (.ref p0), some (.int p1), some (.int p2), some (.int 0), none, none, none] dX1_leastWinningMove_1 (by decide) rfl ?_
  obtain ⟨o14, eo14, hf⟩ := ob hf
  refine (lw_X1_leastWinningMove_2 X hd _ _ _ _ lpN _ o14 eo14 ?_) _ _ _
  obtain rfl := Option.some.inj hf
  exact hk

theorem dX1_fillWon_0 : decode cX1_fillWon 0 = .ok (.iconst 0, 1) := by decide +kernel
theorem dX1_fillWon_1 : decode cX1_fillWon 1 = .ok (.istore_n 3, 1) := by decide +kernel
theorem dX1_fillWon_2 : decode cX1_fillWon 2 = .ok (.iload_n 3, 1) := by decide +kernel
theorem dX1_fillWon_3 : decode cX1_fillWon 3 = .ok (.iload_n 1, 1) := by decide +kernel
theorem dX1_fillWon_4 : decode cX1_fillWon 4 = .ok (.if_icmp .gt 59, 3) := by decide +kernel
theorem dX1_fillWon_7 : decode cX1_fillWon 7 = .ok (.iload_n 3, 1) := by decide +kernel
theorem dX1_fillWon_8 : decode cX1_fillWon 8 = .ok (.aload_n 0, 1) := by decide +kernel
theorem dX1_fillWon_9 : decode cX1_fillWon 9 = .ok (.arraylength, 1) := by decide +kernel
theorem dX1_fillWon_10 : decode cX1_fillWon 10 = .ok (.if_icmp .ge 53, 3) := by decide +kernel
theorem dX1_fillWon_13 : decode cX1_fillWon 13 = .ok (.aload_n 0, 1) := by decide +kernel
theorem dX1_fillWon_14 : decode cX1_fillWon 14 = .ok (.iload_n 3, 1) := by decide +kernel
theorem dX1_fillWon_15 : decode cX1_fillWon 15 = .ok (.iconst 0, 1) := by decide +kernel
theorem dX1_fillWon_16 : decode cX1_fillWon 16 = .ok (.iastore, 1) := by decide +kernel
theorem dX1_fillWon_17 : decode cX1_fillWon 17 = .ok (.iconst 0, 1) := by decide +kernel
theorem dX1_fillWon_18 : decode cX1_fillWon 18 = .ok (.istore 4, 2) := by decide +kernel
theorem dX1_fillWon_20 : decode cX1_fillWon 20 = .ok (.iload 4, 2) := by decide +kernel
theorem dX1_fillWon_22 : decode cX1_fillWon 22 = .ok (.iload_n 2, 1) := by decide +kernel
theorem dX1_fillWon_23 : decode cX1_fillWon 23 = .ok (.if_icmp .gt 34, 3) := by decide +kernel
theorem dX1_fillWon_26 : decode cX1_fillWon 26 = .ok (.aload_n 0, 1) := by decide +kernel
theorem dX1_fillWon_27 : decode cX1_fillWon 27 = .ok (.iload_n 3, 1) := by decide +kernel
theorem dX1_fillWon_28 : decode cX1_fillWon 28 = .ok (.dup2, 1) := by decide +kernel
theorem dX1_fillWon_29 : decode cX1_fillWon 29 = .ok (.iaload, 1) := by decide +kernel
theorem dX1_fillWon_30 : decode cX1_fillWon 30 = .ok (.aload_n 0, 1) := by decide +kernel
theorem dX1_fillWon_31 : decode cX1_fillWon 31 = .ok (.iload_n 3, 1) := by decide +kernel
theorem dX1_fillWon_32 : decode cX1_fillWon 32 = .ok (.iload 4, 2) := by decide +kernel
theorem dX1_fillWon_34 : decode cX1_fillWon 34 = .ok (.invokestatic 9, 3) := by decide +kernel
theorem dX1_fillWon_37 : decode cX1_fillWon 37 = .ok (.iconst (-1), 1) := by decide +kernel
theorem dX1_fillWon_38 : decode cX1_fillWon 38 = .ok (.if_icmp .eq 10, 3) := by decide +kernel
theorem dX1_fillWon_41 : decode cX1_fillWon 41 = .ok (.iconst 1, 1) := by decide +kernel
theorem dX1_fillWon_42 : decode cX1_fillWon 42 = .ok (.iload 4, 2) := by decide +kernel
theorem dX1_fillWon_44 : decode cX1_fillWon 44 = .ok (.ishl, 1) := by decide +kernel
theorem dX1_fillWon_45 : decode cX1_fillWon 45 = .ok (.goto 4, 3) := by decide +kernel
theorem dX1_fillWon_48 : decode cX1_fillWon 48 = .ok (.iconst 0, 1) := by decide +kernel
theorem dX1_fillWon_49 : decode cX1_fillWon 49 = .ok (.ior, 1) := by decide +kernel
theorem dX1_fillWon_50 : decode cX1_fillWon 50 = .ok (.iastore, 1) := by decide +kernel
theorem dX1_fillWon_51 : decode cX1_fillWon 51 = .ok (.iinc 4 1, 3) := by decide +kernel
theorem dX1_fillWon_54 : decode cX1_fillWon 54 = .ok (.goto (-34), 3) := by decide +kernel
theorem dX1_fillWon_57 : decode cX1_fillWon 57 = .ok (.iinc 3 1, 3) := by decide +kernel
theorem dX1_fillWon_60 : decode cX1_fillWon 60 = .ok (.goto (-58), 3) := by decide +kernel
theorem dX1_fillWon_63 : decode cX1_fillWon 63 = .ok (.return_, 1) := by decide +kernel
def lb_X1_fillWon_20 (v0 : Nat) (v1 : Int32) (v2 : Int32) (v3 : Int32) (s : Int32 × aH) : Option ((Int32 × aH) ⊕ ((aH))) :=
  if s.1 ≤ v2 then
    (aI s.2 v0 14 v3).bind fun x3 =>
    (fn_X1_leastWinningMove s.2 v0 v3 s.1).bind fun x4 =>
    ((
      if x4 = (-1) then
        some 0
      else
        some (1 <<< (s.1 &&& 31))
    ) : Option (Int32)).bind fun t5 =>
    (wI s.2 v0 v3 (x3 ||| t5)).bind fun h6 =>
    (some (s.1 + 1)).bind fun x7 =>
    some (.inl (x7, h6))
  else
    some (.inr s.2)
def hd_X1_fillWon_20 (Γ : aC) (v0 : Nat) (v1 : Int32) (v2 : Int32) (v3 : Int32) (s : Int32 × aH) : Prop := Jd Γ (0, 0) 20 [some (.ref v0), some (.int v1), some (.int v2), some (.int v3), some (.int s.1)] [] s.2
def ex_X1_fillWon_20 (Γ : aC) (v0 : Nat) (v1 : Int32) (v2 : Int32) (v3 : Int32) (r : (aH)) : Prop := (fun r => ∀ (j4 : Option Value), Jd Γ (0, 0) 57 [some (.ref v0), some (.int v1), some (.int v2), some (.int v3), j4] [] r) r
set_option maxRecDepth 20000 in
set_option maxHeartbeats 4000000 in
theorem lw_X1_fillWon_20 {Γ : aC} {d : Nat} (X : Cx Γ RX1 cX1_fillWon 5 none (d, 0, 0)) (hd : 1 ≤ d) (v0 : Nat) (v1 : Int32) (v2 : Int32) (v3 : Int32) : ∀ n s o, lp (lb_X1_fillWon_20 v0 v1 v2 v3) n s = some o → ex_X1_fillWon_20 Γ v0 v1 v2 v3 o → hd_X1_fillWon_20 Γ v0 v1 v2 v3 s := by
  have hd1 : 1 ≤ d := by omega
  refine J_lp _ _ _ ?_
  intro s o hf hk
  unfold lb_X1_fillWon_20 at hf
  refine r_iload (pc := 20) X dX1_fillWon_20 rfl ?_
  refine r_iload_n (pc := 22) X dX1_fillWon_22 rfl ?_
  refine r_icmp_gt (pc := 23) X 57 dX1_fillWon_23 (by decide) (fun c9 => ?_) (fun c9 => ?_)
  · rw [if_neg c9] at hf
    obtain rfl := Option.some.inj hf
    exact hk _
  · rw [if_pos c9] at hf
    refine r_aload_n (pc := 26) X dX1_fillWon_26 rfl ?_
    refine r_iload_n (pc := 27) X dX1_fillWon_27 rfl ?_
    refine r_dup2 (pc := 28) X dX1_fillWon_28 rfl rfl ?_
    obtain ⟨x3, ex3, hf⟩ := ob hf
    refine r_iald (pc := 29) X dX1_fillWon_29 ex3 ?_
    refine r_aload_n (pc := 30) X dX1_fillWon_30 rfl ?_
    refine r_iload_n (pc := 31) X dX1_fillWon_31 rfl ?_
    refine r_iload (pc := 32) X dX1_fillWon_32 rfl ?_
    obtain ⟨x4, ex4, hf⟩ := ob hf
    refine r_callSI (pc := 34) X [.ref v0, .int v3, .int s.1] dX1_fillWon_34 ml_X1_9 so_X1_leastWinningMove ⟨Nat.le_refl _, Nat.le_refl _⟩ (ev_X1_leastWinningMove (d := d - 1) (by omega) _ _ _ _ _ ex4) hd1 rfl (Nat.le_of_ble_eq_true rfl) rfl ?_
    refine r_iconst (pc := 37) X (-1) dX1_fillWon_37 (by decide) ?_
    obtain ⟨t5, et5, hf⟩ := ob hf
    have Jt5 : Jd Γ (0, 0) 49 [some (.ref v0), some (.int v1), some (.int v2), some (.int v3), some (.int s.1)] [.int t5, .int x3, .int v3, .ref v0] s.2 := by
      refine r_ior (pc := 49) X dX1_fillWon_49 ?_
      obtain ⟨h6, eh6, hf⟩ := ob hf
      refine r_iast (pc := 50) X dX1_fillWon_50 eh6 ?_
      obtain ⟨x7, ex7, hf⟩ := ob hf
      refine r_iinc2 (pc := 51) X 1 [some (.ref v0), some (.int v1), some (.int v2), some (.int v3), some (.int x7)] dX1_fillWon_51 (by decide) rfl (by decide) ex7 rfl ?_
      refine r_goto (pc := 54) X 20 dX1_fillWon_54 (by decide) ?_
      obtain rfl := Option.some.inj hf
      exact hk
    refine r_icmp_eq (pc := 38) X 48 dX1_fillWon_38 (by decide) (fun c8 => ?_) (fun c8 => ?_)
    · rw [if_pos c8] at et5
      refine r_iconst (pc := 48) X 0 dX1_fillWon_48 (by decide) ?_
      obtain rfl := Option.some.inj et5
      exact Jt5
    · rw [if_neg c8] at et5
      refine r_iconst (pc := 41) X 1 dX1_fillWon_41 (by decide) ?_
      refine r_iload (pc := 42) X dX1_fillWon_42 rfl ?_
      refine r_ishl (pc := 44) X dX1_fillWon_44 ?_
      refine r_goto (pc := 45) X 49 dX1_fillWon_45 (by decide) ?_
      obtain rfl := Option.some.inj et5
      exact Jt5
def lb_X1_fillWon_2 (v0 : Nat) (v1 : Int32) (v2 : Int32) (s : Int32 × aH) : Option ((Int32 × aH) ⊕ ((aH))) :=
  if s.1 ≤ v1 then
    (al s.2 v0).bind fun x1 =>
    if s.1 < x1 then
      (wI s.2 v0 s.1 0).bind fun h2 =>
      (lp (lb_X1_fillWon_20 v0 v1 v2 s.1) lpN (0, h2)).bind fun o10 =>
      (some (s.1 + 1)).bind fun x12 =>
      some (.inl (x12, o10))
    else
      some (.inr s.2)
  else
    some (.inr s.2)
def hd_X1_fillWon_2 (Γ : aC) (v0 : Nat) (v1 : Int32) (v2 : Int32) (s : Int32 × aH) : Prop := ∀ (j4 : Option Value), Jd Γ (0, 0) 2 [some (.ref v0), some (.int v1), some (.int v2), some (.int s.1), j4] [] s.2
def ex_X1_fillWon_2 (Γ : aC) (v0 : Nat) (v1 : Int32) (v2 : Int32) (r : (aH)) : Prop := (fun r => RqV Γ r) r
set_option maxRecDepth 20000 in
set_option maxHeartbeats 4000000 in
theorem lw_X1_fillWon_2 {Γ : aC} {d : Nat} (X : Cx Γ RX1 cX1_fillWon 5 none (d, 0, 0)) (hd : 1 ≤ d) (v0 : Nat) (v1 : Int32) (v2 : Int32) : ∀ n s o, lp (lb_X1_fillWon_2 v0 v1 v2) n s = some o → ex_X1_fillWon_2 Γ v0 v1 v2 o → hd_X1_fillWon_2 Γ v0 v1 v2 s := by
  have hd1 : 1 ≤ d := by omega
  refine J_lp _ _ _ ?_
  intro s o hf hk j4
  unfold lb_X1_fillWon_2 at hf
  refine r_iload_n (pc := 2) X dX1_fillWon_2 rfl ?_
  refine r_iload_n (pc := 3) X dX1_fillWon_3 rfl ?_
  refine r_icmp_gt (pc := 4) X 63 dX1_fillWon_4 (by decide) (fun c14 => ?_) (fun c14 => ?_)
  · rw [if_neg c14] at hf
    obtain rfl := Option.some.inj hf
    exact r_vret (pc := 63) X dX1_fillWon_63 hk
  · rw [if_pos c14] at hf
    refine r_iload_n (pc := 7) X dX1_fillWon_7 rfl ?_
    refine r_aload_n (pc := 8) X dX1_fillWon_8 rfl ?_
    obtain ⟨x1, ex1, hf⟩ := ob hf
    refine r_alen (pc := 9) X dX1_fillWon_9 ex1 ?_
    refine r_icmp_ge (pc := 10) X 63 dX1_fillWon_10 (by decide) (fun c13 => ?_) (fun c13 => ?_)
    · rw [if_neg c13] at hf
      obtain rfl := Option.some.inj hf
      exact r_vret (pc := 63) X dX1_fillWon_63 hk
    · rw [if_pos c13] at hf
      refine r_aload_n (pc := 13) X dX1_fillWon_13 rfl ?_
      refine r_iload_n (pc := 14) X dX1_fillWon_14 rfl ?_
      refine r_iconst (pc := 15) X 0 dX1_fillWon_15 (by decide) ?_
      obtain ⟨h2, eh2, hf⟩ := ob hf
      refine r_iast (pc := 16) X dX1_fillWon_16 eh2 ?_
      refine r_iconst (pc := 17) X 0 dX1_fillWon_17 (by decide) ?_
      refine r_istore (pc := 18) X [some (.ref v0), some (.int v1), some (.int v2), some (.int s.1), some (.int 0)] dX1_fillWon_18 (by decide) rfl ?_
      obtain ⟨o10, eo10, hf⟩ := ob hf
      refine (lw_X1_fillWon_20 X hd _ _ _ _ lpN _ o10 eo10 ?_)
      intro j11
      obtain ⟨x12, ex12, hf⟩ := ob hf
      refine r_iinc2 (pc := 57) X 1 [some (.ref v0), some (.int v1), some (.int v2), some (.int x12), j11] dX1_fillWon_57 (by decide) rfl (by decide) ex12 rfl ?_
      refine r_goto (pc := 60) X 2 dX1_fillWon_60 (by decide) ?_
      obtain rfl := Option.some.inj hf
      exact hk _
def fn_X1_fillWon (h : aH) (p0 : Nat) (p1 : Int32) (p2 : Int32) : Option (aH) :=
  (lp (lb_X1_fillWon_2 p0 p1 p2) lpN (0, h)).bind fun o15 =>
  some o15
set_option maxRecDepth 20000 in
set_option maxHeartbeats 4000000 in
theorem ev_X1_fillWon {l : Launch} {g : aG} {d : Nat} (hd : 1 ≤ d) (h : aH) (p0 : Nat) (p1 : Int32) (p2 : Int32) (o : aH) (hf : fn_X1_fillWon h p0 p1 p2 = some o) : EvM l g d yX1_fillWon cX1_fillWon 5 none [.ref p0, .int p1, .int p2] h (none, o) := by
  refine EvM.of mk_X1_fillWon (Nat.le_of_ble_eq_true rfl) ?_
  intro Γ hl hg hq X
  have hd1 : 1 ≤ d := by omega
  have hk : RqV Γ o := hq
  unfold fn_X1_fillWon at hf
  show Jd Γ (0, 0) 0 [some (.ref p0), some (.int p1), some (.int p2), none, none] [] h
  refine r_iconst (pc := 0) X 0 dX1_fillWon_0 (by decide) ?_
  refine r_istore_n (pc := 1) X [some (.ref p0), some (.int p1), some (.int p2), some (.int 0), none] dX1_fillWon_1 (by decide) rfl ?_
  obtain ⟨o15, eo15, hf⟩ := ob hf
  refine (lw_X1_fillWon_2 X hd _ _ _ lpN _ o15 eo15 ?_) _
  obtain rfl := Option.some.inj hf
  exact hk

theorem dX1_choices_0 : decode cX1_choices 0 = .ok (.iload_n 1, 1) := by decide +kernel
theorem dX1_choices_1 : decode cX1_choices 1 = .ok (.iload_n 0, 1) := by decide +kernel
theorem dX1_choices_2 : decode cX1_choices 2 = .ok (.if_icmp .le 5, 3) := by decide +kernel
theorem dX1_choices_5 : decode cX1_choices 5 = .ok (.lconst 0, 1) := by decide +kernel
theorem dX1_choices_6 : decode cX1_choices 6 = .ok (.lreturn, 1) := by decide +kernel
theorem dX1_choices_7 : decode cX1_choices 7 = .ok (.lconst 1, 1) := by decide +kernel
theorem dX1_choices_8 : decode cX1_choices 8 = .ok (.lstore_n 2, 1) := by decide +kernel
theorem dX1_choices_9 : decode cX1_choices 9 = .ok (.iconst 1, 1) := by decide +kernel
theorem dX1_choices_10 : decode cX1_choices 10 = .ok (.istore 4, 2) := by decide +kernel
theorem dX1_choices_12 : decode cX1_choices 12 = .ok (.iload 4, 2) := by decide +kernel
theorem dX1_choices_14 : decode cX1_choices 14 = .ok (.iload_n 1, 1) := by decide +kernel
theorem dX1_choices_15 : decode cX1_choices 15 = .ok (.if_icmp .gt 23, 3) := by decide +kernel
theorem dX1_choices_18 : decode cX1_choices 18 = .ok (.lload_n 2, 1) := by decide +kernel
theorem dX1_choices_19 : decode cX1_choices 19 = .ok (.iload_n 0, 1) := by decide +kernel
theorem dX1_choices_20 : decode cX1_choices 20 = .ok (.iload_n 1, 1) := by decide +kernel
theorem dX1_choices_21 : decode cX1_choices 21 = .ok (.isub, 1) := by decide +kernel
theorem dX1_choices_22 : decode cX1_choices 22 = .ok (.iload 4, 2) := by decide +kernel
theorem dX1_choices_24 : decode cX1_choices 24 = .ok (.iadd, 1) := by decide +kernel
theorem dX1_choices_25 : decode cX1_choices 25 = .ok (.i2l, 1) := by decide +kernel
theorem dX1_choices_26 : decode cX1_choices 26 = .ok (.lmul, 1) := by decide +kernel
theorem dX1_choices_27 : decode cX1_choices 27 = .ok (.iload 4, 2) := by decide +kernel
theorem dX1_choices_29 : decode cX1_choices 29 = .ok (.i2l, 1) := by decide +kernel
theorem dX1_choices_30 : decode cX1_choices 30 = .ok (.ldiv, 1) := by decide +kernel
theorem dX1_choices_31 : decode cX1_choices 31 = .ok (.lstore_n 2, 1) := by decide +kernel
theorem dX1_choices_32 : decode cX1_choices 32 = .ok (.iinc 4 1, 3) := by decide +kernel
theorem dX1_choices_35 : decode cX1_choices 35 = .ok (.goto (-23), 3) := by decide +kernel
theorem dX1_choices_38 : decode cX1_choices 38 = .ok (.lload_n 2, 1) := by decide +kernel
theorem dX1_choices_39 : decode cX1_choices 39 = .ok (.lreturn, 1) := by decide +kernel
def lb_X1_choices_12 (hh : aH) (v0 : Int32) (v1 : Int32) (s : Int64 × Int32) : Option ((Int64 × Int32) ⊕ ((Int64))) :=
  if s.2 ≤ v1 then
    (ldv (s.1 * (Int32.toInt64 ((v0 - v1) + s.2))) (Int32.toInt64 s.2)).bind fun y1 =>
    (some (s.2 + 1)).bind fun x2 =>
    some (.inl (y1, x2))
  else
    some (.inr s.1)
def hd_X1_choices_12 (Γ : aC) (hh : aH) (v0 : Int32) (v1 : Int32) (s : Int64 × Int32) : Prop := ∀ (j3 : Option Value), Jd Γ (0, 0) 12 [some (.int v0), some (.int v1), some (.long s.1), j3, some (.int s.2)] [] hh
def ex_X1_choices_12 (Γ : aC) (hh : aH) (v0 : Int32) (v1 : Int32) (r : (Int64)) : Prop := (fun r => RpJ hh Γ r) r
set_option maxRecDepth 20000 in
set_option maxHeartbeats 4000000 in
theorem lw_X1_choices_12 {Γ : aC} {d : Nat} (X : Cx Γ RX1 cX1_choices 5 (some .long) (d, 0, 0)) (hd : 0 ≤ d) (hh : aH) (v0 : Int32) (v1 : Int32) : ∀ n s o, lp (lb_X1_choices_12 hh v0 v1) n s = some o → ex_X1_choices_12 Γ hh v0 v1 o → hd_X1_choices_12 Γ hh v0 v1 s := by
  have hd1 : 0 ≤ d := by omega
  refine J_lp _ _ _ ?_
  intro s o hf hk j3
  unfold lb_X1_choices_12 at hf
  refine r_iload (pc := 12) X dX1_choices_12 rfl ?_
  refine r_iload_n (pc := 14) X dX1_choices_14 rfl ?_
  refine r_icmp_gt (pc := 15) X 38 dX1_choices_15 (by decide) (fun c3 => ?_) (fun c3 => ?_)
  · rw [if_neg c3] at hf
    refine r_lload_n (pc := 38) X dX1_choices_38 rfl ?_
    obtain rfl := Option.some.inj hf
    exact r_lret (pc := 39) X dX1_choices_39 hk
  · rw [if_pos c3] at hf
    refine r_lload_n (pc := 18) X dX1_choices_18 rfl ?_
    refine r_iload_n (pc := 19) X dX1_choices_19 rfl ?_
    refine r_iload_n (pc := 20) X dX1_choices_20 rfl ?_
    refine r_isub (pc := 21) X dX1_choices_21 ?_
    refine r_iload (pc := 22) X dX1_choices_22 rfl ?_
    refine r_iadd (pc := 24) X dX1_choices_24 ?_
    refine r_i2l (pc := 25) X dX1_choices_25 ?_
    refine r_lmul (pc := 26) X dX1_choices_26 ?_
    refine r_iload (pc := 27) X dX1_choices_27 rfl ?_
    refine r_i2l (pc := 29) X dX1_choices_29 ?_
    obtain ⟨y1, ey1, hf⟩ := ob hf
    refine r_ldiv (pc := 30) X dX1_choices_30 ey1 ?_
    refine r_lstore_n (pc := 31) X [some (.int v0), some (.int v1), some (.long y1), none, some (.int s.2)] dX1_choices_31 (by decide) rfl ?_
    obtain ⟨x2, ex2, hf⟩ := ob hf
    refine r_iinc2 (pc := 32) X 1 [some (.int v0), some (.int v1), some (.long y1), none, some (.int x2)] dX1_choices_32 (by decide) rfl (by decide) ex2 rfl ?_
    refine r_goto (pc := 35) X 12 dX1_choices_35 (by decide) ?_
    obtain rfl := Option.some.inj hf
    exact hk _
def fn_X1_choices (h : aH) (p0 : Int32) (p1 : Int32) : Option (Int64) :=
  if p1 ≤ p0 then
    (lp (lb_X1_choices_12 h p0 p1) lpN (1, 1)).bind fun o4 =>
    some o4
  else
    some 0
set_option maxRecDepth 20000 in
set_option maxHeartbeats 4000000 in
theorem ev_X1_choices {l : Launch} {g : aG} {d : Nat} (hd : 0 ≤ d) (h : aH) (p0 : Int32) (p1 : Int32) (o : Int64) (hf : fn_X1_choices h p0 p1 = some o) : EvM l g d yX1_choices cX1_choices 5 (some .long) [.int p0, .int p1] h (some (.long o), h) := by
  refine EvM.of mk_X1_choices (Nat.le_of_ble_eq_true rfl) ?_
  intro Γ hl hg hq X
  have hd1 : 0 ≤ d := by omega
  have hk : RpJ h Γ o := hq
  unfold fn_X1_choices at hf
  show Jd Γ (0, 0) 0 [some (.int p0), some (.int p1), none, none, none] [] h
  refine r_iload_n (pc := 0) X dX1_choices_0 rfl ?_
  refine r_iload_n (pc := 1) X dX1_choices_1 rfl ?_
  refine r_icmp_le (pc := 2) X 7 dX1_choices_2 (by decide) (fun c5 => ?_) (fun c5 => ?_)
  · rw [if_pos c5] at hf
    refine r_lconst (pc := 7) X 1 dX1_choices_7 (by decide) ?_
    refine r_lstore_n (pc := 8) X [some (.int p0), some (.int p1), some (.long 1), none, none] dX1_choices_8 (by decide) rfl ?_
    refine r_iconst (pc := 9) X 1 dX1_choices_9 (by decide) ?_
    refine r_istore (pc := 10) X [some (.int p0), some (.int p1), some (.long 1), none, some (.int 1)] dX1_choices_10 (by decide) rfl ?_
    obtain ⟨o4, eo4, hf⟩ := ob hf
    refine (lw_X1_choices_12 X hd _ _ _ lpN _ o4 eo4 ?_) _
    obtain rfl := Option.some.inj hf
    exact hk
  · rw [if_neg c5] at hf
    refine r_lconst (pc := 5) X 0 dX1_choices_5 (by decide) ?_
    obtain rfl := Option.some.inj hf
    exact r_lret (pc := 6) X dX1_choices_6 hk

theorem dX1_power_0 : decode cX1_power 0 = .ok (.lconst 1, 1) := by decide +kernel
theorem dX1_power_1 : decode cX1_power 1 = .ok (.lstore_n 3, 1) := by decide +kernel
theorem dX1_power_2 : decode cX1_power 2 = .ok (.iconst 0, 1) := by decide +kernel
theorem dX1_power_3 : decode cX1_power 3 = .ok (.istore 5, 2) := by decide +kernel
theorem dX1_power_5 : decode cX1_power 5 = .ok (.iload 5, 2) := by decide +kernel
theorem dX1_power_7 : decode cX1_power 7 = .ok (.iload_n 2, 1) := by decide +kernel
theorem dX1_power_8 : decode cX1_power 8 = .ok (.if_icmp .ge 13, 3) := by decide +kernel
theorem dX1_power_11 : decode cX1_power 11 = .ok (.lload_n 3, 1) := by decide +kernel
theorem dX1_power_12 : decode cX1_power 12 = .ok (.lload_n 0, 1) := by decide +kernel
theorem dX1_power_13 : decode cX1_power 13 = .ok (.lmul, 1) := by decide +kernel
theorem dX1_power_14 : decode cX1_power 14 = .ok (.lstore_n 3, 1) := by decide +kernel
theorem dX1_power_15 : decode cX1_power 15 = .ok (.iinc 5 1, 3) := by decide +kernel
theorem dX1_power_18 : decode cX1_power 18 = .ok (.goto (-13), 3) := by decide +kernel
theorem dX1_power_21 : decode cX1_power 21 = .ok (.lload_n 3, 1) := by decide +kernel
theorem dX1_power_22 : decode cX1_power 22 = .ok (.lreturn, 1) := by decide +kernel
def lb_X1_power_5 (hh : aH) (v0 : Int64) (v2 : Int32) (s : Int64 × Int32) : Option ((Int64 × Int32) ⊕ ((Int64))) :=
  if s.2 < v2 then
    (some (s.1 * v0)).bind fun y1 =>
    (some (s.2 + 1)).bind fun x2 =>
    some (.inl (y1, x2))
  else
    some (.inr s.1)
def hd_X1_power_5 (Γ : aC) (hh : aH) (v0 : Int64) (v2 : Int32) (s : Int64 × Int32) : Prop := ∀ (j1 : Option Value) (j4 : Option Value), Jd Γ (0, 0) 5 [some (.long v0), j1, some (.int v2), some (.long s.1), j4, some (.int s.2)] [] hh
def ex_X1_power_5 (Γ : aC) (hh : aH) (v0 : Int64) (v2 : Int32) (r : (Int64)) : Prop := (fun r => RpJ hh Γ r) r
set_option maxRecDepth 20000 in
set_option maxHeartbeats 4000000 in
theorem lw_X1_power_5 {Γ : aC} {d : Nat} (X : Cx Γ RX1 cX1_power 6 (some .long) (d, 0, 0)) (hd : 0 ≤ d) (hh : aH) (v0 : Int64) (v2 : Int32) : ∀ n s o, lp (lb_X1_power_5 hh v0 v2) n s = some o → ex_X1_power_5 Γ hh v0 v2 o → hd_X1_power_5 Γ hh v0 v2 s := by
  have hd1 : 0 ≤ d := by omega
  refine J_lp _ _ _ ?_
  intro s o hf hk j1 j4
  unfold lb_X1_power_5 at hf
  refine r_iload (pc := 5) X dX1_power_5 rfl ?_
  refine r_iload_n (pc := 7) X dX1_power_7 rfl ?_
  refine r_icmp_ge (pc := 8) X 21 dX1_power_8 (by decide) (fun c3 => ?_) (fun c3 => ?_)
  · rw [if_neg c3] at hf
    refine r_lload_n (pc := 21) X dX1_power_21 rfl ?_
    obtain rfl := Option.some.inj hf
    exact r_lret (pc := 22) X dX1_power_22 hk
  · rw [if_pos c3] at hf
    refine r_lload_n (pc := 11) X dX1_power_11 rfl ?_
    refine r_lload_n (pc := 12) X dX1_power_12 rfl ?_
    refine r_lmul (pc := 13) X dX1_power_13 ?_
    obtain ⟨y1, ey1, hf⟩ := ob hf
    refine r_nmJ ey1 ?_
    refine r_lstore_n (pc := 14) X [some (.long v0), j1, some (.int v2), some (.long y1), none, some (.int s.2)] dX1_power_14 (by decide) rfl ?_
    obtain ⟨x2, ex2, hf⟩ := ob hf
    refine r_iinc2 (pc := 15) X 1 [some (.long v0), j1, some (.int v2), some (.long y1), none, some (.int x2)] dX1_power_15 (by decide) rfl (by decide) ex2 rfl ?_
    refine r_goto (pc := 18) X 5 dX1_power_18 (by decide) ?_
    obtain rfl := Option.some.inj hf
    exact hk _ _
def fn_X1_power (h : aH) (p0 : Int64) (p1 : Int32) : Option (Int64) :=
  (lp (lb_X1_power_5 h p0 p1) lpN (1, 0)).bind fun o4 =>
  some o4
set_option maxRecDepth 20000 in
set_option maxHeartbeats 4000000 in
theorem ev_X1_power {l : Launch} {g : aG} {d : Nat} (hd : 0 ≤ d) (h : aH) (p0 : Int64) (p1 : Int32) (o : Int64) (hf : fn_X1_power h p0 p1 = some o) : EvM l g d yX1_power cX1_power 6 (some .long) [.long p0, .int p1] h (some (.long o), h) := by
  refine EvM.of mk_X1_power (Nat.le_of_ble_eq_true rfl) ?_
  intro Γ hl hg hq X
  have hd1 : 0 ≤ d := by omega
  have hk : RpJ h Γ o := hq
  unfold fn_X1_power at hf
  show Jd Γ (0, 0) 0 [some (.long p0), none, some (.int p1), none, none, none] [] h
  refine r_lconst (pc := 0) X 1 dX1_power_0 (by decide) ?_
  refine r_lstore_n (pc := 1) X [some (.long p0), none, some (.int p1), some (.long 1), none, none] dX1_power_1 (by decide) rfl ?_
  refine r_iconst (pc := 2) X 0 dX1_power_2 (by decide) ?_
  refine r_istore (pc := 3) X [some (.long p0), none, some (.int p1), some (.long 1), none, some (.int 0)] dX1_power_3 (by decide) rfl ?_
  obtain ⟨o4, eo4, hf⟩ := ob hf
  refine (lw_X1_power_5 X hd _ _ _ lpN _ o4 eo4 ?_) _ _
  obtain rfl := Option.some.inj hf
  exact hk

theorem dX1_greatestShared_0 : decode cX1_greatestShared 0 = .ok (.lload_n 2, 1) := by decide +kernel
theorem dX1_greatestShared_1 : decode cX1_greatestShared 1 = .ok (.lstore 4, 2) := by decide +kernel
theorem dX1_greatestShared_3 : decode cX1_greatestShared 3 = .ok (.lload_n 0, 1) := by decide +kernel
theorem dX1_greatestShared_4 : decode cX1_greatestShared 4 = .ok (.lstore 6, 2) := by decide +kernel
theorem dX1_greatestShared_6 : decode cX1_greatestShared 6 = .ok (.iconst 0, 1) := by decide +kernel
theorem dX1_greatestShared_7 : decode cX1_greatestShared 7 = .ok (.istore 8, 2) := by decide +kernel
theorem dX1_greatestShared_9 : decode cX1_greatestShared 9 = .ok (.iload 8, 2) := by decide +kernel
theorem dX1_greatestShared_11 : decode cX1_greatestShared 11 = .ok (.sipush 1000, 3) := by decide +kernel
theorem dX1_greatestShared_14 : decode cX1_greatestShared 14 = .ok (.if_icmp .ge 31, 3) := by decide +kernel
theorem dX1_greatestShared_17 : decode cX1_greatestShared 17 = .ok (.lload 6, 2) := by decide +kernel
theorem dX1_greatestShared_19 : decode cX1_greatestShared 19 = .ok (.lconst 0, 1) := by decide +kernel
theorem dX1_greatestShared_20 : decode cX1_greatestShared 20 = .ok (.lcmp, 1) := by decide +kernel
theorem dX1_greatestShared_21 : decode cX1_greatestShared 21 = .ok (.ifCond .le 24, 3) := by decide +kernel
theorem dX1_greatestShared_24 : decode cX1_greatestShared 24 = .ok (.lload 4, 2) := by decide +kernel
theorem dX1_greatestShared_26 : decode cX1_greatestShared 26 = .ok (.lload 6, 2) := by decide +kernel
theorem dX1_greatestShared_28 : decode cX1_greatestShared 28 = .ok (.lrem, 1) := by decide +kernel
theorem dX1_greatestShared_29 : decode cX1_greatestShared 29 = .ok (.lstore 9, 2) := by decide +kernel
theorem dX1_greatestShared_31 : decode cX1_greatestShared 31 = .ok (.lload 6, 2) := by decide +kernel
theorem dX1_greatestShared_33 : decode cX1_greatestShared 33 = .ok (.lstore 4, 2) := by decide +kernel
theorem dX1_greatestShared_35 : decode cX1_greatestShared 35 = .ok (.lload 9, 2) := by decide +kernel
theorem dX1_greatestShared_37 : decode cX1_greatestShared 37 = .ok (.lstore 6, 2) := by decide +kernel
theorem dX1_greatestShared_39 : decode cX1_greatestShared 39 = .ok (.iinc 8 1, 3) := by decide +kernel
theorem dX1_greatestShared_42 : decode cX1_greatestShared 42 = .ok (.goto (-33), 3) := by decide +kernel
theorem dX1_greatestShared_45 : decode cX1_greatestShared 45 = .ok (.lload 4, 2) := by decide +kernel
theorem dX1_greatestShared_47 : decode cX1_greatestShared 47 = .ok (.lreturn, 1) := by decide +kernel
def lb_X1_greatestShared_9 (hh : aH) (s : Int64 × Int64 × Int32) : Option ((Int64 × Int64 × Int32) ⊕ ((Int64))) :=
  if s.2.2 < 1000 then
    if (lg_cmp s.2.1 0) ≤ 0 then
      some (.inr s.1)
    else
      (lrm s.1 s.2.1).bind fun y1 =>
      (some (s.2.2 + 1)).bind fun x2 =>
      some (.inl (s.2.1, y1, x2))
  else
    some (.inr s.1)
def hd_X1_greatestShared_9 (Γ : aC) (hh : aH) (s : Int64 × Int64 × Int32) : Prop := ∀ (j0 : Option Value) (j1 : Option Value) (j2 : Option Value) (j3 : Option Value) (j5 : Option Value) (j7 : Option Value) (j9 : Option Value) (j10 : Option Value), Jd Γ (0, 0) 9 [j0, j1, j2, j3, some (.long s.1), j5, some (.long s.2.1), j7, some (.int s.2.2), j9, j10] [] hh
def ex_X1_greatestShared_9 (Γ : aC) (hh : aH) (r : (Int64)) : Prop := (fun r => RpJ hh Γ r) r
set_option maxRecDepth 20000 in
set_option maxHeartbeats 4000000 in
theorem lw_X1_greatestShared_9 {Γ : aC} {d : Nat} (X : Cx Γ RX1 cX1_greatestShared 11 (some .long) (d, 0, 0)) (hd : 0 ≤ d) (hh : aH) : ∀ n s o, lp (lb_X1_greatestShared_9 hh) n s = some o → ex_X1_greatestShared_9 Γ hh o → hd_X1_greatestShared_9 Γ hh s := by
  have hd1 : 0 ≤ d := by omega
  refine J_lp _ _ _ ?_
  intro s o hf hk j0 j1 j2 j3 j5 j7 j9 j10
  unfold lb_X1_greatestShared_9 at hf
  refine r_iload (pc := 9) X dX1_greatestShared_9 rfl ?_
  refine r_sipush (pc := 11) X 1000 dX1_greatestShared_11 (by decide) ?_
  refine r_icmp_ge (pc := 14) X 45 dX1_greatestShared_14 (by decide) (fun c4 => ?_) (fun c4 => ?_)
  · rw [if_neg c4] at hf
    refine r_lload (pc := 45) X dX1_greatestShared_45 rfl ?_
    obtain rfl := Option.some.inj hf
    exact r_lret (pc := 47) X dX1_greatestShared_47 hk
  · rw [if_pos c4] at hf
    refine r_lload (pc := 17) X dX1_greatestShared_17 rfl ?_
    refine r_lconst (pc := 19) X 0 dX1_greatestShared_19 (by decide) ?_
    refine r_lcmp (pc := 20) X dX1_greatestShared_20 ?_
    refine r_if_le (pc := 21) X 45 dX1_greatestShared_21 (by decide) (fun c3 => ?_) (fun c3 => ?_)
    · rw [if_pos c3] at hf
      refine r_lload (pc := 45) X dX1_greatestShared_45 rfl ?_
      obtain rfl := Option.some.inj hf
      exact r_lret (pc := 47) X dX1_greatestShared_47 hk
    · rw [if_neg c3] at hf
      refine r_lload (pc := 24) X dX1_greatestShared_24 rfl ?_
      refine r_lload (pc := 26) X dX1_greatestShared_26 rfl ?_
      obtain ⟨y1, ey1, hf⟩ := ob hf
      refine r_lrem (pc := 28) X dX1_greatestShared_28 ey1 ?_
      refine r_lstore (pc := 29) X [j0, j1, j2, j3, some (.long s.1), j5, some (.long s.2.1), j7, some (.int s.2.2), some (.long y1), none] dX1_greatestShared_29 (by decide) rfl ?_
      refine r_lload (pc := 31) X dX1_greatestShared_31 rfl ?_
      refine r_fg 3 [j0, j1, j2, none, some (.long s.1), j5, some (.long s.2.1), j7, some (.int s.2.2), some (.long y1), none] rfl ?_
      refine r_lstore (pc := 33) X [j0, j1, j2, none, some (.long s.2.1), none, some (.long s.2.1), j7, some (.int s.2.2), some (.long y1), none] dX1_greatestShared_33 (by decide) rfl ?_
      refine r_lload (pc := 35) X dX1_greatestShared_35 rfl ?_
      refine r_lstore (pc := 37) X [j0, j1, j2, none, some (.long s.2.1), none, some (.long y1), none, some (.int s.2.2), some (.long y1), none] dX1_greatestShared_37 (by decide) rfl ?_
      obtain ⟨x2, ex2, hf⟩ := ob hf
      refine r_iinc2 (pc := 39) X 1 [j0, j1, j2, none, some (.long s.2.1), none, some (.long y1), none, some (.int x2), some (.long y1), none] dX1_greatestShared_39 (by decide) rfl (by decide) ex2 rfl ?_
      refine r_goto (pc := 42) X 9 dX1_greatestShared_42 (by decide) ?_
      obtain rfl := Option.some.inj hf
      exact hk _ _ _ _ _ _ _ _
def fn_X1_greatestShared (h : aH) (p0 : Int64) (p1 : Int64) : Option (Int64) :=
  (lp (lb_X1_greatestShared_9 h) lpN (p1, p0, 0)).bind fun o5 =>
  some o5
set_option maxRecDepth 20000 in
set_option maxHeartbeats 4000000 in
theorem ev_X1_greatestShared {l : Launch} {g : aG} {d : Nat} (hd : 0 ≤ d) (h : aH) (p0 : Int64) (p1 : Int64) (o : Int64) (hf : fn_X1_greatestShared h p0 p1 = some o) : EvM l g d yX1_greatestShared cX1_greatestShared 11 (some .long) [.long p0, .long p1] h (some (.long o), h) := by
  refine EvM.of mk_X1_greatestShared (Nat.le_of_ble_eq_true rfl) ?_
  intro Γ hl hg hq X
  have hd1 : 0 ≤ d := by omega
  have hk : RpJ h Γ o := hq
  unfold fn_X1_greatestShared at hf
  show Jd Γ (0, 0) 0 [some (.long p0), none, some (.long p1), none, none, none, none, none, none, none, none] [] h
  refine r_lload_n (pc := 0) X dX1_greatestShared_0 rfl ?_
  refine r_lstore (pc := 1) X [some (.long p0), none, some (.long p1), none, some (.long p1), none, none, none, none, none, none] dX1_greatestShared_1 (by decide) rfl ?_
  refine r_lload_n (pc := 3) X dX1_greatestShared_3 rfl ?_
  refine r_lstore (pc := 4) X [some (.long p0), none, some (.long p1), none, some (.long p1), none, some (.long p0), none, none, none, none] dX1_greatestShared_4 (by decide) rfl ?_
  refine r_iconst (pc := 6) X 0 dX1_greatestShared_6 (by decide) ?_
  refine r_istore (pc := 7) X [some (.long p0), none, some (.long p1), none, some (.long p1), none, some (.long p0), none, some (.int 0), none, none] dX1_greatestShared_7 (by decide) rfl ?_
  obtain ⟨o5, eo5, hf⟩ := ob hf
  refine (lw_X1_greatestShared_9 X hd _ lpN _ o5 eo5 ?_) _ _ _ _ _ _ _ _
  obtain rfl := Option.some.inj hf
  exact hk

theorem dX1_gain_0 : decode cX1_gain 0 = .ok (.iload_n 1, 1) := by decide +kernel
theorem dX1_gain_1 : decode cX1_gain 1 = .ok (.iload_n 2, 1) := by decide +kernel
theorem dX1_gain_2 : decode cX1_gain 2 = .ok (.if_icmp .ne 9, 3) := by decide +kernel
theorem dX1_gain_5 : decode cX1_gain 5 = .ok (.iload_n 0, 1) := by decide +kernel
theorem dX1_gain_6 : decode cX1_gain 6 = .ok (.iconst 2, 1) := by decide +kernel
theorem dX1_gain_7 : decode cX1_gain 7 = .ok (.idiv, 1) := by decide +kernel
theorem dX1_gain_8 : decode cX1_gain 8 = .ok (.goto 15, 3) := by decide +kernel
theorem dX1_gain_11 : decode cX1_gain 11 = .ok (.iload_n 1, 1) := by decide +kernel
theorem dX1_gain_12 : decode cX1_gain 12 = .ok (.iload_n 2, 1) := by decide +kernel
theorem dX1_gain_13 : decode cX1_gain 13 = .ok (.if_icmp .le 9, 3) := by decide +kernel
theorem dX1_gain_16 : decode cX1_gain 16 = .ok (.iload_n 0, 1) := by decide +kernel
theorem dX1_gain_17 : decode cX1_gain 17 = .ok (.iconst 4, 1) := by decide +kernel
theorem dX1_gain_18 : decode cX1_gain 18 = .ok (.idiv, 1) := by decide +kernel
theorem dX1_gain_19 : decode cX1_gain 19 = .ok (.goto 4, 3) := by decide +kernel
theorem dX1_gain_22 : decode cX1_gain 22 = .ok (.iconst 0, 1) := by decide +kernel
theorem dX1_gain_23 : decode cX1_gain 23 = .ok (.istore_n 3, 1) := by decide +kernel
theorem dX1_gain_24 : decode cX1_gain 24 = .ok (.iload_n 3, 1) := by decide +kernel
theorem dX1_gain_25 : decode cX1_gain 25 = .ok (.iload_n 1, 1) := by decide +kernel
theorem dX1_gain_26 : decode cX1_gain 26 = .ok (.iconst 1, 1) := by decide +kernel
theorem dX1_gain_27 : decode cX1_gain 27 = .ok (.iadd, 1) := by decide +kernel
theorem dX1_gain_28 : decode cX1_gain 28 = .ok (.iconst 2, 1) := by decide +kernel
theorem dX1_gain_29 : decode cX1_gain 29 = .ok (.idiv, 1) := by decide +kernel
theorem dX1_gain_30 : decode cX1_gain 30 = .ok (.isub, 1) := by decide +kernel
theorem dX1_gain_31 : decode cX1_gain 31 = .ok (.ireturn, 1) := by decide +kernel
def fn_X1_gain (h : aH) (p0 : Int32) (p1 : Int32) (p2 : Int32) : Option (Int32) :=
  ((
    if p1 = p2 then
      (idv p0 2).bind fun x5 =>
      some x5
    else
      if p1 ≤ p2 then
        some 0
      else
        (idv p0 4).bind fun x3 =>
        some x3
  ) : Option (Int32)).bind fun t1 =>
  (idv (p1 + 1) 2).bind fun x2 =>
  some (t1 - x2)
set_option maxRecDepth 20000 in
set_option maxHeartbeats 4000000 in
theorem ev_X1_gain {l : Launch} {g : aG} {d : Nat} (hd : 0 ≤ d) (h : aH) (p0 : Int32) (p1 : Int32) (p2 : Int32) (o : Int32) (hf : fn_X1_gain h p0 p1 p2 = some o) : EvM l g d yX1_gain cX1_gain 4 (some .int) [.int p0, .int p1, .int p2] h (some (.int o), h) := by
  refine EvM.of mk_X1_gain (Nat.le_of_ble_eq_true rfl) ?_
  intro Γ hl hg hq X
  have hd1 : 0 ≤ d := by omega
  have hk : RpI h Γ o := hq
  unfold fn_X1_gain at hf
  show Jd Γ (0, 0) 0 [some (.int p0), some (.int p1), some (.int p2), none] [] h
  refine r_iload_n (pc := 0) X dX1_gain_0 rfl ?_
  refine r_iload_n (pc := 1) X dX1_gain_1 rfl ?_
  obtain ⟨t1, et1, hf⟩ := ob hf
  have Jt1 : Jd Γ (0, 0) 23 [some (.int p0), some (.int p1), some (.int p2), none] [.int t1] h := by
    refine r_istore_n (pc := 23) X [some (.int p0), some (.int p1), some (.int p2), some (.int t1)] dX1_gain_23 (by decide) rfl ?_
    refine r_iload_n (pc := 24) X dX1_gain_24 rfl ?_
    refine r_iload_n (pc := 25) X dX1_gain_25 rfl ?_
    refine r_iconst (pc := 26) X 1 dX1_gain_26 (by decide) ?_
    refine r_iadd (pc := 27) X dX1_gain_27 ?_
    refine r_iconst (pc := 28) X 2 dX1_gain_28 (by decide) ?_
    obtain ⟨x2, ex2, hf⟩ := ob hf
    refine r_idiv (pc := 29) X dX1_gain_29 ex2 ?_
    refine r_isub (pc := 30) X dX1_gain_30 ?_
    obtain rfl := Option.some.inj hf
    exact r_iret (pc := 31) X dX1_gain_31 hk
  refine r_icmp_ne (pc := 2) X 11 dX1_gain_2 (by decide) (fun c6 => ?_) (fun c6 => ?_)
  · rw [if_neg c6] at et1
    refine r_iload_n (pc := 11) X dX1_gain_11 rfl ?_
    refine r_iload_n (pc := 12) X dX1_gain_12 rfl ?_
    refine r_icmp_le (pc := 13) X 22 dX1_gain_13 (by decide) (fun c4 => ?_) (fun c4 => ?_)
    · rw [if_pos c4] at et1
      refine r_iconst (pc := 22) X 0 dX1_gain_22 (by decide) ?_
      obtain rfl := Option.some.inj et1
      exact Jt1
    · rw [if_neg c4] at et1
      refine r_iload_n (pc := 16) X dX1_gain_16 rfl ?_
      refine r_iconst (pc := 17) X 4 dX1_gain_17 (by decide) ?_
      obtain ⟨x3, ex3, et1⟩ := ob et1
      refine r_idiv (pc := 18) X dX1_gain_18 ex3 ?_
      refine r_goto (pc := 19) X 23 dX1_gain_19 (by decide) ?_
      obtain rfl := Option.some.inj et1
      exact Jt1
  · rw [if_pos c6] at et1
    refine r_iload_n (pc := 5) X dX1_gain_5 rfl ?_
    refine r_iconst (pc := 6) X 2 dX1_gain_6 (by decide) ?_
    obtain ⟨x5, ex5, et1⟩ := ob et1
    refine r_idiv (pc := 7) X dX1_gain_7 ex5 ?_
    refine r_goto (pc := 8) X 23 dX1_gain_8 (by decide) ?_
    obtain rfl := Option.some.inj et1
    exact Jt1

theorem dX1_isBestAgainst_0 : decode cX1_isBestAgainst 0 = .ok (.iload_n 0, 1) := by decide +kernel
theorem dX1_isBestAgainst_1 : decode cX1_isBestAgainst 1 = .ok (.iload_n 1, 1) := by decide +kernel
theorem dX1_isBestAgainst_2 : decode cX1_isBestAgainst 2 = .ok (.iload_n 2, 1) := by decide +kernel
theorem dX1_isBestAgainst_3 : decode cX1_isBestAgainst 3 = .ok (.invokestatic 15, 3) := by decide +kernel
theorem dX1_isBestAgainst_6 : decode cX1_isBestAgainst 6 = .ok (.istore_n 3, 1) := by decide +kernel
theorem dX1_isBestAgainst_7 : decode cX1_isBestAgainst 7 = .ok (.iconst 0, 1) := by decide +kernel
theorem dX1_isBestAgainst_8 : decode cX1_isBestAgainst 8 = .ok (.istore 4, 2) := by decide +kernel
theorem dX1_isBestAgainst_10 : decode cX1_isBestAgainst 10 = .ok (.iload 4, 2) := by decide +kernel
theorem dX1_isBestAgainst_12 : decode cX1_isBestAgainst 12 = .ok (.bipush 9, 2) := by decide +kernel
theorem dX1_isBestAgainst_14 : decode cX1_isBestAgainst 14 = .ok (.if_icmp .gt 22, 3) := by decide +kernel
theorem dX1_isBestAgainst_17 : decode cX1_isBestAgainst 17 = .ok (.iload_n 0, 1) := by decide +kernel
theorem dX1_isBestAgainst_18 : decode cX1_isBestAgainst 18 = .ok (.iload 4, 2) := by decide +kernel
theorem dX1_isBestAgainst_20 : decode cX1_isBestAgainst 20 = .ok (.iload_n 2, 1) := by decide +kernel
theorem dX1_isBestAgainst_21 : decode cX1_isBestAgainst 21 = .ok (.invokestatic 15, 3) := by decide +kernel
theorem dX1_isBestAgainst_24 : decode cX1_isBestAgainst 24 = .ok (.iload_n 3, 1) := by decide +kernel
theorem dX1_isBestAgainst_25 : decode cX1_isBestAgainst 25 = .ok (.if_icmp .le 5, 3) := by decide +kernel
theorem dX1_isBestAgainst_28 : decode cX1_isBestAgainst 28 = .ok (.iconst 0, 1) := by decide +kernel
theorem dX1_isBestAgainst_29 : decode cX1_isBestAgainst 29 = .ok (.ireturn, 1) := by decide +kernel
theorem dX1_isBestAgainst_30 : decode cX1_isBestAgainst 30 = .ok (.iinc 4 1, 3) := by decide +kernel
theorem dX1_isBestAgainst_33 : decode cX1_isBestAgainst 33 = .ok (.goto (-23), 3) := by decide +kernel
theorem dX1_isBestAgainst_36 : decode cX1_isBestAgainst 36 = .ok (.iconst 1, 1) := by decide +kernel
theorem dX1_isBestAgainst_37 : decode cX1_isBestAgainst 37 = .ok (.ireturn, 1) := by decide +kernel
def lb_X1_isBestAgainst_10 (hh : aH) (v0 : Int32) (v2 : Int32) (v3 : Int32) (s : Int32) : Option ((Int32) ⊕ ((Int32))) :=
  if s ≤ 9 then
    (fn_X1_gain hh v0 s v2).bind fun x2 =>
    if x2 ≤ v3 then
      (some (s + 1)).bind fun x3 =>
      some (.inl x3)
    else
      some (.inr 0)
  else
    some (.inr 1)
def hd_X1_isBestAgainst_10 (Γ : aC) (hh : aH) (v0 : Int32) (v2 : Int32) (v3 : Int32) (s : Int32) : Prop := ∀ (j1 : Option Value), Jd Γ (0, 0) 10 [some (.int v0), j1, some (.int v2), some (.int v3), some (.int s)] [] hh
def ex_X1_isBestAgainst_10 (Γ : aC) (hh : aH) (v0 : Int32) (v2 : Int32) (v3 : Int32) (r : (Int32)) : Prop := (fun r => RpI hh Γ r) r
set_option maxRecDepth 20000 in
set_option maxHeartbeats 4000000 in
theorem lw_X1_isBestAgainst_10 {Γ : aC} {d : Nat} (X : Cx Γ RX1 cX1_isBestAgainst 5 (some .boolean) (d, 0, 0)) (hd : 1 ≤ d) (hh : aH) (v0 : Int32) (v2 : Int32) (v3 : Int32) : ∀ n s o, lp (lb_X1_isBestAgainst_10 hh v0 v2 v3) n s = some o → ex_X1_isBestAgainst_10 Γ hh v0 v2 v3 o → hd_X1_isBestAgainst_10 Γ hh v0 v2 v3 s := by
  have hd1 : 1 ≤ d := by omega
  refine J_lp _ _ _ ?_
  intro s o hf hk j1
  unfold lb_X1_isBestAgainst_10 at hf
  refine r_iload (pc := 10) X dX1_isBestAgainst_10 rfl ?_
  refine r_bipush (pc := 12) X 9 dX1_isBestAgainst_12 (by decide) ?_
  refine r_icmp_gt (pc := 14) X 36 dX1_isBestAgainst_14 (by decide) (fun c5 => ?_) (fun c5 => ?_)
  · rw [if_neg c5] at hf
    refine r_iconst (pc := 36) X 1 dX1_isBestAgainst_36 (by decide) ?_
    obtain rfl := Option.some.inj hf
    exact r_zret (pc := 37) X dX1_isBestAgainst_37 (Or.inr rfl) hk
  · rw [if_pos c5] at hf
    refine r_iload_n (pc := 17) X dX1_isBestAgainst_17 rfl ?_
    refine r_iload (pc := 18) X dX1_isBestAgainst_18 rfl ?_
    refine r_iload_n (pc := 20) X dX1_isBestAgainst_20 rfl ?_
    obtain ⟨x2, ex2, hf⟩ := ob hf
    refine r_callSI (pc := 21) X [.int v0, .int s, .int v2] dX1_isBestAgainst_21 ml_X1_15 so_X1_gain ⟨Nat.le_refl _, Nat.le_refl _⟩ (ev_X1_gain (d := d - 1) (by omega) _ _ _ _ _ ex2) hd1 rfl (Nat.le_of_ble_eq_true rfl) rfl ?_
    refine r_iload_n (pc := 24) X dX1_isBestAgainst_24 rfl ?_
    refine r_icmp_le (pc := 25) X 30 dX1_isBestAgainst_25 (by decide) (fun c4 => ?_) (fun c4 => ?_)
    · rw [if_pos c4] at hf
      obtain ⟨x3, ex3, hf⟩ := ob hf
      refine r_iinc2 (pc := 30) X 1 [some (.int v0), j1, some (.int v2), some (.int v3), some (.int x3)] dX1_isBestAgainst_30 (by decide) rfl (by decide) ex3 rfl ?_
      refine r_goto (pc := 33) X 10 dX1_isBestAgainst_33 (by decide) ?_
      obtain rfl := Option.some.inj hf
      exact hk _
    · rw [if_neg c4] at hf
      refine r_iconst (pc := 28) X 0 dX1_isBestAgainst_28 (by decide) ?_
      obtain rfl := Option.some.inj hf
      exact r_zret (pc := 29) X dX1_isBestAgainst_29 (Or.inl rfl) hk
def fn_X1_isBestAgainst (h : aH) (p0 : Int32) (p1 : Int32) (p2 : Int32) : Option (Int32) :=
  (fn_X1_gain h p0 p1 p2).bind fun x1 =>
  (lp (lb_X1_isBestAgainst_10 h p0 p2 x1) lpN 0).bind fun o6 =>
  some o6
set_option maxRecDepth 20000 in
set_option maxHeartbeats 4000000 in
theorem ev_X1_isBestAgainst {l : Launch} {g : aG} {d : Nat} (hd : 1 ≤ d) (h : aH) (p0 : Int32) (p1 : Int32) (p2 : Int32) (o : Int32) (hf : fn_X1_isBestAgainst h p0 p1 p2 = some o) : EvM l g d yX1_isBestAgainst cX1_isBestAgainst 5 (some .boolean) [.int p0, .int p1, .int p2] h (some (.int o), h) := by
  refine EvM.of mk_X1_isBestAgainst (Nat.le_of_ble_eq_true rfl) ?_
  intro Γ hl hg hq X
  have hd1 : 1 ≤ d := by omega
  have hk : RpI h Γ o := hq
  unfold fn_X1_isBestAgainst at hf
  show Jd Γ (0, 0) 0 [some (.int p0), some (.int p1), some (.int p2), none, none] [] h
  refine r_iload_n (pc := 0) X dX1_isBestAgainst_0 rfl ?_
  refine r_iload_n (pc := 1) X dX1_isBestAgainst_1 rfl ?_
  refine r_iload_n (pc := 2) X dX1_isBestAgainst_2 rfl ?_
  obtain ⟨x1, ex1, hf⟩ := ob hf
  refine r_callSI (pc := 3) X [.int p0, .int p1, .int p2] dX1_isBestAgainst_3 ml_X1_15 so_X1_gain ⟨Nat.le_refl _, Nat.le_refl _⟩ (ev_X1_gain (d := d - 1) (by omega) _ _ _ _ _ ex1) hd1 rfl (Nat.le_of_ble_eq_true rfl) rfl ?_
  refine r_istore_n (pc := 6) X [some (.int p0), some (.int p1), some (.int p2), some (.int x1), none] dX1_isBestAgainst_6 (by decide) rfl ?_
  refine r_iconst (pc := 7) X 0 dX1_isBestAgainst_7 (by decide) ?_
  refine r_istore (pc := 8) X [some (.int p0), some (.int p1), some (.int p2), some (.int x1), some (.int 0)] dX1_isBestAgainst_8 (by decide) rfl ?_
  obtain ⟨o6, eo6, hf⟩ := ob hf
  refine (lw_X1_isBestAgainst_10 X hd _ _ _ _ lpN _ o6 eo6 ?_) _
  obtain rfl := Option.some.inj hf
  exact hk
