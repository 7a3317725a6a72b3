/-! the law's loop -/
def R_law : String := "LockLettersLaw"
def lw_P (b : Addr) (xs : List Int32) (args : Array Value) (s : State) : Prop := args = #[.ref b] ∧ s.IntsAt b xs ∧ xs.length ≤ 320 ∧ (Jvm.Cond.and given_1 narrow_1).before args s = true
def lw_Q (_ : Array Value) (s : State) (o : Outcome) (t : State) : Prop := o = .returned (some (.int 1)) ∧ Framed s o t [] 600128 7301098
def lw_Z (below : List Frame) (a : Array Value) (s : State) : State → Prop := fun t => ∃ o, t.status = .running ∧ Ended t below o ∧ lw_Q a s o t
/-- the law's own end, with 1 on the stack, nothing written that was there before, its room as the claim has it -/
theorem lw_ret {p : Program} {l : Launch} {e : Env} {s : State} {m : MethodId} {below : List Frame} {meth : Method} {c : Code} {b : Nat} (hx : p.tables.exec = Jvm.exec) (hb : c.code = code) (hr : meth.sig.returnType = ret) (hlocks : meth.locks = false) {pc : Nat} {H : Heap} {ls : Array Slot} (hdg : decode code pc = .ok (.ireturn, 1)) : W p l e room_1 s m #[Value.ref b] below meth c H [] 600128 7301098 (lw_Z below #[Value.ref b] s) (F0 m pc ls [.int 1]) := by
  intro T hT X
  obtain ⟨fs, hret, hrun, hended, hW, hframe⟩ := X.leave (v := some (.int 1)) (hlocks := hlocks) (fun h => by rw [hr] at h; cases h)
  have hmeth' : T.vm.method? m = some meth := X.method'
  refine ⟨T.setFrames fs, ?_, .returned (some (.int 1)), hrun, hended, rfl, ⟨_, rfl⟩, hW, hframe⟩
  jvm_step X.here [X.here.top, hx, hb, hdg, hmeth', hr, ret, narrow_b1]
  (try refine ⟨rfl, ?_⟩); (try refine ⟨rfl, ?_⟩)
  first | (intro acts; rw [hret _ acts rfl rfl rfl]) | rw [hret _ _ rfl rfl rfl]
  exact Steps.refl _
/-- what holds at the law's entry: the machine, the code, the tables' words (any of lw_tbl by 'hts w (by decide +kernel)'), the script of L ints xs at the cell b, what the Statement gives of the start (any of its parts by flat_of_before) -/
def lw_At (p : Program) (s : State) (m : MethodId) (meth : Method) (c : Code) (b L : Nat) (xs : Nat → Int32) : Prop :=
  p.tables.exec = Jvm.exec ∧ c.code = code ∧ meth.sig.returnType = ret ∧ c.maxLocals = 8 ∧ s.vm.findClass R_law = some m.cls ∧ (∀ w ∈ lw_tbl, w.before #[Value.ref b] s = true) ∧ va_X b L xs s s.heap ∧ b < s.heap.size ∧ meth.locks = false ∧ (Jvm.Cond.and given_1 narrow_1).before #[Value.ref b] s = true
theorem and63 (x : Int32) : ∃ k, k < 64 ∧ x &&& 63 = nI k := by
  have e : x = nI x.toBitVec.toNat := by
    apply Int32.toBitVec_inj.1
    show x.toBitVec = BitVec.ofNat 32 x.toBitVec.toNat
    simp
  refine ⟨x.toBitVec.toNat % 64, Nat.mod_lt _ (by decide), ?_⟩
  have : nI x.toBitVec.toNat &&& nI 63 = nI (x.toBitVec.toNat % 64) := by
    rw [nx_and, show (63 : Nat) = 2 ^ 6 - 1 from rfl, Nat.and_two_pow_sub_one_eq_mod]
  rw [← this, ← e]
  rfl
theorem neg_hd : ∀ L, L < 5 → nI L - (5 : Int32) < 0 := by decide +kernel
theorem hd_iff {c L : Nat} (hc : c ≤ 64) (hL : L ≤ 320) : nI (5 * c) ≤ nI L - 5 ↔ 5 * c + 5 ≤ L := by
  by_cases h : 5 ≤ L
  · have e : nI L - 5 = nI (L - 5) := nI_sub (a := L) (b := 5) h
    rw [e]
    constructor
    · intro q
      apply Nat.le_of_not_lt
      intro z
      exact nI_ge (a := L - 5) (b := 5 * c) (by omega) (by omega) q
    · intro q
      exact nI_le (by omega) (by omega)
  · constructor
    · intro q
      exact absurd (Int32.lt_of_le_of_lt q (neg_hd L (by omega))) (nI_pos (by omega))
    · intro q; omega
theorem REL.up {c : Nat} {C M : aH} (R : REL c C M) : REL (c + 1) C M := by
  obtain ⟨N, sem, x, l, V, v, cw, mw, tc, tm, tx, pa, ke, se⟩ := R
  exact ⟨N, sem, x, l, V, VS_mono (by omega) v, cw, mw, tc, tm, tx, pa.to (S := fun _ _ => false) (T := fun _ _ => false) (Fr.refl _ _) (Fr.refl _ _) rfl (fun _ => rfl) (fun _ _ _ _ => rfl) rfl (fun _ => rfl) (by omega), ke.to (S := fun _ _ => false) (T := fun _ _ => false) (Fr.refl _ _) (Fr.refl _ _) (fun _ _ _ _ => rfl) rfl (fun _ _ _ _ => rfl) (by omega) (by omega), se⟩
section Loop
variable {Γ : aC} {b L : Nat} {xs : Nat → Int32}
theorem law_next (D : LC Γ b L xs) {cs : Nat × Nat} {c : Nat} {h : aH} (k : Jd Γ cs 23 (lvL b (nI (5 * (c + 1)))) [] h) : Jd Γ cs 1711 (lvL b (nI (5 * c))) [] h := by
  refine r_iinc2 (pc := 1711) D.1 5 (lvL b (nI (5 * (c + 1)))) dL_law_1711 (by decide) rfl (by decide) (congrArg some (nI_add (5 * c) 5)) rfl ?_
  exact r_goto (pc := 1714) D.1 23 dL_law_1714 (by decide) k
set_option maxHeartbeats 4000000 in
theorem law_loop (D : LC Γ b L xs) (fin : ∀ cs lv h, cs.1 ≤ 600128 → cs.2 ≤ 7301098 → Jd Γ cs 1717 lv [] h) : ∀ m c cs h, L < 5 * c + 5 * (m + 1) → c ≤ 64 → REL c h h → cs.1 ≤ 1000 + c → cs.2 ≤ 100000 + 6 * c → Jd Γ cs 23 (lvL b (nI (5 * c))) [] h := by
  have X := D.1
  have hL := D.2.2.2.2
  intro m
  induction m with
  | zero =>
    intro c cs h hm hc R h1 h2
    refine r_iload (pc := 23) X dL_law_23 rfl ?_
    refine r_aloadQ_n (pc := 25) X dL_law_25 rfl ?_
    refine r_slen (pc := 26) D dL_law_26 ?_
    refine r_iconst (pc := 27) X 5 dL_law_27 (by decide) ?_
    refine r_isub (pc := 28) X dL_law_28 ?_
    refine r_icmp_gt (pc := 29) X 1717 dL_law_29 (by decide) (fun _ => fin cs _ h (by omega) (by omega)) (fun q => ?_)
    have := (hd_iff hc hL).mp q
    omega
  | succ m ih =>
    intro c cs h hm hc R h1 h2
    refine r_iload (pc := 23) X dL_law_23 rfl ?_
    refine r_aloadQ_n (pc := 25) X dL_law_25 rfl ?_
    refine r_slen (pc := 26) D dL_law_26 ?_
    refine r_iconst (pc := 27) X 5 dL_law_27 (by decide) ?_
    refine r_isub (pc := 28) X dL_law_28 ?_
    refine r_icmp_gt (pc := 29) X 1717 dL_law_29 (by decide) (fun _ => fin cs _ h (by omega) (by omega)) (fun q => ?_)
    have h5 := (hd_iff hc hL).mp q
    refine r_aloadQ_n (pc := 32) X dL_law_32 rfl ?_
    refine r_iload (pc := 33) X dL_law_33 rfl ?_
    refine r_sld (pc := 35) D (k := 5 * c) dL_law_35 rfl (by omega) ?_
    refine r_bipush (pc := 36) X 63 dL_law_36 (by decide) ?_
    refine r_iand (pc := 38) X dL_law_38 ?_
    obtain ⟨k, hk, ek⟩ := and63 (xs (5 * c))
    rw [ek]
    have go : ∀ h2, REL (c + 1) h2 h2 → Jd Γ cs 1711 (lvL b (nI (5 * c))) [] h2 := fun h2 R' => law_next D (ih (c + 1) cs h2 (by omega) (by omega) R' (by omega) (by omega))
    have goX : ∀ h2, REL (c + 1) h2 h2 → Jd Γ (cs.1 + 1, cs.2 + 6) 1711 (lvL b (nI (5 * c))) [] h2 := fun h2 R' => law_next D (ih (c + 1) (cs.1 + 1, cs.2 + 6) h2 (by omega) (by omega) R' (by show cs.1 + 1 ≤ _; omega) (by show cs.2 + 6 ≤ _; omega))
    have hcs : cs.1 ≤ 600128 ∧ cs.2 ≤ 7301098 := ⟨by omega, by omega⟩
    have hcx : cs.1 + 1 ≤ 600128 ∧ cs.2 + 6 ≤ 7301098 := ⟨by omega, by omega⟩
    by_cases q0 : k = 0
    · subst q0
      exact r_tabIn (pc := 39) D 240 dL_law_39 (by decide) (by decide) (off := 201) rfl (by decide) (lc_0 D hc h5 R hcs go)
    by_cases q1 : k = 1
    · subst q1
      exact r_tabIn (pc := 39) D 265 dL_law_39 (by decide) (by decide) (off := 226) rfl (by decide) (lc_1 D hc h5 R hcs go)
    by_cases q2 : k = 2
    · subst q2
      exact r_tabIn (pc := 39) D 290 dL_law_39 (by decide) (by decide) (off := 251) rfl (by decide) (lc_2 D hc h5 R hcs go)
    by_cases q3 : k = 3
    · subst q3
      exact r_tabIn (pc := 39) D 303 dL_law_39 (by decide) (by decide) (off := 264) rfl (by decide) (lc_3 D hc h5 R hcs go)
    by_cases q4 : k = 4
    · subst q4
      exact r_tabIn (pc := 39) D 316 dL_law_39 (by decide) (by decide) (off := 277) rfl (by decide) (lc_4 D hc h5 R hcs go)
    by_cases q5 : k = 5
    · subst q5
      exact r_tabIn (pc := 39) D 329 dL_law_39 (by decide) (by decide) (off := 290) rfl (by decide) (lc_5 D hc h5 R hcx goX)
    by_cases q6 : k = 6
    · subst q6
      exact r_tabIn (pc := 39) D 397 dL_law_39 (by decide) (by decide) (off := 358) rfl (by decide) (lc_6 D hc h5 R hcx goX)
    by_cases q7 : k = 7
    · subst q7
      exact r_tabIn (pc := 39) D 465 dL_law_39 (by decide) (by decide) (off := 426) rfl (by decide) (lc_7 D hc h5 R hcs go)
    by_cases q8 : k = 8
    · subst q8
      exact r_tabIn (pc := 39) D 526 dL_law_39 (by decide) (by decide) (off := 487) rfl (by decide) (lc_8 D hc h5 R hcs go)
    by_cases q9 : k = 9
    · subst q9
      exact r_tabIn (pc := 39) D 551 dL_law_39 (by decide) (by decide) (off := 512) rfl (by decide) (lc_9 D hc h5 R hcs go)
    by_cases q10 : k = 10
    · subst q10
      exact r_tabIn (pc := 39) D 588 dL_law_39 (by decide) (by decide) (off := 549) rfl (by decide) (lc_10 D hc h5 R hcs go)
    by_cases q11 : k = 11
    · subst q11
      exact r_tabIn (pc := 39) D 625 dL_law_39 (by decide) (by decide) (off := 586) rfl (by decide) (lc_11 D hc h5 R hcs go)
    by_cases q12 : k = 12
    · subst q12
      exact r_tabIn (pc := 39) D 650 dL_law_39 (by decide) (by decide) (off := 611) rfl (by decide) (lc_12 D hc h5 R hcs go)
    by_cases q13 : k = 13
    · subst q13
      exact r_tabIn (pc := 39) D 675 dL_law_39 (by decide) (by decide) (off := 636) rfl (by decide) (lc_13 D hc h5 R hcs go)
    by_cases q14 : k = 14
    · subst q14
      exact r_tabIn (pc := 39) D 712 dL_law_39 (by decide) (by decide) (off := 673) rfl (by decide) (lc_14 D hc h5 R hcs go)
    by_cases q15 : k = 15
    · subst q15
      exact r_tabIn (pc := 39) D 725 dL_law_39 (by decide) (by decide) (off := 686) rfl (by decide) (lc_15 D hc h5 R hcs go)
    by_cases q16 : k = 16
    · subst q16
      exact r_tabIn (pc := 39) D 738 dL_law_39 (by decide) (by decide) (off := 699) rfl (by decide) (lc_16 D hc h5 R hcs go)
    by_cases q17 : k = 17
    · subst q17
      exact r_tabIn (pc := 39) D 775 dL_law_39 (by decide) (by decide) (off := 736) rfl (by decide) (lc_17 D hc h5 R hcs go)
    by_cases q18 : k = 18
    · subst q18
      exact r_tabIn (pc := 39) D 800 dL_law_39 (by decide) (by decide) (off := 761) rfl (by decide) (lc_18 D hc h5 R hcs go)
    by_cases q19 : k = 19
    · subst q19
      exact r_tabIn (pc := 39) D 813 dL_law_39 (by decide) (by decide) (off := 774) rfl (by decide) (lc_19 D hc h5 R hcs go)
    by_cases q20 : k = 20
    · subst q20
      exact r_tabIn (pc := 39) D 826 dL_law_39 (by decide) (by decide) (off := 787) rfl (by decide) (lc_20 D hc h5 R hcs go)
    by_cases q21 : k = 21
    · subst q21
      exact r_tabIn (pc := 39) D 851 dL_law_39 (by decide) (by decide) (off := 812) rfl (by decide) (lc_21 D hc h5 R hcs go)
    by_cases q22 : k = 22
    · subst q22
      exact r_tabIn (pc := 39) D 876 dL_law_39 (by decide) (by decide) (off := 837) rfl (by decide) (lc_22 D hc h5 R hcs go)
    by_cases q23 : k = 23
    · subst q23
      exact r_tabIn (pc := 39) D 937 dL_law_39 (by decide) (by decide) (off := 898) rfl (by decide) (lc_23 D hc h5 R hcs go)
    by_cases q24 : k = 24
    · subst q24
      exact r_tabIn (pc := 39) D 974 dL_law_39 (by decide) (by decide) (off := 935) rfl (by decide) (lc_24 D hc h5 R hcs go)
    by_cases q25 : k = 25
    · subst q25
      exact r_tabIn (pc := 39) D 1035 dL_law_39 (by decide) (by decide) (off := 996) rfl (by decide) (lc_25 D hc h5 R hcs go)
    by_cases q26 : k = 26
    · subst q26
      exact r_tabIn (pc := 39) D 1084 dL_law_39 (by decide) (by decide) (off := 1045) rfl (by decide) (lc_26 D hc h5 R hcs go)
    by_cases q27 : k = 27
    · subst q27
      exact r_tabIn (pc := 39) D 1121 dL_law_39 (by decide) (by decide) (off := 1082) rfl (by decide) (lc_27 D hc h5 R hcs go)
    by_cases q28 : k = 28
    · subst q28
      exact r_tabIn (pc := 39) D 1170 dL_law_39 (by decide) (by decide) (off := 1131) rfl (by decide) (lc_28 D hc h5 R hcs go)
    by_cases q29 : k = 29
    · subst q29
      exact r_tabIn (pc := 39) D 1219 dL_law_39 (by decide) (by decide) (off := 1180) rfl (by decide) (lc_29 D hc h5 R hcs go)
    by_cases q30 : k = 30
    · subst q30
      exact r_tabIn (pc := 39) D 1232 dL_law_39 (by decide) (by decide) (off := 1193) rfl (by decide) (lc_30 D hc h5 R hcs go)
    by_cases q31 : k = 31
    · subst q31
      exact r_tabIn (pc := 39) D 1245 dL_law_39 (by decide) (by decide) (off := 1206) rfl (by decide) (lc_31 D hc h5 R hcs go)
    by_cases q32 : k = 32
    · subst q32
      exact r_tabIn (pc := 39) D 1258 dL_law_39 (by decide) (by decide) (off := 1219) rfl (by decide) (lc_32 D hc h5 R hcs go)
    by_cases q33 : k = 33
    · subst q33
      exact r_tabIn (pc := 39) D 1295 dL_law_39 (by decide) (by decide) (off := 1256) rfl (by decide) (lc_33 D hc h5 R hcs go)
    by_cases q34 : k = 34
    · subst q34
      exact r_tabIn (pc := 39) D 1320 dL_law_39 (by decide) (by decide) (off := 1281) rfl (by decide) (lc_34 D hc h5 R hcs go)
    by_cases q35 : k = 35
    · subst q35
      exact r_tabIn (pc := 39) D 1357 dL_law_39 (by decide) (by decide) (off := 1318) rfl (by decide) (lc_35 D hc h5 R hcs go)
    by_cases q36 : k = 36
    · subst q36
      exact r_tabIn (pc := 39) D 1394 dL_law_39 (by decide) (by decide) (off := 1355) rfl (by decide) (lc_36 D hc h5 R hcs go)
    by_cases q37 : k = 37
    · subst q37
      exact r_tabIn (pc := 39) D 1407 dL_law_39 (by decide) (by decide) (off := 1368) rfl (by decide) (lc_37 D hc h5 R hcs go)
    by_cases q38 : k = 38
    · subst q38
      exact r_tabIn (pc := 39) D 1420 dL_law_39 (by decide) (by decide) (off := 1381) rfl (by decide) (lc_38 D hc h5 R hcs go)
    by_cases q39 : k = 39
    · subst q39
      exact r_tabIn (pc := 39) D 1457 dL_law_39 (by decide) (by decide) (off := 1418) rfl (by decide) (lc_39 D hc h5 R hcs go)
    by_cases q40 : k = 40
    · subst q40
      exact r_tabIn (pc := 39) D 1506 dL_law_39 (by decide) (by decide) (off := 1467) rfl (by decide) (lc_40 D hc h5 R hcs go)
    by_cases q41 : k = 41
    · subst q41
      exact r_tabIn (pc := 39) D 1531 dL_law_39 (by decide) (by decide) (off := 1492) rfl (by decide) (lc_41 D hc h5 R hcs go)
    by_cases q42 : k = 42
    · subst q42
      exact r_tabIn (pc := 39) D 1544 dL_law_39 (by decide) (by decide) (off := 1505) rfl (by decide) (lc_42 D hc h5 R hcs go)
    by_cases q43 : k = 43
    · subst q43
      exact r_tabIn (pc := 39) D 1581 dL_law_39 (by decide) (by decide) (off := 1542) rfl (by decide) (lc_43 D hc h5 R hcs go)
    by_cases q44 : k = 44
    · subst q44
      exact r_tabIn (pc := 39) D 1606 dL_law_39 (by decide) (by decide) (off := 1567) rfl (by decide) (lc_44 D hc h5 R hcs go)
    by_cases q45 : k = 45
    · subst q45
      exact r_tabIn (pc := 39) D 1631 dL_law_39 (by decide) (by decide) (off := 1592) rfl (by decide) (lc_45 D hc h5 R hcs go)
    by_cases q46 : k = 46
    · subst q46
      exact r_tabIn (pc := 39) D 1656 dL_law_39 (by decide) (by decide) (off := 1617) rfl (by decide) (lc_46 D hc h5 R hcx goX)
    have k47 : 47 ≤ k := by omega
    have tk : (nI k).toInt = (k : Int) := nI_toInt (by omega)
    refine r_tabOut (pc := 39) D 1711 dL_law_39 (Or.inr (by rw [tk]; omega)) (by decide) ?_
    exact law_next D (ih (c + 1) cs h (by omega) (by omega) (R.up) (by omega) (by omega))
end Loop
