/-! the throwers' words, their contract, their rows -/
def nse : String := "java/util/NoSuchElementException"
def chn : List String := ["java/lang/RuntimeException", "java/lang/Exception"]
def nsB : ByteArray := ⟨#[0x2a, 0x2b, 0xb7, 0x00, 0x0d, 0xb1]⟩
def exL : List Cond := Cond.classLink "LockLetters" 183 nse :: Cond.initialized nse :: hk_atS "LockLetters" 187 nse 13 nsB chn
theorem exL_in : ∀ w ∈ exL, w ∈ lw_tbl := by decide +kernel
theorem exL_ot : ∀ w ∈ exL, vx_ot w = true := by decide +kernel
def exw : List Cond := [.declares (Bundle.initS "java/lang/RuntimeException"), .declares (Bundle.initS "java/lang/Exception"), .declares (Bundle.initS Bundle.tN), .castable nse nse]
theorem exL_bad : exL.filter (fun w => !goodWord w) = exw := by decide +kernel
theorem exw_tb : ∀ w ∈ exw, w.onTables = true := by decide +kernel
def EX (g : aG) (U : State) : Prop := (∀ w ∈ exw, w.before #[] U = true) ∧ (vx_Zq Bundle.tN "UNASSIGNED_STACK" Bundle.steD (aA g) U U.heap ∧ vx_Zq Bundle.tN "SUPPRESSED_SENTINEL" Bundle.listD (aA g) U U.heap) ∧
  (∃ a, vk_R "LockLetters" 185 "no such basin, or nothing such of it" a U) ∧ (∃ a, vk_R "LockLetters" 202 "no such sluice, or nothing such of it" a U) ∧ (∃ a, vk_R "LockLetters" 491 "no such number of the row" a U)
theorem EX.to {g : aG} {u U : State} (hW : u.WarmedH U.vm) (hq : ∀ a : Nat, a < u.heap.size → ¬ aA g a → U.heap[a]? = u.heap[a]?) (h : EX g u) : EX g U := by
  obtain ⟨h1, ⟨h2, h3⟩, ⟨a1, h4⟩, ⟨a2, h5⟩, ⟨a3, h6⟩⟩ := h
  refine ⟨fun w hw => ?_, ⟨vx_Zq.moved hW.alike (h2.kept hq), vx_Zq.moved hW.alike (h3.kept hq)⟩, ⟨a1, vk_R.warm hW h4⟩, ⟨a2, vk_R.warm hW h5⟩, ⟨a3, vk_R.warm hW h6⟩⟩
  have h9 := h1 w hw
  simp only [exw, List.mem_cons, List.not_mem_nil, or_false] at hw
  rcases hw with rfl | rfl | rfl | rfl
  · exact va_tabs rfl (rfl : (u.setVm U.vm).vm = U.vm) (by rw [Cond.declares_setVm hW.alike]; exact h9)
  · exact va_tabs rfl (rfl : (u.setVm U.vm).vm = U.vm) (by rw [Cond.declares_setVm hW.alike]; exact h9)
  · exact va_tabs rfl (rfl : (u.setVm U.vm).vm = U.vm) (by rw [Cond.declares_setVm hW.alike]; exact h9)
  · exact va_tabs rfl (rfl : (u.setVm U.vm).vm = U.vm) (by rw [Cond.castable_setVm hW.alike]; exact h9)
theorem EX.same {g : aG} {u U : State} (hv : U.vm = u.vm) (hh : U.heap = u.heap) (h : EX g u) : EX g U := EX.to (by rw [hv]; exact State.WarmedH.refl u) (fun a _ _ => by rw [hh]) h
theorem exw_at {g : aG} {U : State} (h : EX g U) (A : Array Value) : ∀ w ∈ exw, w.before A U = true := fun w hw => va_tabs (exw_tb w hw) rfl (h.1 w hw)
/-- the contract of a method that may throw: what it gives, or none for the throw, nothing changed -/
def Pcx (g : aG) (av : List Value) (h : aH) : Array Value → State → Prop := va_Pc (av.map (cv g.1)) (fun U => Pw g h U.heap ∧ KK g U ∧ EX g U ∧ g.1 ≤ U.heap.size)
theorem Pcx_blind (g : aG) (av : List Value) (h : aH) : FrameBlind (Pcx g av h) := by
  intro a U f mk q
  obtain ⟨q0, q1, q2, q3, q4⟩ := q
  exact ⟨q0, q1, KK.moved (u := U) (U := U.calling f mk a) (Vm.Alike.refl U.vm) rfl q2, EX.same (u := U) (U := U.calling f mk a) rfl rfl q3, q4⟩
def Qcx (g : aG) (o : Option (Option Value × aH)) : Array Value → State → Outcome → State → Prop := fun a st u t => ∃ q, o = some q ∧ Qcg g q a st u t
def XCx (g : aG) (h : aH) (o : Option (Option Value × aH)) : String → State → State → Prop := fun E st t => o = none ∧ E = nse ∧ Pw g h t.heap ∧ va_F (aA g) st t
def EvX (l : Launch) (g : aG) (d : Nat) (y : MethodName) (b : ByteArray) (nL : Nat) (r : Option FieldType) (av : List Value) (h : aH) (o : Option (Option Value × aH)) : Prop :=
  vx_Met l y (.code y b nL r :: lw_good) (rmOf (d, 1, 6)) (Pcx g av h) (Qcx g o) (XCx g h o) 1 6 (aA g)
def RqX (Γ : aC) (h : aH) (o : Option (Option Value × aH)) : Prop :=
  Γ.2.2.2 = vx_MQ Γ.2.1.2.2.1 (Qcx Γ.2.2.1 o) (XCx Γ.2.2.1 h o) Γ.2.1.2.1 Γ.1.2.2.2.2 1 6 (aA Γ.2.2.1) ∧ (∀ x ∈ Γ.2.1.2.2.2.2.exceptionTable.toList, False) ∧ EX Γ.2.2.1 Γ.1.2.2.2.2 ∧ Γ.1.2.1.stackTraces = false ∧ Γ.1.2.2.2.1.cells = 1 ∧ Γ.1.2.2.2.1.slots = 6
def RqXI (Γ : aC) (h : aH) (o : Option (Int32 × aH)) : Prop := RqX Γ h (o.map (fun q => (some (.int q.1), q.2)))
def RqXJ (Γ : aC) (h : aH) (o : Option (Int64 × aH)) : Prop := RqX Γ h (o.map (fun q => (some (.long q.1), q.2)))
theorem EvX.of {l : Launch} {g : aG} {d : Nat} {y : MethodName} {b : ByteArray} {nL : Nat} {r : Option FieldType} {na : Nat} {av : List Value} {h : aH} {o : Option (Option Value × aH)} (M : MOk y b nL r na) (hst : l.stackTraces = false) (hlen : (ent0 av).length ≤ nL)
    (body : ∀ Γ : aC, Γ.1.2.1 = l → Γ.2.2.1 = g → RqX Γ h o → Cx Γ y.cls b nL r (d, 1, 6) → Jd Γ (0, 0) 0 (ent av nL) [] h) : EvX l g d y b nL r av h o := by
  refine vx_ofW (cc := b) (maxL := nL) (ret := r) M.2.2.2 rfl ?_
  intro p e s m args below meth c s₁ B hml htb hv
  obtain ⟨rfl, hP, hK, hE, hle⟩ := hv
  have hts := atoms_spec (ws := .code y b nL r :: lw_good) B.pre
  have hown : s.vm.findClass y.cls = some m.cls := findClass_of_methodNamed B.named
  have hl := lv_entry (av.map (cv g.1)) (n := nL) (by rw [lg_len]; exact hlen)
  have J := body ((p, l, e, (headSpec (.code y b nL r :: lw_good) (rmOf (d, 1, 6))).room, s), (m, (av.map (cv g.1)).toArray, below, meth, c), g, vx_MQ below (Qcx g o) (XCx g h o) (av.map (cv g.1)).toArray s 1 6 (aA g)) rfl rfl ⟨rfl, htb, hE, hst, rfl, rfl⟩
    ⟨B.exec, B.bytes, hml, hown, fun w hw => hts w (List.mem_cons_of_mem _ hw), hK, B.returns, B.notSynchronized, ⟨Nat.le_refl _, Nat.le_refl _, rfl, rfl⟩, hle⟩
  rw [lg_entry_eq]
  refine J s.heap [] _ hP va_S.rf ?_
  show lv_has _ c.maxLocals _
  rw [hml]
  refine ⟨hl.1, hl.2.1, fun q hq => ?_⟩
  obtain ⟨i, w⟩ := q
  obtain ⟨v, h1, rfl⟩ := lvp_mem.mp hq
  rw [List.getElem?_toArray]
  exact ent_at g.1 _ av i v h1 _
section ThrowRows
variable {Γ : aC} {own : String} {cc : ByteArray} {nL : Nat} {ret : Option FieldType} {d0 : Nat} {pc : Nat} {lv : List (Option Value)} {st : List Value} {h h0 : aH}
theorem r_iretX (X : Cx Γ own cc nL (some .int) (d0, 1, 6)) {x : Int32} (d : decode cc pc = .ok (.ireturn, 1)) (hq : RqXI Γ h0 (some (x, h))) : Jd Γ (0, 0) pc lv [.int x] h := by
  intro H locs ls hP hS hls
  obtain ⟨-, -, -, -, -, -, hr, hlk, -, -⟩ := id X
  obtain ⟨hq, -⟩ := hq
  refine W.widen (k := 1) (n := 6) (by decide) (by decide) ?_
  rw [hq]
  exact vx_ret (W.iret X.1 X.2.1 hr (fun t ht _ => ⟨_, rfl, rfl, by rw [ht]; exact hP, hS.F ht⟩) (fun q hq => hS.2.2 q hq) d hlk)
theorem r_lretX (X : Cx Γ own cc nL (some .long) (d0, 1, 6)) {x : Int64} (d : decode cc pc = .ok (.lreturn, 1)) (hq : RqXJ Γ h0 (some (x, h))) : Jd Γ (0, 0) pc lv [.long x] h := by
  intro H locs ls hP hS hls
  obtain ⟨-, -, -, -, -, -, hr, hlk, -, -⟩ := id X
  obtain ⟨hq, -⟩ := hq
  refine W.widen (k := 1) (n := 6) (by decide) (by decide) ?_
  rw [hq]
  exact vx_ret (W.lret X.1 X.2.1 hr (fun t ht _ => ⟨_, rfl, rfl, by rw [ht]; exact hP, hS.F ht⟩) (fun q hq => hS.2.2 q hq) d hlk)
theorem exL_hat {g : aG} {s : State} {A : Array Value} (hts : ∀ w ∈ lw_good, w.before A s = true) (E : EX g s) : ∀ w ∈ exL, w.before A s = true := by
  refine vx_hat (B := exw) (fun w hw => ?_) (fun w hw => by rw [exL_bad] at hw; exact hw) (exw_at E A)
  obtain ⟨h1, h2⟩ := List.mem_filter.mp hw
  exact hts w (lw_good_of (exL_in w h1) h2)
theorem r_throwS (X : Cx Γ "LockLetters" cc nL ret (d0, 1, 6)) {is : Nat} {tx : String} (hd : 6 ≤ d0) (hR : RqX Γ h none) (hs : ∃ a, vk_R "LockLetters" is tx a Γ.1.2.2.2.2) (dd0 : decode cc pc = .ok (.new 183, 3)) (dd3 : decode cc (pc + 3) = .ok (.dup, 1)) (dd4 : decode cc (pc + 4) = .ok (.ldc is, 2)) (dd6 : decode cc (pc + 6) = .ok (.invokespecial 187, 3)) (dd9 : decode cc (pc + 9) = .ok (.athrow, 1)) : Jd Γ (0, 0) pc lv [] h := by
  intro H locs ls hP hS hls
  obtain ⟨hx, hb, hml, hown, hts, hKK, hr, hlk, ⟨hRf, hRl, hRc, hRs⟩, hbase⟩ := id X
  obtain ⟨hq, htb, hE, hst, hc1, hc2⟩ := hR
  obtain ⟨sa, hsa⟩ := hs
  have hh := exL_hat hts hE
  unfold Wg
  rw [hq]
  exact hk_throwS (ix := 13) (rx := nsB) (names := chn) (A := aA Γ.2.2.1) hx hb hst (by decide +kernel) (by decide +kernel) (by decide +kernel) (by decide +kernel) hown (by decide +kernel) (by decide +kernel) (hh _ (by simp [exL])) (hh _ (by simp [exL])) hsa (fun w hw => hh w (by simp [exL, hw])) exL_ot hE.2.1.1 hE.2.1.2 hS hls.1 dd0 dd3 dd4 dd6 dd9
    (fun x hx => (htb x hx).elim) (by show 5 < _; omega) (by show 0 + (13 * 3 + 43) ≤ _; omega) (by rw [hc1]; decide) (by rw [hc2]; decide) hlk
    (fun t hal hz hk => ⟨rfl, rfl, hP.kept (fun k x hx => hk x.1 ((hP k x hx).lt)), Nat.le_trans hS.1 hz, fun q g1 g2 => (hk q (Nat.lt_of_lt_of_le g1 hS.1)).trans (hS.2.1 q g1 g2)⟩) (fun z hz => hS.2.2 z hz) (by decide) (by decide)
theorem r_throwSW (X : Cx Γ "LockLetters" cc nL ret (d0, 1, 6)) {is : Nat} {tx : String} (hd : 6 ≤ d0) (hR : RqX Γ h none) (hs : ∃ a, vk_R "LockLetters" is tx a Γ.1.2.2.2.2) (dd0 : decode cc pc = .ok (.new 183, 3)) (dd3 : decode cc (pc + 3) = .ok (.dup, 1)) (dd4 : decode cc (pc + 4) = .ok (.ldc_w is, 3)) (dd7 : decode cc (pc + 7) = .ok (.invokespecial 187, 3)) (dd10 : decode cc (pc + 10) = .ok (.athrow, 1)) : Jd Γ (0, 0) pc lv [] h := by
  intro H locs ls hP hS hls
  obtain ⟨hx, hb, hml, hown, hts, hKK, hr, hlk, ⟨hRf, hRl, hRc, hRs⟩, hbase⟩ := id X
  obtain ⟨hq, htb, hE, hst, hc1, hc2⟩ := hR
  obtain ⟨sa, hsa⟩ := hs
  have hh := exL_hat hts hE
  unfold Wg
  rw [hq]
  exact hk_throwSW (ix := 13) (rx := nsB) (names := chn) (A := aA Γ.2.2.1) hx hb hst (by decide +kernel) (by decide +kernel) (by decide +kernel) (by decide +kernel) hown (by decide +kernel) (by decide +kernel) (hh _ (by simp [exL])) (hh _ (by simp [exL])) hsa (fun w hw => hh w (by simp [exL, hw])) exL_ot hE.2.1.1 hE.2.1.2 hS hls.1 dd0 dd3 dd4 dd7 dd10
    (fun x hx => (htb x hx).elim) (by show 5 < _; omega) (by show 0 + (13 * 3 + 43) ≤ _; omega) (by rw [hc1]; decide) (by rw [hc2]; decide) hlk
    (fun t hal hz hk => ⟨rfl, rfl, hP.kept (fun k x hx => hk x.1 ((hP k x hx).lt)), Nat.le_trans hS.1 hz, fun q g1 g2 => (hk q (Nat.lt_of_lt_of_le g1 hS.1)).trans (hS.2.1 q g1 g2)⟩) (fun z hz => hS.2.2 z hz) (by decide) (by decide)
end ThrowRows
