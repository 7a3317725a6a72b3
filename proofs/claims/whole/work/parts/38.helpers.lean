/-! the law's helpers: they call what may throw, and catch it -/
def EvW (l : Launch) (g : aG) (d : Nat) (y : MethodName) (b : ByteArray) (nL : Nat) (r : Option FieldType) (hh : Nat × Nat × Nat × Nat) (av : List Value) (h : aH) (q : Option Value × aH) : Prop :=
  Met l y (.codeWith y b nL r [hh] :: lw_good) (rmOf (d, 1, 6)) (Pcx g av h) (Qcg g q) 1 6 (aA g)
def WOk (y : MethodName) (b : ByteArray) (nL : Nat) (r : Option FieldType) (hh : Nat × Nat × Nat × Nat) (na : Nat) : Prop :=
  Cond.codeWith y b nL r [hh] ∈ lw_good ∧ Cond.initialized y.cls ∈ lw_good ∧ (y.cls ≠ "java/lang/invoke/MethodHandle" ∧ y.cls ≠ "java/lang/invoke/VarHandle" ∧ (parseMethodDescriptor y.desc).map (fun d => d.parameters.length) = some na) ∧ plainName y.cls = true ∧ Cond.static y ∈ lw_good ∧ nL ≤ 40
def tabIs (c : Code) (hh : Nat × Nat × Nat × Nat) : Prop := ∃ x, c.exceptionTable.toList = [x] ∧ (x.startPc, x.endPc, x.handlerPc, x.catchType) = hh
theorem hk_ofWH {l : Launch} {y : MethodName} {ws ws' : List Cond} {rm : Room} {Pc : Array Value → State → Prop} {Qc : Array Value → State → Outcome → State → Prop} {mc ms : Nat} {free : Addr → Prop} {cc : ByteArray} {maxL : Nat} {ret : Option FieldType} {hh : Nat × Nat × Nat × Nat} (hy : plainName y.cls = true) (hw : ws = Cond.codeWith y cc maxL ret [hh] :: ws')
    (body : ∀ p e s m args below meth c s₁, BodyLoose p l y (headSpec ws rm) cc maxL ret e s m args below meth c s₁ → c.maxLocals = maxL → tabIs c hh → Pc args s → W p l e (headSpec ws rm).room s m args below meth c s.heap [] 0 0 (MQ below Qc args s mc ms free) (entryFrame m args maxL)) : Met l y ws rm Pc Qc mc ms free := by
  refine MetFree.of_bodyS (code := cc) (maxLocals := maxL) (ret := ret) hy ?_ ?_
  · intro args s m h hn
    obtain ⟨m9, meth, c, hn9, h1, h2, h3, h4, -, h5, h6, -⟩ := Cond.codeWith_spec (atoms_spec (ws := ws) h _ (by rw [hw]; exact List.mem_cons_self))
    cases hn.symm.trans hn9
    exact ⟨meth, c, h1, h2, h3, h4, h5, h6⟩
  · intro p e s m args below meth c s₁ B hml hP _
    have hh0 : s₁.heap = s.heap := by rw [B.state]; rfl
    have ht : tabIs c hh := by
      obtain ⟨m9, meth9, c9, h0, h1, h2, -, -, h7, -, -, -⟩ := Cond.codeWith_spec (atoms_spec (ws := ws) B.pre _ (by rw [hw]; exact List.mem_cons_self))
      cases Option.some.inj (h0.symm.trans B.named)
      cases Option.some.inj (h1.symm.trans B.method)
      cases Option.some.inj (h2.symm.trans (Stand.of_body B).code)
      cases hL : c.exceptionTable.toList with
      | nil => rw [hL] at h7; cases h7
      | cons x t =>
        rw [hL] at h7
        cases t with
        | nil => exact ⟨x, hL, by simpa using h7⟩
        | cons z t => simp at h7
    obtain ⟨t, a1, o, b1, b2, b3⟩ := body p e s m args below meth c s₁ B hml ht hP s₁ hh0 (Stand.of_body B)
    exact ⟨t, o, a1, b1, b2, ⟨b3.1, b3.2⟩⟩
theorem EvW.of {l : Launch} {g : aG} {d : Nat} {y : MethodName} {b : ByteArray} {nL : Nat} {r : Option FieldType} {hh : Nat × Nat × Nat × Nat} {na : Nat} {av : List Value} {h : aH} {q : Option Value × aH} (M : WOk y b nL r hh na) (hlen : (ent0 av).length ≤ nL)
    (body : ∀ Γ : aC, Γ.1.2.1 = l → Γ.2.2.1 = g → Rq Γ q → EX Γ.2.2.1 Γ.1.2.2.2.2 → tabIs Γ.2.1.2.2.2.2 hh → Cx Γ y.cls b nL r (d, 1, 6) → Jd Γ (0, 0) 0 (ent av nL) [] h) : EvW l g d y b nL r hh av h q := by
  refine hk_ofWH (cc := b) (maxL := nL) (ret := r) M.2.2.2.1 rfl ?_
  intro p e s m args below meth c s₁ B hml htb hv
  obtain ⟨rfl, hP, hK, hE, hle⟩ := hv
  have hts := atoms_spec (ws := .codeWith y b nL r [hh] :: lw_good) B.pre
  have hown : s.vm.findClass y.cls = some m.cls := findClass_of_methodNamed B.named
  have hl := lv_entry (av.map (cv g.1)) (n := nL) (by rw [lg_len]; exact hlen)
  have J := body ((p, l, e, (headSpec (.codeWith y b nL r [hh] :: lw_good) (rmOf (d, 1, 6))).room, s), (m, (av.map (cv g.1)).toArray, below, meth, c), g, MQ below (Qcg g q) (av.map (cv g.1)).toArray s 1 6 (aA g)) rfl rfl rfl hE htb
    ⟨B.exec, B.bytes, hml, hown, fun w hw => hts w (List.mem_cons_of_mem _ hw), hK, B.returns, B.notSynchronized, ⟨Nat.le_refl _, Nat.le_refl _, rfl, rfl⟩, hle⟩
  rw [lg_entry_eq]
  refine J s.heap [] _ hP va_S.rf ?_
  show lv_has _ c.maxLocals _
  rw [hml]
  refine ⟨hl.1, hl.2.1, fun q hq => ?_⟩
  obtain ⟨i, w⟩ := q
  obtain ⟨v, h1, rfl⟩ := lvp_mem.mp hq
  rw [List.getElem?_toArray]
  exact ent_at g.1 _ av i v h1 _
section CatchRows
variable {Γ : aC} {own : String} {cc : ByteArray} {nL : Nat} {ret : Option FieldType} {rm : Nat × Nat × Nat} {cs : Nat × Nat} {pc : Nat} {lv : List (Option Value)} {st : List Value} {h : aH}
theorem r_astoreQ (X : Cx Γ own cc nL ret rm) {i : Nat} {x : Nat} (lv' : List (Option Value)) (d : decode cc pc = .ok (.astore i, 2)) (hi : i < nL) (hv : lvs lv i (.retAddr x) = lv') (k : Jd Γ cs (pc + 2) lv' st h) : Jd Γ cs pc lv (.retAddr x :: st) h := by
  subst hv
  exact fun H locs ls hP hS hl => lv_astore X.1 X.2.1 d hl (by rw [X.2.2.1]; exact hi) rfl (fun ls' hl' => k H locs ls' hP hS (lv_is.set1 (v := .retAddr x) hl'))
theorem r_astoreQ_n (X : Cx Γ own cc nL ret rm) {i : Fin 4} {x : Nat} (lv' : List (Option Value)) (d : decode cc pc = .ok (.astore_n i, 1)) (hi : (i : Nat) < nL) (hv : lvs lv i (.retAddr x) = lv') (k : Jd Γ cs (pc + 1) lv' st h) : Jd Γ cs pc lv (.retAddr x :: st) h := by
  subst hv
  exact fun H locs ls hP hS hl => lv_astore_n X.1 X.2.1 d rfl hl (by rw [X.2.2.1]; exact hi) rfl (fun ls' hl' => k H locs ls' hP hS (lv_is.set1 (v := .retAddr x) hl'))
theorem r_callVX {d0 : Nat} (X : Cx Γ own cc nL ret (d0, 1, 6)) {idx ci na nL' a : Nat} {y : MethodName} {b : ByteArray} {r : Option FieldType} {o : Option (Option Value × aH)} {u : Unit} {hh : Nat × Nat × Nat × Nat} (As : List Value) (hE : EX Γ.2.2.1 Γ.1.2.2.2.2) (htb : tabIs Γ.2.1.2.2.2.2 hh) (hcv : (decide (hh.1 ≤ pc) && decide (pc < hh.2.1)) = true) (h0 : hh.2.2.2 ≠ 0) (hlk : Cond.classLink own hh.2.2.2 nse ∈ lw_good)
    (d : decode cc pc = .ok (.invokevirtual idx, 3)) (hl : Cond.methodLink own idx y ∈ lw_good) (M : VOk y b nL' r na ci) (hck : ck h a ci = some u) (E : EvX Γ.1.2.1 Γ.2.2.1 (d0 - 1) y b nL' r (.ref a :: As) h o) (hd : 1 ≤ d0) (hn : As.length = na) (hst : (st.map fun v => v.category).sum ≤ 8)
    {st0 : List Value} (hs0 : st0 = As.reverse ++ .ref a :: st) (kx : o = none → ∀ q : Nat, Jd Γ (1, 6) hh.2.2.1 lv [.retAddr q] h) (k : ∀ q, o = some q → Jd Γ (1, 6) (pc + 3) lv (q.1.toList ++ st) q.2) : Jd Γ (0, 0) pc lv st0 h := by
  subst hs0
  obtain ⟨⟨hcode, hini, hy, hpn⟩, hin, hsel, hci, hnl⟩ := M
  obtain ⟨n, hn'⟩ := ck_inv hck
  obtain ⟨C, hC1, hC2⟩ := Option.map_eq_some_iff.mp hci
  obtain ⟨hx, hb, hml, hown, hts, hKK, hret, hlks, hR, hbase⟩ := id X
  intro H locs ls hP hS hls
  obtain ⟨dd, hdd⟩ : ∃ dd, dd + 1 = d0 := ⟨d0 - 1, by omega⟩
  have hdd1 : d0 - 1 = dd := by omega
  rw [hdd1] at E
  obtain ⟨hRf, hRl, hRc, hRs⟩ := hR
  have cb : CallB Γ.1.2.2.2.1 Γ.1.2.2.2.2 Γ.2.1.2.1 own idx y b nL' r (.code y b nL' r :: lw_good) (rmOf (dd, 1, 6)) 1 6 na :=
    callB_of (Ts := lw_good) na hts (goodIn_cg hcode) rfl rfl rfl (hts _ hini) (hts _ hl) hy ⟨by show dd + 1 ≤ _; dsimp only at hRf; omega, by show 8 + (nL' + 11) + 60 * dd ≤ _; dsimp only at hRl; omega⟩
  have hcell : (wsG Γ.2.2.1 h)[a]? = some (Γ.2.2.1.1 + a, .inr (ci, flds Γ.2.2.1.1 h a ci)) := by rw [wsG_get _ _ hn', cellE_obj _ _ _ (vwCl_lt hC1)]
  have hrun := vx_runV (As := As.map (cv Γ.2.2.1.1)) (rest := st.map (cv Γ.2.2.1.1)) (b := Γ.2.2.1.1 + a) (C := y.cls) (n := na) (Ts := lw_good) (own := own) (index := idx) (g := F0 Γ.2.1.1 pc ls ((As.reverse ++ .ref a :: st).map (cv Γ.2.2.1.1))) (H := H) (locs := locs) (cells := 0) (slots := 0) (below := Γ.2.1.2.2.1) (meth := Γ.2.1.2.2.2.1) (e := Γ.1.2.2.1)
    ⟨hx, hb, hml, hown, hts⟩ E ⟨cb, hts _ hin, hts _ hsel⟩
    ⟨Pcx_blind _ _ _, by rw [← hC2]; exact va_recv hKK.1 hP hC1 hcell, fun U hU hW => ⟨by simp [cv], by rw [hU]; exact hP, KK.to hW.alike (by rw [hU]; exact hS.2.1) hKK, EX.to hW (by rw [hU]; exact hS.2.1) hE, by rw [hU]; exact X.le hS⟩⟩
    rfl (by rw [List.length_map]; exact hn) (X.size hls) (by simp [List.map_append, List.map_reverse, cv]) (lv_room (by rw [cat_map]; exact hst)) d ⟨by rw [hRc]; exact Nat.le_refl 1, by rw [hRs]; exact Nat.le_refl 6⟩
  obtain ⟨x, hx1, hx2⟩ := htb
  subst hx2
  intro T hT Y
  rcases hrun T hT Y with ⟨v, st₀, t, T', L, g0, Y', hL, e1, e2, ⟨q, rfl, hv, hp, hz, hk⟩, stp⟩ | ⟨q, st₀, t, T', L, En, ce, g0, Y', hL, e1, e2, ⟨rfl, rfl, hp, hz, hk⟩, hce, hcvm, hcl, stp⟩
  · cases hv
    rw [g0] at hz hk
    obtain ⟨t2, a1, b1⟩ := k q rfl T'.heap (locs ++ L) ls (by rw [e1]; exact hp)
      ⟨Nat.le_trans hS.1 (by rw [e1]; exact hz), fun q h1 h2 => by rw [e1, hk q (Nat.lt_of_lt_of_le h1 hS.1) h2]; exact hS.2.1 q h1 h2, fun q hq => by
        rcases List.mem_append.mp hq with h | h
        · exact hS.2.2 q h
        · exact hL q h⟩ hls T' rfl Y'
    rw [← cv_app] at a1
    exact ⟨t2, stp t2 a1, b1⟩
  · rw [g0] at hz hk
    have J := kx rfl q T'.heap (locs ++ L) ls (by rw [e1]; exact hp)
      ⟨Nat.le_trans hS.1 (by rw [e1]; exact hz), fun q h1 h2 => by rw [e1, hk q (Nat.lt_of_lt_of_le h1 hS.1) h2]; exact hS.2.1 q h1 h2, fun q hq => by
        rcases List.mem_append.mp hq with h | h
        · exact hS.2.2 q h
        · exact hL q h⟩ hls
    obtain ⟨t2, a1, b1⟩ := hk_catch (E := nse) (name := nse) (ce := ce) (q := q) (rest := st.map (cv Γ.2.2.1.1)) hown x hx1 hcv h0 (hts _ hlk) (exw_at hE _ _ (by simp [exw])) (by rw [e1]; exact hce) hcvm hcl J T' rfl Y'
    exact ⟨t2, stp.trans a1, b1⟩
end CatchRows
