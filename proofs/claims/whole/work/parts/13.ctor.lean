section CtorRows
variable {Γ : aC} {own : String} {cc : ByteArray} {nL : Nat} {ret : Option FieldType} {rm : Nat × Nat × Nat} {cs : Nat × Nat} {pc : Nat} {lv : List (Option Value)} {st : List Value} {h : aH}
theorem r_anew (X : Cx Γ own cc nL ret rm) {n0 a N idx : Nat} {x : Int32} {h' : aH} (hA : Γ.1.2.2.2.2.heap.size = Γ.2.2.1.1 + n0) (hn : (hsh h).length = n0 + cs.1) (d : decode cc pc = .ok (.anewarray idx, 3)) (hcl : Cond.classLink own idx "LockLetters$State" ∈ lw_good)
    (hx0 : ¬ x < 0) (hN : x.toNatClampNeg = N) (hbytes : N * 4 ≤ 536870912) (h1 : cs.1 + 1 ≤ rm.2.1) (h2 : cs.2 + N ≤ rm.2.2)
    (ea : some (hsh h).length = some a) (eh : some (nw h (17, N)) = some h') (k : Jd Γ (cs.1 + 1, cs.2 + N) (pc + 3) lv (.ref a :: st) h') : Jd Γ cs pc lv (.int x :: st) h := by
  cases ea; cases eh; subst hN
  obtain ⟨hx, hb, hml, hown, hts, hKK, hret, hlk, ⟨hRf, hRl, hRc, hRs⟩, hbase⟩ := id X
  intro H locs ls hP hS hls
  refine Wg.sized fun hz => ?_
  have hlow := Pw_low hP hS hA hn
  have hsz : H.size = Γ.2.2.1.1 + (hsh h).length := by omega
  refine W.anew hx hb hown (hts _ hcl) (va_AO.use hKK.2.1) rfl d rfl hx0 hbytes (by omega) (by omega) fun cA kA comp f1 f2 f3 f4 => ?_
  generalize hH1 : H.push ({ cls := cA, slots := Array.replicate x.toNatClampNeg .null, vm := .none } : Cell) = H1
  have z1 : H1.size = H.size + 1 := by rw [← hH1, Array.size_push]
  have e1 : H1[H.size]? = some (arrV cA x.toNatClampNeg (fun _ => .null)) := by rw [← hH1, Array.getElem?_push_size, ← arrV_new]
  have o1' : ∀ q : Nat, q < H.size → H1[q]? = H[q]? := fun q hq => by rw [← hH1, Array.getElem?_push, if_neg (Nat.ne_of_lt hq)]
  have hk : ∀ (k : Nat) (x : Nat × va_E), (wsG Γ.2.2.1 h)[k]? = some x → H1[x.1]? = H[x.1]? := fun k x hx => o1' x.1 ((hP k x hx).lt)
  have e5 : (fun j => cvo Γ.2.2.1.1 (hR (nw h (17, x.toNatClampNeg)) (hsh h).length j)) = fun _ => none := by
    funext j
    show cvo _ (va_up h.2.2.2 h.1.length (fun _ => none) h.1.length j) = none
    simp [va_up, cvo]
  have hP1 : Pw Γ.2.2.1 (nw h (17, x.toNatClampNeg)) H1 := by
    unfold Pw
    rw [wsG_nw]
    refine (hP.kept hk).app (fun k x hx => ?_)
    have hz : k < 1 := (List.getElem?_eq_some_iff.mp hx).1
    rw [show k = 0 by omega] at hx
    cases hx
    rw [cellE_r, e5]
    obtain ⟨kB, cB, g1, g2, g3, g4⟩ := (hKK.1.2 5 _ rfl).2
    have hc : cA = Γ.2.2.1.2.2 17 := Option.some.inj (f1.symm.trans g4)
    rw [← hc]
    show H1[_]? = some (vp_cell _ _)
    rw [vp_cell_q, ← hsz]
    exact e1
  have hS1 : va_S (aA Γ.2.2.1) Γ.1.2.2.2.2.heap H1 locs := ⟨by have := hS.1; omega, fun x g1 g2 => (o1' x (by have := hS.1; omega)).trans (hS.2.1 x g1 g2), hS.2.2⟩
  have J := k H1 locs ls hP1 hS1 hls
  show W _ _ _ _ _ _ _ _ _ _ H1 locs _ _ _ _
  rw [hsz]
  exact J
theorem r_putRF (X : Cx Γ own cc nL ret rm) {idx ci j a x : Nat} {ty : FieldType} {h' : aH} (hin : Γ.2.1.2.2.2.1.name = "<init>") (d : decode cc pc = .ok (.putfield idx, 3)) (F : FLf own idx ci j ty) (hty : ∀ b : Nat, narrow ty (.ref b) = .ref b ∧ fits ty (.ref b) = true) (hb : (fk ci)[j]? = some true) (hx : pR h a ci j x = some h') (k : Jd Γ cs (pc + 3) lv st h') : Jd Γ cs pc lv (.ref x :: .ref a :: st) h := by
  obtain ⟨u, hu, rfl⟩ := Option.map_eq_some_iff.mp hx
  obtain ⟨n, hn⟩ := ck_inv hu
  obtain ⟨q, hc, hj, hl, hfin, hdecl, hpd⟩ := F
  obtain ⟨o1, ⟨ty0, o2⟩, o3⟩ := clOk_all ci q hc
  intro H locs ls hP hS hls
  refine va_putF (C := q.1) (T := q.2.1) (N := q.2.2) X.1 X.2.1 X.2.2.2.2.1 o1 ty0 o2 o3 X.2.2.2.1 X.2.2.2.2.2.1.1 hP (wsG_D _ _) hS a (fs := flds Γ.2.2.1.1 h a ci) ?_ hc j hj (X.2.2.2.2.1 _ hl) (fun _ h => h) hfin hin hdecl hpd (hty _).1 (hty _).2 ?_ d ?_
  · rw [wsG_get _ _ hn, cellE_obj _ _ _ (vwCl_lt hc)]
  · rw [flds_len, fk_len ci q hc]; exact hj
  · intro H1 locs1 g1 g2 g3
    have e2 := flds_sR Γ.2.2.1.1 h a ci j (some x) hb
    have g1' : va_P Γ.2.2.1.2.1 vwCl ((wsG Γ.2.2.1 h).set a (Γ.2.2.1.1 + a, .inr (ci, (flds Γ.2.2.1.1 h a ci).set j (va_rf (cvo Γ.2.2.1.1 (some x)))))) H1 := g1
    rw [e2] at g1'
    have e := wsG_set Γ.2.2.1 h (sR h a j (some x)) hn rfl (fun k' q' hk _ => cellE_rR _ _ _ _ q' hk)
    rw [cellE_obj _ _ _ (vwCl_lt hc)] at e
    rw [e] at g1'
    exact k H1 locs1 ls g1' g3 hls
theorem r_objInit (X : Cx Γ own cc nL ret rm) {idx a : Nat} (d : decode cc pc = .ok (.invokespecial idx, 3)) (hl : Cond.methodLink own idx objectInit ∈ lw_good) (hi : Cond.instanceMethod objectInit ∈ lw_good) (hc : Cond.code objectInit ⟨#[0xb1]⟩ 1 none ∈ lw_good) (hd : 1 ≤ rm.1) (hst : (st.map fun v => v.category).sum ≤ 8) (k : Jd Γ cs (pc + 3) lv st h) : Jd Γ cs pc lv (.ref a :: st) h := by
  obtain ⟨hx, hb, hml, hown, hts, hKK, hret, hlk, ⟨hRf, hRl, hRc, hRs⟩, hbase⟩ := id X
  intro H locs ls hP hS hls
  exact W.objInit hx hb hown (hts _ hl) (hts _ hi) (hts _ hc) rfl hls.1 rfl d (by omega) (by show 2 * 0 + _ + 12 ≤ _; rw [cat_map]; omega) (k H locs ls hP hS hls)
theorem r_callI (X : Cx Γ own cc nL ret rm) {n0 idx na nL' a mc ms : Nat} {y : MethodName} {b : ByteArray} {h' : aH} (As : List Value) (hA : Γ.1.2.2.2.2.heap.size = Γ.2.2.1.1 + n0) (hn : (hsh h).length = n0 + cs.1) (d : decode cc pc = .ok (.invokespecial idx, 3)) (hl : Cond.methodLink own idx y ∈ lw_good) (M : IOk y b nL' na)
    (E : EvA Γ.1.2.1 Γ.2.2.1 (rm.1 - 1) y b nL' (.ref a :: As) h h' mc ms) (hd : 1 ≤ rm.1) (hna : As.length = na) (h1 : cs.1 + mc ≤ rm.2.1) (h2 : cs.2 + ms ≤ rm.2.2) (hst : (st.map fun v => v.category).sum ≤ 8)
    {st0 : List Value} (hs0 : st0 = As.reverse ++ .ref a :: st) (k : Jd Γ (cs.1 + mc, cs.2 + ms) (pc + 3) lv st h') : Jd Γ cs pc lv st0 h := by
  subst hs0
  obtain ⟨⟨hcode, hini, hy, hpn⟩, hin, hnm, hnl⟩ := M
  obtain ⟨hx, hb, hml, hown, hts, hKK, hret, hlk, ⟨hRf, hRl, hRc, hRs⟩, hbase⟩ := id X
  intro H locs ls hP hS hls
  refine Wg.sized fun hz => ?_
  have hlow := Pw_low hP hS hA hn
  have hsz : H.size = Γ.2.2.1.1 + (hsh h).length := by omega
  obtain ⟨dd, hdd⟩ : ∃ dd, dd + 1 = rm.1 := ⟨rm.1 - 1, by omega⟩
  have hdd1 : rm.1 - 1 = dd := by omega
  rw [hdd1] at E
  have cb : CallB Γ.1.2.2.2.1 Γ.1.2.2.2.2 Γ.2.1.2.1 own idx y b nL' none (.code y b nL' none :: lw_good) (rmOf (dd, mc, ms)) mc ms na :=
    callB_of (Ts := lw_good) na hts (goodIn_cg hcode) rfl rfl rfl (hts _ hini) (hts _ hl) hy ⟨by show dd + 1 ≤ _; omega, by show 8 + (nL' + 11) + 60 * dd ≤ _; omega⟩
  have hrun := va_runI (As := As.map (cv Γ.2.2.1.1)) (rest := st.map (cv Γ.2.2.1.1)) (b := Γ.2.2.1.1 + a) (n := na) (Ts := lw_good) (own := own) (index := idx) (g := F0 Γ.2.1.1 pc ls ((As.reverse ++ .ref a :: st).map (cv Γ.2.2.1.1))) (H := H) (locs := locs) (cells := cs.1) (slots := cs.2) (below := Γ.2.1.2.2.1) (meth := Γ.2.1.2.2.2.1) (e := Γ.1.2.2.1)
    ⟨hx, hb, hml, hown, hts⟩ E ⟨cb, hnm, hts _ hin⟩
    ⟨Pca_blind _ _ _, fun U hU hW => ⟨by simp [cv], by rw [hU]; exact hP, KK.to hW.alike (by rw [hU]; exact hS.2.1) hKK, by rw [hU]; exact X.le hS, by rw [hU]; exact hsz⟩⟩
    rfl (by rw [List.length_map]; exact hna) (X.size hls) (by simp [List.map_append, List.map_reverse, cv]) (lv_room (by rw [cat_map]; exact hst)) d ⟨by omega, by omega⟩
  intro T hT Y
  obtain ⟨v, st₀, t, T', L, h0, Y', hL, e1, e2, ⟨hv, hp, ⟨hzz, hkk⟩, hsz'⟩, stp⟩ := hrun T hT Y
  cases hv
  rw [h0] at hzz hkk
  obtain ⟨t2, a1, b1⟩ := k T'.heap (locs ++ L) ls (by rw [e1]; exact hp)
    ⟨Nat.le_trans hS.1 (by rw [e1]; exact hzz), fun q g1 g2 => by rw [e1, hkk q (Nat.lt_of_lt_of_le g1 hS.1) g2]; exact hS.2.1 q g1 g2, fun q hq => by
      rcases List.mem_append.mp hq with g1 | g1
      · exact hS.2.2 q g1
      · exact hL q g1⟩ hls T' rfl Y'
  exact ⟨t2, stp t2 a1, b1⟩
theorem r_vretA (X : Cx Γ own cc nL none rm) {n0 : Nat} (hA : Γ.1.2.2.2.2.heap.size = Γ.2.2.1.1 + n0) (hn : (hsh h).length = n0 + rm.2.1) (d : decode cc pc = .ok (.return_, 1)) (hq : RqA Γ h) : Jd Γ (rm.2.1, rm.2.2) pc lv [] h := by
  intro H locs ls hP hS hls
  refine Wg.sized fun hz => ?_
  have hlow := Pw_low hP hS hA hn
  have hsz : H.size = Γ.2.2.1.1 + (hsh h).length := by
    dsimp only at hz
    omega
  obtain ⟨-, -, -, -, -, -, hr, hlk, ⟨-, -, e1, e2⟩, -⟩ := id X
  unfold Wg
  rw [hq, e1, e2]
  exact W.vret X.1 X.2.1 hr (fun t ht _ => ⟨rfl, by rw [ht]; exact hP, hS.F ht, by rw [ht]; exact hsz⟩) (fun q hq => hS.2.2 q hq) d hlk
end CtorRows
theorem EvA.of {l : Launch} {g : aG} {d : Nat} {y : MethodName} {b : ByteArray} {nL : Nat} {na : Nat} {av : List Value} {h o : aH} {mc ms : Nat} (M : MOk y b nL none na) (hnm : y.name = "<init>") (hlen : (ent0 av).length ≤ nL)
    (body : ∀ Γ : aC, Γ.1.2.1 = l → Γ.2.2.1 = g → RqA Γ o → Γ.2.1.2.2.2.1.name = "<init>" → Γ.1.2.2.2.2.heap.size = Γ.2.2.1.1 + (hsh h).length → Cx Γ y.cls b nL none (d, mc, ms) → Jd Γ (0, 0) 0 (ent av nL) [] h) : EvA l g d y b nL av h o mc ms := by
  refine Met.ofW (cc := b) (maxL := nL) (ret := none) M.2.2.2 rfl ?_
  intro p e s m args below meth c s₁ B hml hv
  obtain ⟨rfl, hP, hK, hle, hsz⟩ := hv
  have hts := atoms_spec (ws := .code y b nL none :: lw_good) B.pre
  have hown : s.vm.findClass y.cls = some m.cls := findClass_of_methodNamed B.named
  have hin : meth.name = y.name := (name_of_methodNamed B.named B.method).1
  have hl := lv_entry (av.map (cv g.1)) (n := nL) (by rw [lg_len]; exact hlen)
  have J := body ((p, l, e, (headSpec (.code y b nL none :: lw_good) (rmOf (d, mc, ms))).room, s), (m, (av.map (cv g.1)).toArray, below, meth, c), g, MQ below (Qca g o) (av.map (cv g.1)).toArray s mc ms (aA g)) rfl rfl rfl (hin.trans hnm) hsz
    ⟨B.exec, B.bytes, hml, hown, fun w hw => hts w (List.mem_cons_of_mem _ hw), hK, B.returns, B.notSynchronized, ⟨Nat.le_refl _, Nat.le_refl _, rfl, rfl⟩, hle⟩
  rw [lg_entry_eq]
  refine J s.heap [] _ hP va_S.rf ?_
  show lv_has _ c.maxLocals _
  rw [hml]
  refine ⟨hl.1, hl.2.1, fun q hq => ?_⟩
  obtain ⟨i, w⟩ := q
  obtain ⟨v, h1, rfl⟩ := lvp_mem.mp hq
  rw [List.getElem?_toArray]
  exact ent_at g.1 _ av i v h1 _
