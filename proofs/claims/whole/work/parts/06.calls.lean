/-! contracts, calls, entry, loops -/
def Pcg (g : aG) (av : List Value) (h : aH) : Array Value → State → Prop := va_Pc (av.map (cv g.1)) (fun U => Pw g h U.heap ∧ KK g U ∧ g.1 ≤ U.heap.size)
theorem Pcg_blind (g : aG) (av : List Value) (h : aH) : FrameBlind (Pcg g av h) := by
  intro a U f mk q
  obtain ⟨q0, q1, q2, q3⟩ := q
  exact ⟨q0, q1, KK.moved (u := U) (U := U.calling f mk a) (Vm.Alike.refl U.vm) rfl q2, q3⟩
/-- a method's words: its code, its class, how many parameters -/
def MOk (y : MethodName) (b : ByteArray) (nL : Nat) (r : Option FieldType) (na : Nat) : Prop :=
  Cond.code y b nL r ∈ lw_good ∧ Cond.initialized y.cls ∈ lw_good ∧ (y.cls ≠ "java/lang/invoke/MethodHandle" ∧ y.cls ≠ "java/lang/invoke/VarHandle" ∧ (parseMethodDescriptor y.desc).map (fun d => d.parameters.length) = some na) ∧ plainName y.cls = true
def VOk (y : MethodName) (b : ByteArray) (nL : Nat) (r : Option FieldType) (na ci : Nat) : Prop :=
  MOk y b nL r na ∧ Cond.instanceMethod y ∈ lw_good ∧ Cond.selects y.cls y y ∈ lw_good ∧ (vwCl[ci]?).map (fun q => q.1) = some y.cls ∧ nL ≤ 40
def SOk (y : MethodName) (b : ByteArray) (nL : Nat) (r : Option FieldType) (na : Nat) : Prop :=
  MOk y b nL r na ∧ Cond.static y ∈ lw_good ∧ nL ≤ 40
/-- the contract of a method that makes nothing -/
def EvM (l : Launch) (g : aG) (d : Nat) (y : MethodName) (b : ByteArray) (nL : Nat) (r : Option FieldType) (av : List Value) (h : aH) (q : Option Value × aH) : Prop :=
  Met l y (.code y b nL r :: lw_good) (rmOf (d, 0, 0)) (Pcg g av h) (Qcg g q) 0 0 (aA g)
theorem goodIn_cg {y : MethodName} {b : ByteArray} {nL : Nat} {r : Option FieldType} (h : Cond.code y b nL r ∈ lw_good) : GoodIn lw_good (.code y b nL r :: lw_good) := fun w hw => by
  rcases List.mem_cons.mp hw with rfl | hw
  · exact lw_good_good _ h
  · exact lw_good_good _ hw
theorem run_go {p : Program} {l : Launch} {e : Env} {R : Room} {s : State} {m : MethodId} {args : Array Value} {below : List Frame} {meth : Method} {c : Code} {H : Heap} {locs : List Loc} {cells slots : Nat} {Q : State → Prop} {pc : Nat} {ls : Array Slot} {st0 rest : List Value} {g : aG} {q : Option Value × aH} {a : Array Value}
    (hr : va_Run p l e R s m args below meth c H locs cells slots 0 0 (F0 m pc ls st0) rest (Qcg g q a) (aA g)) (hS : va_S (aA g) s.heap H locs)
    (kk : ∀ (H1 : Heap) (locs1 : List Loc), Pw g q.2 H1 → va_S (aA g) s.heap H1 locs1 → W p l e R s m args below meth c H1 locs1 cells slots Q (F0 m (pc + 3) ls ((q.1.map (cv g.1)).toList ++ rest))) : W p l e R s m args below meth c H locs cells slots Q (F0 m pc ls st0) := by
  intro T hT X
  obtain ⟨v, st₀, t, T', L, h0, X', hL, e1, e2, ⟨hv, hp, hz, hk⟩, st⟩ := hr T hT X
  cases hv
  rw [h0] at hz hk
  obtain ⟨t2, a1, b1⟩ := kk T'.heap (locs ++ L) (by rw [e1]; exact hp)
    ⟨Nat.le_trans hS.1 (by rw [e1]; exact hz), fun q h1 h2 => by rw [e1, hk q (Nat.lt_of_lt_of_le h1 hS.1) h2]; exact hS.2.1 q h1 h2, fun q hq => by
      rcases List.mem_append.mp hq with h | h
      · exact hS.2.2 q h
      · exact hL q h⟩ T' rfl X'
  exact ⟨t2, st t2 a1, b1⟩
theorem cv_app (b : Nat) (r : Option Value) (st : List Value) : (r.map (cv b)).toList ++ st.map (cv b) = (r.toList ++ st).map (cv b) := by cases r <;> simp
theorem cat_map (b : Nat) (st : List Value) : ((st.map (cv b)).map fun v => v.category).sum = (st.map fun v => v.category).sum := by
  induction st with
  | nil => rfl
  | cons a l ih => simp only [List.map_cons, List.sum_cons, cv_cat, ih]
section CallRows
variable {Γ : aC} {own : String} {cc : ByteArray} {nL : Nat} {ret : Option FieldType} {rm : Nat × Nat × Nat} {cs : Nat × Nat} {pc : Nat} {lv : List (Option Value)} {st : List Value} {h : aH}
theorem Cx.size (X : Cx Γ own cc nL ret rm) {ls : Array Slot} (hl : lv_is Γ.2.2.1.1 ls Γ.2.1.2.2.2.2.maxLocals lv) : ls.size = nL := hl.1.trans X.2.2.1
theorem Cx.le (X : Cx Γ own cc nL ret rm) {H : Heap} {locs : List Loc} (hS : va_S (aA Γ.2.2.1) Γ.1.2.2.2.2.heap H locs) : Γ.2.2.1.1 ≤ H.size := Nat.le_trans X.2.2.2.2.2.2.2.2.2 hS.1
theorem r_callV (X : Cx Γ own cc nL ret rm) {idx ci na nL' a : Nat} {y : MethodName} {b : ByteArray} {r : Option FieldType} {q : Option Value × aH} {u : Unit} (As : List Value) (d : decode cc pc = .ok (.invokevirtual idx, 3)) (hl : Cond.methodLink own idx y ∈ lw_good) (M : VOk y b nL' r na ci)
    (hcs : cs.1 ≤ rm.2.1 ∧ cs.2 ≤ rm.2.2) (hck : ck h a ci = some u) (E : EvM Γ.1.2.1 Γ.2.2.1 (rm.1 - 1) y b nL' r (.ref a :: As) h q) (hd : 1 ≤ rm.1) (hn : As.length = na) (hst : (st.map fun v => v.category).sum ≤ 8)
    {st0 : List Value} (hs0 : st0 = As.reverse ++ .ref a :: st) (k : Jd Γ cs (pc + 3) lv (q.1.toList ++ st) q.2) : Jd Γ cs pc lv st0 h := by
  subst hs0
  obtain ⟨⟨hcode, hini, hy, hpn⟩, hin, hsel, hci, hnl⟩ := M
  obtain ⟨n, hn'⟩ := ck_inv hck
  obtain ⟨C, hC1, hC2⟩ := Option.map_eq_some_iff.mp hci
  obtain ⟨hx, hb, hml, hown, hts, hKK, hret, hlk, hR, hbase⟩ := id X
  intro H locs ls hP hS hls
  obtain ⟨dd, hdd⟩ : ∃ dd, dd + 1 = rm.1 := ⟨rm.1 - 1, by omega⟩
  have hdd1 : rm.1 - 1 = dd := by omega
  rw [hdd1] at E
  obtain ⟨hRf, hRl, hRc, hRs⟩ := hR
  have cb : CallB Γ.1.2.2.2.1 Γ.1.2.2.2.2 Γ.2.1.2.1 own idx y b nL' r (.code y b nL' r :: lw_good) (rmOf (dd, 0, 0)) 0 0 na :=
    callB_of (Ts := lw_good) na hts (goodIn_cg hcode) rfl rfl rfl (hts _ hini) (hts _ hl) hy ⟨by show dd + 1 ≤ _; omega, by show 8 + (nL' + 11) + 60 * dd ≤ _; omega⟩
  have hcell : (wsG Γ.2.2.1 h)[a]? = some (Γ.2.2.1.1 + a, .inr (ci, flds Γ.2.2.1.1 h a ci)) := by rw [wsG_get _ _ hn', cellE_obj _ _ _ (vwCl_lt hC1)]
  have hrun := va_runV (As := As.map (cv Γ.2.2.1.1)) (rest := st.map (cv Γ.2.2.1.1)) (b := Γ.2.2.1.1 + a) (C := y.cls) (n := na) (Ts := lw_good) (own := own) (index := idx) (g := F0 Γ.2.1.1 pc ls ((As.reverse ++ .ref a :: st).map (cv Γ.2.2.1.1))) (H := H) (locs := locs) (cells := cs.1) (slots := cs.2) (below := Γ.2.1.2.2.1) (meth := Γ.2.1.2.2.2.1) (e := Γ.1.2.2.1)
    ⟨hx, hb, hml, hown, hts⟩ E ⟨cb, hts _ hin, hts _ hsel⟩
    ⟨Pcg_blind _ _ _, by rw [← hC2]; exact va_recv hKK.1 hP hC1 hcell, fun U hU hW => ⟨by simp [cv], by rw [hU]; exact hP, KK.to hW.alike (by rw [hU]; exact hS.2.1) hKK, by rw [hU]; exact X.le hS⟩⟩
    rfl (by rw [List.length_map]; exact hn) (X.size hls) (by simp [List.map_append, List.map_reverse, cv]) (lv_room (by rw [cat_map]; exact hst)) d ⟨by omega, by omega⟩
  exact run_go hrun hS (fun H1 locs1 h1 h2 => by rw [cv_app]; exact k H1 locs1 ls h1 h2 hls)
theorem r_callS (X : Cx Γ own cc nL ret rm) {idx na nL' : Nat} {y : MethodName} {b : ByteArray} {r : Option FieldType} {q : Option Value × aH} (As : List Value) (d : decode cc pc = .ok (.invokestatic idx, 3)) (hl : Cond.methodLink own idx y ∈ lw_good) (M : SOk y b nL' r na)
    (hcs : cs.1 ≤ rm.2.1 ∧ cs.2 ≤ rm.2.2) (E : EvM Γ.1.2.1 Γ.2.2.1 (rm.1 - 1) y b nL' r As h q) (hd : 1 ≤ rm.1) (hn : As.length = na) (hst : (st.map fun v => v.category).sum ≤ 8)
    {st0 : List Value} (hs0 : st0 = As.reverse ++ st) (k : Jd Γ cs (pc + 3) lv (q.1.toList ++ st) q.2) : Jd Γ cs pc lv st0 h := by
  subst hs0
  obtain ⟨⟨hcode, hini, hy, hpn⟩, hsta, hnl⟩ := M
  obtain ⟨hx, hb, hml, hown, hts, hKK, hret, hlk, hR, hbase⟩ := id X
  intro H locs ls hP hS hls
  obtain ⟨dd, hdd⟩ : ∃ dd, dd + 1 = rm.1 := ⟨rm.1 - 1, by omega⟩
  have hdd1 : rm.1 - 1 = dd := by omega
  rw [hdd1] at E
  obtain ⟨hRf, hRl, hRc, hRs⟩ := hR
  have cb : CallB Γ.1.2.2.2.1 Γ.1.2.2.2.2 Γ.2.1.2.1 own idx y b nL' r (.code y b nL' r :: lw_good) (rmOf (dd, 0, 0)) 0 0 na :=
    callB_of (Ts := lw_good) na hts (goodIn_cg hcode) rfl rfl rfl (hts _ hini) (hts _ hl) hy ⟨by show dd + 1 ≤ _; omega, by show 8 + (nL' + 11) + 60 * dd ≤ _; omega⟩
  have hrun := va_runS (As := As.map (cv Γ.2.2.1.1)) (rest := st.map (cv Γ.2.2.1.1)) (n := na) (Ts := lw_good) (own := own) (index := idx) (g := F0 Γ.2.1.1 pc ls ((As.reverse ++ st).map (cv Γ.2.2.1.1))) (H := H) (locs := locs) (cells := cs.1) (slots := cs.2) (below := Γ.2.1.2.2.1) (meth := Γ.2.1.2.2.2.1) (e := Γ.1.2.2.1)
    ⟨hx, hb, hml, hown, hts⟩ E ⟨cb, hts _ hsta⟩
    ⟨Pcg_blind _ _ _, fun U hU hW => ⟨rfl, by rw [hU]; exact hP, KK.to hW.alike (by rw [hU]; exact hS.2.1) hKK, by rw [hU]; exact X.le hS⟩⟩
    rfl (by rw [List.length_map]; exact hn) (X.size hls) (by simp [List.map_append, List.map_reverse]) (lv_room (by rw [cat_map]; exact hst)) d ⟨by omega, by omega⟩
  exact run_go hrun hS (fun H1 locs1 h1 h2 => by rw [cv_app]; exact k H1 locs1 ls h1 h2 hls)
end CallRows
/-- a method's locals at its entry -/
def ent0 (av : List Value) : List (Option Value) := av.flatMap (fun v => if v.category = 2 then [some v, none] else [some v])
def ent (av : List Value) (nL : Nat) : List (Option Value) := ent0 av ++ List.replicate (nL - (ent0 av).length) none
theorem ent_at (b : Nat) (k : Nat) : ∀ (av : List Value) (i : Nat) (v : Value), (ent0 av ++ List.replicate k none)[i]? = some (some v) → ∀ k', (lg_sl (av.map (cv b)) ++ List.replicate k' Slot.unset)[i]? = some (.val (cv b v))
  | [], i, v, h, k' => by
    exfalso
    simp only [ent0, List.flatMap_nil, List.nil_append] at h
    rw [List.getElem?_replicate] at h
    split at h <;> simp at h
  | w :: av, i, v, h, k' => by
    have e1 : ent0 (w :: av) = (if w.category = 2 then [some w, none] else [some w]) ++ ent0 av := by simp [ent0]
    have e2 : lg_sl ((w :: av).map (cv b)) = (if w.category = 2 then [.val (cv b w), .second] else [.val (cv b w)]) ++ lg_sl (av.map (cv b)) := by simp [lg_sl, cv_cat]
    rw [e1, List.append_assoc] at h
    rw [e2, List.append_assoc]
    by_cases hc : w.category = 2
    · simp only [hc, if_true, List.cons_append, List.nil_append] at h ⊢
      match i, h with
      | 0, h => simp at h; subst h; simp
      | 1, h => simp at h
      | i + 2, h => simp only [List.getElem?_cons_succ] at h ⊢; exact ent_at b k av i v h k'
    · simp only [hc, if_false, List.cons_append, List.nil_append] at h ⊢
      match i, h with
      | 0, h => simp at h; subst h; simp
      | i + 1, h => simp only [List.getElem?_cons_succ] at h ⊢; exact ent_at b k av i v h k'
theorem lg_len (b : Nat) : ∀ av : List Value, (lg_sl (av.map (cv b))).length = (ent0 av).length
  | [] => rfl
  | w :: av => by
    have e1 : ent0 (w :: av) = (if w.category = 2 then [some w, none] else [some w]) ++ ent0 av := by simp [ent0]
    have e2 : lg_sl ((w :: av).map (cv b)) = (if w.category = 2 then [.val (cv b w), .second] else [.val (cv b w)]) ++ lg_sl (av.map (cv b)) := by simp [lg_sl, cv_cat]
    rw [e1, e2, List.length_append, List.length_append, lg_len b av]
    by_cases hc : w.category = 2 <;> simp [hc]
theorem EvM.of {l : Launch} {g : aG} {d : Nat} {y : MethodName} {b : ByteArray} {nL : Nat} {r : Option FieldType} {na : Nat} {av : List Value} {h : aH} {q : Option Value × aH} (M : MOk y b nL r na) (hlen : (ent0 av).length ≤ nL)
    (body : ∀ Γ : aC, Γ.1.2.1 = l → Γ.2.2.1 = g → Rq Γ q → Cx Γ y.cls b nL r (d, 0, 0) → Jd Γ (0, 0) 0 (ent av nL) [] h) : EvM l g d y b nL r av h q := by
  refine Met.ofW (cc := b) (maxL := nL) (ret := r) M.2.2.2 rfl ?_
  intro p e s m args below meth c s₁ B hml hv
  obtain ⟨rfl, hP, hK, hle⟩ := hv
  have hts := atoms_spec (ws := .code y b nL r :: lw_good) B.pre
  have hown : s.vm.findClass y.cls = some m.cls := findClass_of_methodNamed B.named
  have hl := lv_entry (av.map (cv g.1)) (n := nL) (by rw [lg_len]; exact hlen)
  have J := body ((p, l, e, (headSpec (.code y b nL r :: lw_good) (rmOf (d, 0, 0))).room, s), (m, (av.map (cv g.1)).toArray, below, meth, c), g, MQ below (Qcg g q) (av.map (cv g.1)).toArray s 0 0 (aA g)) rfl rfl rfl
    ⟨B.exec, B.bytes, hml, hown, fun w hw => hts w (List.mem_cons_of_mem _ hw), hK, B.returns, B.notSynchronized, ⟨Nat.le_refl _, Nat.le_refl _, rfl, rfl⟩, hle⟩
  rw [lg_entry_eq]
  refine J s.heap [] _ hP va_S.rf ?_
  show lv_has _ c.maxLocals _
  rw [hml]
  refine ⟨hl.1, hl.2.1, fun q hq => ?_⟩
  obtain ⟨i, w⟩ := q
  obtain ⟨v, h1, rfl⟩ := lvp_mem.mp hq
  rw [List.getElem?_toArray]
  exact ent_at g.1 _ av i v h1 _
/-- a loop: one turn gives the next state, or what stands behind the loop -/
def lp {σ ρ : Type} (body : σ → Option (σ ⊕ ρ)) : Nat → σ → Option ρ
  | 0, _ => none
  | n + 1, s => match body s with
    | none => none
    | some (.inl s') => lp body n s'
    | some (.inr r) => some r
def lpN : Nat := 2000
theorem J_lp {σ ρ : Type} (body : σ → Option (σ ⊕ ρ)) (Hd : σ → Prop) (Ex : ρ → Prop) (hb : ∀ s o, body s = some o → Sum.elim Hd Ex o → Hd s) : ∀ n s r, lp body n s = some r → Ex r → Hd s := by
  intro n
  induction n with
  | zero => intro s r h; cases h
  | succ n ih =>
    intro s r h hr
    unfold lp at h
    split at h
    · cases h
    · rename_i s' hs
      exact hb s _ hs (ih s' r h hr)
    · rename_i r' hs
      cases h
      exact hb s _ hs hr
/-- a local is forgotten -/
theorem r_fg {Γ : aC} {cs : Nat × Nat} {pc : Nat} {lv : List (Option Value)} {st : List Value} {h : aH} (k : Nat) (lv' : List (Option Value)) (hv : lv.set k none = lv') (J : Jd Γ cs pc lv' st h) : Jd Γ cs pc lv st h := by
  subst hv
  intro H locs ls hP hS hl
  refine J H locs ls hP hS ⟨hl.1, hl.2.1, fun q hq => hl.2.2 q ?_⟩
  obtain ⟨i, w⟩ := q
  obtain ⟨v, h1, rfl⟩ := lvp_mem.mp hq
  refine lvp_mem.mpr ⟨v, ?_, rfl⟩
  by_cases hi : i = k
  · subst hi
    have hl' : i < lv.length := by
      have := (List.getElem?_eq_some_iff.mp h1).1
      simpa using this
    rw [List.getElem?_set_self hl'] at h1
    cases h1
  · rw [List.getElem?_set_ne (Ne.symm hi)] at h1
    exact h1
/-- a name for what is computed -/
theorem r_nmI {Γ : aC} {cs : Nat × Nat} {pc : Nat} {lv : List (Option Value)} {st : List Value} {h : aH} {x y : Int32} (e : some x = some y) (J : Jd Γ cs pc lv (.int y :: st) h) : Jd Γ cs pc lv (.int x :: st) h := by cases e; exact J
theorem r_nmJ {Γ : aC} {cs : Nat × Nat} {pc : Nat} {lv : List (Option Value)} {st : List Value} {h : aH} {x y : Int64} (e : some x = some y) (J : Jd Γ cs pc lv (.long y :: st) h) : Jd Γ cs pc lv (.long x :: st) h := by cases e; exact J
theorem ob {α β : Type} {x : Option α} {f : α → Option β} {b : β} (h : x.bind f = some b) : ∃ a, x = some a ∧ f a = some b := Option.bind_eq_some_iff.mp h
theorem bz_inv {x y : Int32} (h : bz x = some y) : y = x ∧ (x = 0 ∨ x = 1) := by
  unfold bz at h
  split at h
  · rename_i h1
    cases h
    exact ⟨rfl, h1⟩
  · cases h
def RqI (Γ : aC) (o : Int32 × aH) : Prop := Rq Γ (some (.int o.1), o.2)
def RqJ (Γ : aC) (o : Int64 × aH) : Prop := Rq Γ (some (.long o.1), o.2)
def RqV (Γ : aC) (o : aH) : Prop := Rq Γ (none, o)
