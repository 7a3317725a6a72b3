/-! what is made: new cells, constructors -/
def nw (h : aH) (q : Nat × Nat) : aH := (h.1 ++ [q], va_up h.2.1 h.1.length (fun _ => 0), va_up h.2.2.1 h.1.length (fun _ => 0), va_up h.2.2.2 h.1.length (fun _ => none))
theorem hsh_nw (h : aH) (q) : hsh (nw h q) = hsh h ++ [q] := rfl
theorem nw_len {h h' : aH} {q : Nat × Nat} {n k : Nat} (e : some (nw h q) = some h') (z : (hsh h).length = n + k) : (hsh h').length = n + (k + 1) := by
  cases e
  rw [hsh_nw, List.length_append, z]
  rfl
theorem pI_sh {h h' : aH} {a ci j : Nat} {x : Int32} (e : pI h a ci j x = some h') : hsh h' = hsh h := by
  obtain ⟨u, -, rfl⟩ := Option.map_eq_some_iff.mp e
  rfl
theorem pR_sh {h h' : aH} {a ci j x : Nat} (e : pR h a ci j x = some h') : hsh h' = hsh h := by
  obtain ⟨u, -, rfl⟩ := Option.map_eq_some_iff.mp e
  rfl
theorem wR_sh {h h' : aH} {a x : Nat} {i : Int32} (e : wR h a i x = some h') : hsh h' = hsh h := by
  obtain ⟨u, -, e⟩ := Option.bind_eq_some_iff.mp e
  obtain ⟨u', -, rfl⟩ := Option.map_eq_some_iff.mp e
  rfl
theorem cpS_sh {h h' : aH} {b : Nat} (e : cpS h b = some h') : hsh h' = hsh h := by
  unfold cpS at e
  split at e
  · split at e
    · cases e; rfl
    · cases e
  · cases e
theorem becomesNone_sh {h h' : aH} {p : Nat} (e : fn_X4_becomesNone h p = some h') : hsh h' = hsh h := by
  unfold fn_X4_becomesNone at e
  obtain ⟨h1, e1, e⟩ := ob e
  obtain ⟨a, -, e⟩ := ob e
  rw [cpS_sh e, pI_sh e1]
theorem cellE_nw (g : aG) (h : aH) (q0 : Nat × Nat) {k : Nat} (q : Nat × Nat) (hk : k < (hsh h).length) : cellE g (nw h q0) k q = cellE g h k q := by
  have hne : k ≠ h.1.length := Nat.ne_of_lt hk
  have h1 : hI (nw h q0) k = hI h k := va_up_ne _ _ hne
  have h2 : hJ (nw h q0) k = hJ h k := va_up_ne _ _ hne
  have h3 : hR (nw h q0) k = hR h k := va_up_ne _ _ hne
  have h4 : ∀ kd, flds g.1 (nw h q0) k kd = flds g.1 h k kd := fun kd => by simp [flds, fldV, h1, h3]
  simp only [cellE, h1, h2, h3, h4]
theorem wsG_nw (g : aG) (h : aH) (q : Nat × Nat) : wsG g (nw h q) = wsG g h ++ [(g.1 + (hsh h).length, cellE g (nw h q) (hsh h).length q)] := by
  apply List.ext_getElem?
  intro i
  have hl : (wsG g h).length = (hsh h).length := by simp [wsG]
  by_cases hi : i < (hsh h).length
  · rw [List.getElem?_append_left (by rw [hl]; exact hi)]
    have hq : (hsh h)[i]? = some (hsh h)[i] := List.getElem?_eq_getElem hi
    rw [wsG_get g h hq, wsG_get g (nw h q) (q := (hsh h)[i]) (by rw [hsh_nw, List.getElem?_append_left hi]; exact hq), cellE_nw g h q _ hi]
  · rw [List.getElem?_append_right (by rw [hl]; omega), hl]
    by_cases h0 : i = (hsh h).length
    · subst h0
      rw [wsG_get g (nw h q) (q := q) (by rw [hsh_nw, List.getElem?_append_right (Nat.le_refl _)]; simp)]
      simp
    · have : (hsh (nw h q))[i]? = none := by
        rw [List.getElem?_eq_none_iff, hsh_nw, List.length_append]
        show (hsh h).length + 1 ≤ i
        omega
      have e2 : (wsG g (nw h q))[i]? = none := by simp [wsG, List.getElem?_mapIdx, this]
      rw [e2, eq_comm, List.getElem?_eq_none_iff]
      show 1 ≤ i - (hsh h).length
      omega
/-- default values by the reference tables -/
theorem fk_default : ∀ ci : Nat, ∀ q : vw_C, vwCl[ci]? = some q → ∀ j : Nat, j < q.2.2 → (parseFieldDescriptor (q.2.1 j).2.2.1).map defaultValue = some (if (fk ci).getD j false = true then Value.null else .int 0) := by
  intro ci q h
  match ci, h with
  | 0, h => cases h; decide +kernel
  | 1, h => cases h; decide +kernel
  | 2, h => cases h; decide +kernel
  | 3, h => cases h; decide +kernel
  | 4, h => cases h; decide +kernel
  | 5, h => cases h; decide +kernel
  | 6, h => cases h; decide +kernel
  | 7, h => cases h; decide +kernel
  | 8, h => cases h; decide +kernel
  | 9, h => cases h; decide +kernel
  | 10, h => cases h; decide +kernel
  | 11, h => cases h; decide +kernel
  | n + 12, h => simp [vwCl] at h
def Pca (g : aG) (av : List Value) (h : aH) : Array Value → State → Prop := va_Pc (av.map (cv g.1)) (fun U => Pw g h U.heap ∧ KK g U ∧ g.1 ≤ U.heap.size ∧ U.heap.size = g.1 + (hsh h).length)
theorem Pca_blind (g : aG) (av : List Value) (h : aH) : FrameBlind (Pca g av h) := by
  intro a U f mk q
  obtain ⟨q0, q1, q2, q3⟩ := q
  exact ⟨q0, q1, KK.moved (u := U) (U := U.calling f mk a) (Vm.Alike.refl U.vm) rfl q2, q3⟩
def Qca (g : aG) (h' : aH) : Array Value → State → Outcome → State → Prop := fun _ st o t => o = .returned none ∧ Pw g h' t.heap ∧ va_F (aA g) st t ∧ t.heap.size = g.1 + (hsh h').length
def EvA (l : Launch) (g : aG) (d : Nat) (y : MethodName) (b : ByteArray) (nL : Nat) (av : List Value) (h h' : aH) (mc ms : Nat) : Prop :=
  Met l y (.code y b nL none :: lw_good) (rmOf (d, mc, ms)) (Pca g av h) (Qca g h') mc ms (aA g)
def RqA (Γ : aC) (o : aH) : Prop := Γ.2.2.2 = MQ Γ.2.1.2.2.1 (Qca Γ.2.2.1 o) Γ.2.1.2.1 Γ.1.2.2.2.2 Γ.1.2.2.2.1.cells Γ.1.2.2.2.1.slots (aA Γ.2.2.1)
theorem Wg.sized {Γ : aC} {H : Heap} {locs : List Loc} {cs : Nat × Nat} {f : JFrame} (k : H.size ≤ Γ.1.2.2.2.2.heap.size + cs.1 → Wg Γ H locs cs f) : Wg Γ H locs cs f := fun T hT Y => k (by rw [← hT]; exact Y.heapSize) T hT Y
theorem Pw_low {g : aG} {h : aH} {H H0 : Heap} {locs : List Loc} {n0 k : Nat} (hP : Pw g h H) (hS : va_S (aA g) H0 H locs) (hA : H0.size = g.1 + n0) (hn : (hsh h).length = n0 + k) : g.1 + (hsh h).length ≤ H.size := by
  by_cases hk : (hsh h).length = 0
  · rw [hk]
    have := hS.1
    omega
  · have hl : (hsh h).length - 1 < (hsh h).length := by omega
    have hq : (hsh h)[(hsh h).length - 1]? = some (hsh h)[(hsh h).length - 1] := List.getElem?_eq_getElem hl
    have := (hP _ _ (wsG_get g h hq)).lt
    dsimp only at this
    omega
def NOk (own : String) (idx ci : Nat) : Prop := ∃ q : vw_C, vwCl[ci]? = some q ∧ Cond.classLink own idx q.1 ∈ lw_good ∧ Cond.instantiable q.1 q.2.2 ∈ lw_good ∧ Cond.initialized q.1 ∈ lw_good
def FLf (own : String) (idx ci j : Nat) (ty : FieldType) : Prop := ∃ q : vw_C, vwCl[ci]? = some q ∧ j < q.2.2 ∧ Cond.fieldLink own idx (q.2.1 j).1 (q.2.1 j).2.1 (q.2.1 j).2.2.1 ∈ lw_good ∧ (q.2.1 j).2.2.2 = true ∧ (q.2.1 j).1 = own ∧ parseFieldDescriptor (q.2.1 j).2.2.1 = some ty
def IOk (y : MethodName) (b : ByteArray) (nL : Nat) (na : Nat) : Prop := MOk y b nL none na ∧ Cond.instanceMethod y ∈ lw_good ∧ y.name = "<init>" ∧ nL ≤ 40
section MadeRows
variable {Γ : aC} {own : String} {cc : ByteArray} {nL : Nat} {ret : Option FieldType} {rm : Nat × Nat × Nat} {cs : Nat × Nat} {pc : Nat} {lv : List (Option Value)} {st : List Value} {h : aH}
theorem r_new (X : Cx Γ own cc nL ret rm) {n0 idx ci a N : Nat} {h' : aH} (hA : Γ.1.2.2.2.2.heap.size = Γ.2.2.1.1 + n0) (hn : (hsh h).length = n0 + cs.1) (d : decode cc pc = .ok (.new idx, 3)) (Nk : NOk own idx ci) (hN : (fk ci).length = N) (h1 : cs.1 + 1 ≤ rm.2.1) (h2 : cs.2 + N ≤ rm.2.2)
    (ea : some (hsh h).length = some a) (eh : some (nw h (ci, 0)) = some h') (k : Jd Γ (cs.1 + 1, cs.2 + N) (pc + 3) lv (.ref a :: st) h') : Jd Γ cs pc lv st h := by
  cases ea; cases eh; subst hN
  obtain ⟨q, hc, n1, n2, n3⟩ := Nk
  obtain ⟨o1, ⟨ty0, o2⟩, o3⟩ := clOk_all ci q hc
  obtain ⟨hx, hb, hml, hown, hts, hKK, hret, hlk, ⟨hRf, hRl, hRc, hRs⟩, hbase⟩ := id X
  have hfl := fk_len ci q hc
  intro H locs ls hP hS hls
  refine Wg.sized fun hz => ?_
  have hlow := Pw_low hP hS hA hn
  have hsz : H.size = Γ.2.2.1.1 + (hsh h).length := by omega
  have hKn := hKK.1.1 ci _ hc
  refine W.newcK (C := q.1) (n := q.2.2) hx hb hown (hts _ n1) (hts _ n2) (hts _ n3) rfl d (by omega) (by omega) hKn.2.1 hsz fun H1 kC hkC e1 z1 o1' => ?_
  have hk : ∀ (k : Nat) (x : Nat × va_E), (wsG Γ.2.2.1 h)[k]? = some x → H1[x.1]? = H[x.1]? := fun k x hx => o1' x.1 (by have := (hP k x hx).lt; omega)
  have hP1 : Pw Γ.2.2.1 (nw h (ci, 0)) H1 := by
    unfold Pw
    rw [wsG_nw]
    refine (hP.kept hk).app (fun k x hx => ?_)
    have hz : k < 1 := (List.getElem?_eq_some_iff.mp hx).1
    rw [show k = 0 by omega] at hx
    cases hx
    rw [cellE_obj _ _ _ (vwCl_lt hc)]
    refine ⟨_, hc, (u_born ty0 hts o1 hKn hkC e1 o2).to fun j hj => ?_⟩
    have hdv := fk_default ci q hc j hj
    rw [o2 j hj] at hdv
    have hdv := Option.some.inj hdv
    have hj' : j < (fk ci).length := by omega
    have ht : (fk ci)[j]? = some ((fk ci).getD j false) := by rw [List.getD_eq_getElem?_getD, List.getElem?_eq_getElem hj']; rfl
    have hf := flds_get Γ.2.2.1.1 (nw h (ci, 0)) (hsh h).length ci j ht
    show defaultValue (ty0 j) = (flds _ _ _ _).getD j .null
    rw [List.getD_eq_getElem?_getD, hf, hdv]
    have e3 : hI (nw h (ci, 0)) (hsh h).length j = 0 := by
      show va_up h.2.1 h.1.length (fun _ => 0) h.1.length j = 0
      simp [va_up]
    have e4 : hR (nw h (ci, 0)) (hsh h).length j = none := by
      show va_up h.2.2.2 h.1.length (fun _ => none) h.1.length j = none
      simp [va_up]
    by_cases hb' : (fk ci).getD j false = true <;> simp [fldV, e3, e4, hb', cvo, va_rf]
  have hS1 : va_S (aA Γ.2.2.1) Γ.1.2.2.2.2.heap H1 locs := ⟨by have := hS.1; omega, fun x g1 g2 => (o1' x (by have := hS.1; omega)).trans (hS.2.1 x g1 g2), hS.2.2⟩
  have := k H1 locs ls hP1 hS1 hls
  rw [hfl] at this
  exact this
theorem r_newa (X : Cx Γ own cc nL ret rm) {n0 a N kd : Nat} {x : Int32} {at0 : ArrayType} {h' : aH} (hA : Γ.1.2.2.2.2.heap.size = Γ.2.2.1.1 + n0) (hn : (hsh h).length = n0 + cs.1) (d : decode cc pc = .ok (.newarray at0, 2)) (harr : Cond.arrayClass (newarray.typeOf at0) ∈ lw_good)
    (hkd : kd = 15 ∧ at0 = .long ∨ kd = 14 ∧ at0 = .int ∨ kd = 12 ∧ at0 = .byte ∨ kd = 13 ∧ at0 = .char ∨ kd = 16 ∧ at0 = .boolean) (hx0 : ¬ x < 0) (hN : x.toNatClampNeg = N) (hbytes : N * componentBytes (newarray.typeOf at0) ≤ 536870912) (h1 : cs.1 + 1 ≤ rm.2.1) (h2 : cs.2 + N ≤ rm.2.2)
    (ea : some (hsh h).length = some a) (eh : some (nw h (kd, N)) = some h') (k : Jd Γ (cs.1 + 1, cs.2 + N) (pc + 2) lv (.ref a :: st) h') : Jd Γ cs pc lv (.int x :: st) h := by
  cases ea; cases eh
  obtain ⟨hx, hb, hml, hown, hts, hKK, hret, hlk, ⟨hRf, hRl, hRc, hRs⟩, hbase⟩ := id X
  intro H locs ls hP hS hls
  refine Wg.sized fun hz => ?_
  have hlow := Pw_low hP hS hA hn
  have hsz : H.size = Γ.2.2.1.1 + (hsh h).length := by omega
  refine va_newaK hx hb (hts _ harr) rfl d rfl hx0 hN hbytes (by omega) (by omega) hsz fun H1 cA e1 z1 o1' hAr hNm => ?_
  have hk : ∀ (k : Nat) (x : Nat × va_E), (wsG Γ.2.2.1 h)[k]? = some x → H1[x.1]? = H[x.1]? := fun k x hx => o1' x.1 (by have := (hP k x hx).lt; omega)
  have e3 : hI (nw h (kd, N)) (hsh h).length = fun _ => 0 := by
    funext j
    show va_up h.2.1 h.1.length (fun _ => 0) h.1.length j = 0
    simp [va_up]
  have e5 : hJ (nw h (kd, N)) (hsh h).length = fun _ => 0 := by
    funext j
    show va_up h.2.2.1 h.1.length (fun _ => 0) h.1.length j = 0
    simp [va_up]
  have hP1 : Pw Γ.2.2.1 (nw h (kd, N)) H1 := by
    unfold Pw
    rw [wsG_nw]
    refine (hP.kept hk).app (fun k x hx => ?_)
    have hz : k < 1 := (List.getElem?_eq_some_iff.mp hx).1
    rw [show k = 0 by omega] at hx
    cases hx
    rcases hkd with ⟨rfl, rfl⟩ | ⟨rfl, rfl⟩ | ⟨rfl, rfl⟩ | ⟨rfl, rfl⟩ | ⟨rfl, rfl⟩
    · rw [cellE_j, e5]
      have hc : cA = Γ.2.2.1.2.2 15 := Option.some.inj (hNm.symm.trans (hKK.1.2 3 _ rfl).2)
      rw [← hc]; exact e1
    · rw [cellE_i _ _ _ _ _ (by decide) (by decide) (by decide), e3]
      have hc : cA = Γ.2.2.1.2.2 14 := Option.some.inj (hNm.symm.trans (hKK.1.2 2 _ rfl).2)
      rw [← hc]; exact e1
    · rw [cellE_i _ _ _ _ _ (by decide) (by decide) (by decide), e3]
      have hc : cA = Γ.2.2.1.2.2 12 := Option.some.inj (hNm.symm.trans (hKK.1.2 0 _ rfl).2)
      rw [← hc]; exact e1
    · rw [cellE_i _ _ _ _ _ (by decide) (by decide) (by decide), e3]
      have hc : cA = Γ.2.2.1.2.2 13 := Option.some.inj (hNm.symm.trans (hKK.1.2 1 _ rfl).2)
      rw [← hc]; exact e1
    · rw [cellE_i _ _ _ _ _ (by decide) (by decide) (by decide), e3]
      have hc : cA = Γ.2.2.1.2.2 16 := Option.some.inj (hNm.symm.trans (hKK.1.2 4 _ rfl).2)
      rw [← hc]; exact e1
  have hS1 : va_S (aA Γ.2.2.1) Γ.1.2.2.2.2.heap H1 locs := ⟨by have := hS.1; omega, fun x g1 g2 => (o1' x (by have := hS.1; omega)).trans (hS.2.1 x g1 g2), hS.2.2⟩
  exact k H1 locs ls hP1 hS1 hls
end MadeRows
