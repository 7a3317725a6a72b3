/-! fields, arrays, returns, calls: rows over the abstract heap -/
def inb (i : Int32) (n : Nat) : Bool := decide (¬ (i < 0 ∨ n ≤ i.toNatClampNeg))
theorem inb_in {i : Int32} {n : Nat} (h : inb i n = true) : vp_in i n := by
  unfold vp_in
  exact of_decide_eq_true h
/-- the cell a is of kind ci -/
def ck (h : aH) (a ci : Nat) : Option Unit := match (hsh h)[a]? with
  | some q => if q.1 = ci then some () else none
  | none => none
theorem ck_inv {h : aH} {a ci : Nat} {u : Unit} (e : ck h a ci = some u) : ∃ n, (hsh h)[a]? = some (ci, n) := by
  unfold ck at e
  split at e
  · rename_i q hq
    split at e
    · rename_i hc
      exact ⟨q.2, by rw [hq, ← hc]⟩
    · cases e
  · cases e
/-- an array of kind kd with the place i -/
def ca (h : aH) (a kd : Nat) (i : Int32) : Option Unit := match (hsh h)[a]? with
  | some q => if q.1 = kd ∧ inb i q.2 = true then some () else none
  | none => none
theorem ca_inv {h : aH} {a kd : Nat} {i : Int32} {u : Unit} (e : ca h a kd i = some u) : ∃ n, (hsh h)[a]? = some (kd, n) ∧ vp_in i n := by
  unfold ca at e
  split at e
  · rename_i q hq
    split at e
    · rename_i hc
      exact ⟨q.2, by rw [hq, ← hc.1], inb_in hc.2⟩
    · cases e
  · cases e
def gI (h : aH) (a ci j : Nat) : Option Int32 := (ck h a ci).map (fun _ => hI h a j)
def gR (h : aH) (a ci j : Nat) : Option Nat := (ck h a ci).bind (fun _ => hR h a j)
def pI (h : aH) (a ci j : Nat) (x : Int32) : Option aH := (ck h a ci).map (fun _ => sI h a j x)
def pR (h : aH) (a ci j : Nat) (x : Nat) : Option aH := (ck h a ci).map (fun _ => sR h a j (some x))
def bz (x : Int32) : Option Int32 := if x = 0 ∨ x = 1 then some x else none
def pZ (h : aH) (a ci j : Nat) (x : Int32) : Option aH := (ck h a ci).bind (fun _ => (bz x).map (fun y => sI h a j y))
def aI (h : aH) (a kd : Nat) (i : Int32) : Option Int32 := (ca h a kd i).map (fun _ => hI h a i.toNatClampNeg)
def aJ (h : aH) (a : Nat) (i : Int32) : Option Int64 := (ca h a 15 i).map (fun _ => hJ h a i.toNatClampNeg)
def aR (h : aH) (a : Nat) (i : Int32) : Option Nat := (ca h a 17 i).bind (fun _ => hR h a i.toNatClampNeg)
def wI (h : aH) (a : Nat) (i x : Int32) : Option aH := (ca h a 14 i).map (fun _ => sI h a i.toNatClampNeg x)
def wB (h : aH) (a : Nat) (i x : Int32) : Option aH := (ca h a 12 i).map (fun _ => sI h a i.toNatClampNeg (vp_nar .byte x))
def wC (h : aH) (a : Nat) (i x : Int32) : Option aH := (ca h a 13 i).map (fun _ => sI h a i.toNatClampNeg (vp_nar .char x))
def wZ (h : aH) (a : Nat) (i x : Int32) : Option aH := (ca h a 16 i).map (fun _ => sI h a i.toNatClampNeg (vp_nar .boolean x))
def wJ (h : aH) (a : Nat) (i : Int32) (x : Int64) : Option aH := (ca h a 15 i).map (fun _ => sJ h a i.toNatClampNeg x)
def wR (h : aH) (a : Nat) (i : Int32) (x : Nat) : Option aH := (ca h a 17 i).bind (fun _ => (ck h x 6).map (fun _ => sR h a i.toNatClampNeg (some x)))
def al (h : aH) (a : Nat) : Option Int32 := match (hsh h)[a]? with
  | some q => if 12 ≤ q.1 ∧ q.1 ≤ 17 then some (Int32.ofNat q.2) else none
  | none => none
def cpI (h : aH) (a : Nat) (sp : Int32) (b : Nat) (dp n : Int32) : Option aH := match (hsh h)[a]?, (hsh h)[b]? with
  | some q, some r => if q.1 = 14 ∧ r.1 = 14 ∧ ¬ sp < 0 ∧ ¬ dp < 0 ∧ ¬ n < 0 ∧ sp.toNatClampNeg + n.toNatClampNeg ≤ q.2 ∧ dp.toNatClampNeg + n.toNatClampNeg ≤ r.2 then some (rI h b (va_cpy (hI h a) (hI h b) sp.toNatClampNeg dp.toNatClampNeg n.toNatClampNeg)) else none
  | _, _ => none
/-- a field's link: class ci, place j -/
def FL (own : String) (idx ci j : Nat) : Prop := ∃ q : vw_C, vwCl[ci]? = some q ∧ j < q.2.2 ∧ Cond.fieldLink own idx (q.2.1 j).1 (q.2.1 j).2.1 (q.2.1 j).2.2.1 ∈ lw_good
def FLp (own : String) (idx ci j : Nat) (ty : FieldType) : Prop := ∃ q : vw_C, vwCl[ci]? = some q ∧ j < q.2.2 ∧ Cond.fieldLink own idx (q.2.1 j).1 (q.2.1 j).2.1 (q.2.1 j).2.2.1 ∈ lw_good ∧ (q.2.1 j).2.2.2 = false ∧ parseFieldDescriptor (q.2.1 j).2.2.1 = some ty
theorem vwCl_lt {ci : Nat} {q : vw_C} (h : vwCl[ci]? = some q) : ci < 12 := by
  have := (List.getElem?_eq_some_iff.mp h).1
  simpa [vwCl] using this
theorem cellE_obj (g : aG) (h : aH) (k : Nat) {ci n : Nat} (hc : ci < 12) : cellE g h k (ci, n) = .inr (ci, flds g.1 h k ci) := by simp [cellE, hc]
theorem cellE_i (g : aG) (h : aH) (k : Nat) (kd n : Nat) (h1 : 12 ≤ kd) (h2 : kd ≠ 15) (h3 : kd ≠ 17) : cellE g h k (kd, n) = .inl (g.2.2 kd, n, .inl (hI h k)) := by
  have : ¬ kd < 12 := by omega
  simp [cellE, this, h2, h3]
theorem cellE_j (g : aG) (h : aH) (k : Nat) (n : Nat) : cellE g h k (15, n) = .inl (g.2.2 15, n, .inr (.inl (hJ h k))) := by simp [cellE]
theorem cellE_r (g : aG) (h : aH) (k : Nat) (n : Nat) : cellE g h k (17, n) = .inl (g.2.2 17, n, .inr (.inr (.inr (.inr (fun j => cvo g.1 (hR h k j)))))) := by simp [cellE]
theorem fk_len : ∀ ci : Nat, ∀ q : vw_C, vwCl[ci]? = some q → (fk ci).length = q.2.2 := by
  intro ci q h
  match ci, h with
  | 0, h => cases h; rfl
  | 1, h => cases h; rfl
  | 2, h => cases h; rfl
  | 3, h => cases h; rfl
  | 4, h => cases h; rfl
  | 5, h => cases h; rfl
  | 6, h => cases h; rfl
  | 7, h => cases h; rfl
  | 8, h => cases h; rfl
  | 9, h => cases h; rfl
  | 10, h => cases h; rfl
  | 11, h => cases h; rfl
  | n + 12, h => simp [vwCl] at h
section HeapRows
variable {Γ : aC} {own : String} {cc : ByteArray} {nL : Nat} {ret : Option FieldType} {rm : Nat × Nat × Nat} {cs : Nat × Nat} {pc : Nat} {lv : List (Option Value)} {st : List Value} {h : aH}
theorem r_getI (X : Cx Γ own cc nL ret rm) {idx ci j a : Nat} {x : Int32} (d : decode cc pc = .ok (.getfield idx, 3)) (F : FL own idx ci j) (hb : (fk ci)[j]? = some false) (hx : gI h a ci j = some x) (k : Jd Γ cs (pc + 3) lv (.int x :: st) h) : Jd Γ cs pc lv (.ref a :: st) h := by
  obtain ⟨q, hc, hj, hl⟩ := F
  obtain ⟨u, hu, rfl⟩ := Option.map_eq_some_iff.mp hx
  obtain ⟨n, hn⟩ := ck_inv hu
  intro H locs ls hP hS hls
  refine va_get (C := q.1) (T := q.2.1) (N := q.2.2) X.1 X.2.1 X.2.2.2.2.1 (clOk_all ci q hc).1 X.2.2.2.1 X.2.2.2.2.2.1.1 hP a (fs := flds Γ.2.2.1.1 h a ci) ?_ hc j hj (X.2.2.2.2.1 _ hl) (fun _ h => h) (v := .int (hI h a j)) ?_ d (k H locs ls hP hS hls)
  · rw [wsG_get _ _ hn, cellE_obj _ _ _ (vwCl_lt hc)]
  · rw [flds_get _ _ _ _ _ hb]; rfl
theorem r_getR (X : Cx Γ own cc nL ret rm) {idx ci j a : Nat} {x : Nat} (d : decode cc pc = .ok (.getfield idx, 3)) (F : FL own idx ci j) (hb : (fk ci)[j]? = some true) (hx : gR h a ci j = some x) (k : Jd Γ cs (pc + 3) lv (.ref x :: st) h) : Jd Γ cs pc lv (.ref a :: st) h := by
  obtain ⟨q, hc, hj, hl⟩ := F
  obtain ⟨u, hu, hx⟩ := Option.bind_eq_some_iff.mp hx
  obtain ⟨n, hn⟩ := ck_inv hu
  intro H locs ls hP hS hls
  refine va_get (C := q.1) (T := q.2.1) (N := q.2.2) X.1 X.2.1 X.2.2.2.2.1 (clOk_all ci q hc).1 X.2.2.2.1 X.2.2.2.2.2.1.1 hP a (fs := flds Γ.2.2.1.1 h a ci) ?_ hc j hj (X.2.2.2.2.1 _ hl) (fun _ h => h) (v := .ref (Γ.2.2.1.1 + x)) ?_ d (k H locs ls hP hS hls)
  · rw [wsG_get _ _ hn, cellE_obj _ _ _ (vwCl_lt hc)]
  · rw [flds_get _ _ _ _ _ hb]; simp [fldV, hx, cvo, va_rf]
theorem r_putv (X : Cx Γ own cc nL ret rm) {idx ci j a : Nat} {v : Value} {ty : FieldType} {n : Nat} {h' : aH} (d : decode cc pc = .ok (.putfield idx, 3)) (F : FLp own idx ci j ty) (hn : (hsh h)[a]? = some (ci, n)) (hnv : narrow ty (cv Γ.2.2.1.1 v) = cv Γ.2.2.1.1 v) (hf : fits ty (cv Γ.2.2.1.1 v) = true)
    (h1 : hsh h' = hsh h) (h2 : (flds Γ.2.2.1.1 h a ci).set j (cv Γ.2.2.1.1 v) = flds Γ.2.2.1.1 h' a ci) (h3 : ∀ (k' : Nat) (q' : Nat × Nat), k' ≠ a → (hsh h)[k']? = some q' → cellE Γ.2.2.1 h' k' q' = cellE Γ.2.2.1 h k' q')
    (k : Jd Γ cs (pc + 3) lv st h') : Jd Γ cs pc lv (v :: .ref a :: st) h := by
  obtain ⟨q, hc, hj, hl, hfin, hty⟩ := F
  obtain ⟨o1, ⟨ty0, o2⟩, o3⟩ := clOk_all ci q hc
  intro H locs ls hP hS hls
  refine va_put (C := q.1) (T := q.2.1) (N := q.2.2) X.1 X.2.1 X.2.2.2.2.1 o1 ty0 o2 o3 X.2.2.2.1 X.2.2.2.2.2.1.1 hP (wsG_D _ _) hS a (fs := flds Γ.2.2.1.1 h a ci) ?_ hc j hj (X.2.2.2.2.1 _ hl) (fun _ h => h) hfin hty hnv hf ?_ d ?_
  · rw [wsG_get _ _ hn, cellE_obj _ _ _ (vwCl_lt hc)]
  · rw [flds_len, fk_len ci q hc]; exact hj
  · intro H1 locs1 g1 g2 g3
    rw [h2] at g1
    have e := wsG_set Γ.2.2.1 h h' hn h1 h3
    rw [cellE_obj _ _ _ (vwCl_lt hc)] at e
    rw [e] at g1
    exact k H1 locs1 ls g1 g3 hls
theorem r_putI (X : Cx Γ own cc nL ret rm) {idx ci j a : Nat} {x : Int32} {h' : aH} (d : decode cc pc = .ok (.putfield idx, 3)) (F : FLp own idx ci j .int) (hb : (fk ci)[j]? = some false) (hx : pI h a ci j x = some h') (k : Jd Γ cs (pc + 3) lv st h') : Jd Γ cs pc lv (.int x :: .ref a :: st) h := by
  obtain ⟨u, hu, rfl⟩ := Option.map_eq_some_iff.mp hx
  obtain ⟨n, hn⟩ := ck_inv hu
  exact r_putv (h' := sI h a j x) X d F hn rfl rfl rfl (flds_sI _ _ _ _ _ _ hb) (fun k' q' hk _ => cellE_rI _ _ _ _ q' hk) k
theorem r_putZ (X : Cx Γ own cc nL ret rm) {idx ci j a : Nat} {x : Int32} {h' : aH} (d : decode cc pc = .ok (.putfield idx, 3)) (F : FLp own idx ci j .boolean) (hb : (fk ci)[j]? = some false) (hx : pZ h a ci j x = some h') (k : Jd Γ cs (pc + 3) lv st h') : Jd Γ cs pc lv (.int x :: .ref a :: st) h := by
  obtain ⟨u, hu, hx⟩ := Option.bind_eq_some_iff.mp hx
  obtain ⟨y, hy, rfl⟩ := Option.map_eq_some_iff.mp hx
  obtain ⟨n, hn⟩ := ck_inv hu
  unfold bz at hy
  split at hy
  · rename_i h01
    cases hy
    refine r_putv (h' := sI h a j x) X d F hn ?_ ?_ rfl (flds_sI _ _ _ _ _ _ hb) (fun k' q' hk _ => cellE_rI _ _ _ _ q' hk) k
    · rcases h01 with rfl | rfl <;> rfl
    · rcases h01 with rfl | rfl <;> rfl
  · cases hy
theorem r_putR (X : Cx Γ own cc nL ret rm) {idx ci j a x : Nat} {ty : FieldType} {h' : aH} (d : decode cc pc = .ok (.putfield idx, 3)) (F : FLp own idx ci j ty) (hty : ∀ b : Nat, narrow ty (.ref b) = .ref b ∧ fits ty (.ref b) = true) (hb : (fk ci)[j]? = some true) (hx : pR h a ci j x = some h') (k : Jd Γ cs (pc + 3) lv st h') : Jd Γ cs pc lv (.ref x :: .ref a :: st) h := by
  obtain ⟨u, hu, rfl⟩ := Option.map_eq_some_iff.mp hx
  obtain ⟨n, hn⟩ := ck_inv hu
  exact r_putv (h' := sR h a j (some x)) X d F hn (hty _).1 (hty _).2 rfl (flds_sR _ _ _ _ _ (some x) hb) (fun k' q' hk _ => cellE_rR _ _ _ _ q' hk) k
theorem r_iald (X : Cx Γ own cc nL ret rm) {a : Nat} {i x : Int32} (d : decode cc pc = .ok (.iaload, 1)) (hx : aI h a 14 i = some x) (k : Jd Γ cs (pc + 1) lv (.int x :: st) h) : Jd Γ cs pc lv (.int i :: .ref a :: st) h := by
  obtain ⟨u, hu, rfl⟩ := Option.map_eq_some_iff.mp hx
  obtain ⟨n, hn, hin⟩ := ca_inv hu
  intro H locs ls hP hS hls
  exact va_iald X.1 X.2.1 X.2.2.2.2.2.1.1 hP a 2 (f := hI h a) (by rw [wsG_get _ _ hn, cellE_i _ _ _ _ _ (by decide) (by decide) (by decide)]) rfl hin d (k H locs ls hP hS hls)
theorem r_bald (X : Cx Γ own cc nL ret rm) {a : Nat} {i x : Int32} (d : decode cc pc = .ok (.baload, 1)) (hx : aI h a 12 i = some x) (k : Jd Γ cs (pc + 1) lv (.int x :: st) h) : Jd Γ cs pc lv (.int i :: .ref a :: st) h := by
  obtain ⟨u, hu, rfl⟩ := Option.map_eq_some_iff.mp hx
  obtain ⟨n, hn, hin⟩ := ca_inv hu
  intro H locs ls hP hS hls
  exact va_bald X.1 X.2.1 X.2.2.2.2.2.1.1 hP a 0 (f := hI h a) (by rw [wsG_get _ _ hn, cellE_i _ _ _ _ _ (by decide) (by decide) (by decide)]) rfl hin d (k H locs ls hP hS hls)
theorem r_zald (X : Cx Γ own cc nL ret rm) {a : Nat} {i x : Int32} (d : decode cc pc = .ok (.baload, 1)) (hx : aI h a 16 i = some x) (k : Jd Γ cs (pc + 1) lv (.int x :: st) h) : Jd Γ cs pc lv (.int i :: .ref a :: st) h := by
  obtain ⟨u, hu, rfl⟩ := Option.map_eq_some_iff.mp hx
  obtain ⟨n, hn, hin⟩ := ca_inv hu
  intro H locs ls hP hS hls
  exact va_zald X.1 X.2.1 X.2.2.2.2.2.1.1 hP a 4 (f := hI h a) (by rw [wsG_get _ _ hn, cellE_i _ _ _ _ _ (by decide) (by decide) (by decide)]) rfl hin d (k H locs ls hP hS hls)
theorem r_cald (X : Cx Γ own cc nL ret rm) {a : Nat} {i x : Int32} (d : decode cc pc = .ok (.caload, 1)) (hx : aI h a 13 i = some x) (k : Jd Γ cs (pc + 1) lv (.int x :: st) h) : Jd Γ cs pc lv (.int i :: .ref a :: st) h := by
  obtain ⟨u, hu, rfl⟩ := Option.map_eq_some_iff.mp hx
  obtain ⟨n, hn, hin⟩ := ca_inv hu
  intro H locs ls hP hS hls
  exact va_cald X.1 X.2.1 X.2.2.2.2.2.1.1 hP a 1 (f := hI h a) (by rw [wsG_get _ _ hn, cellE_i _ _ _ _ _ (by decide) (by decide) (by decide)]) rfl hin d (k H locs ls hP hS hls)
theorem r_lald (X : Cx Γ own cc nL ret rm) {a : Nat} {i : Int32} {x : Int64} (d : decode cc pc = .ok (.laload, 1)) (hx : aJ h a i = some x) (k : Jd Γ cs (pc + 1) lv (.long x :: st) h) : Jd Γ cs pc lv (.int i :: .ref a :: st) h := by
  obtain ⟨u, hu, rfl⟩ := Option.map_eq_some_iff.mp hx
  obtain ⟨n, hn, hin⟩ := ca_inv hu
  intro H locs ls hP hS hls
  exact va_lald X.1 X.2.1 X.2.2.2.2.2.1.1 hP a 3 (f := hJ h a) (by rw [wsG_get _ _ hn, cellE_j]) rfl hin d (k H locs ls hP hS hls)
theorem r_aald (X : Cx Γ own cc nL ret rm) {a : Nat} {i : Int32} {x : Nat} (d : decode cc pc = .ok (.aaload, 1)) (hx : aR h a i = some x) (k : Jd Γ cs (pc + 1) lv (.ref x :: st) h) : Jd Γ cs pc lv (.int i :: .ref a :: st) h := by
  obtain ⟨u, hu, hx⟩ := Option.bind_eq_some_iff.mp hx
  obtain ⟨n, hn, hin⟩ := ca_inv hu
  intro H locs ls hP hS hls
  refine va_aldq X.1 X.2.1 X.2.2.2.2.2.1.1 hP a 5 (f := fun j => cvo Γ.2.2.1.1 (hR h a j)) (by rw [wsG_get _ _ hn, cellE_r]) rfl hin d ?_
  have e : va_rf (cvo Γ.2.2.1.1 (hR h a i.toNatClampNeg)) = cv Γ.2.2.1.1 (.ref x) := by rw [hx]; rfl
  show Wg Γ H locs cs (F0 Γ.2.1.1 (pc + 1) ls (va_rf (cvo Γ.2.2.1.1 (hR h a i.toNatClampNeg)) :: List.map (cv Γ.2.2.1.1) st))
  rw [e]
  exact k H locs ls hP hS hls
theorem r_iast (X : Cx Γ own cc nL ret rm) {a : Nat} {i x : Int32} {h' : aH} (d : decode cc pc = .ok (.iastore, 1)) (hx : wI h a i x = some h') (k : Jd Γ cs (pc + 1) lv st h') : Jd Γ cs pc lv (.int x :: .int i :: .ref a :: st) h := by
  obtain ⟨u, hu, rfl⟩ := Option.map_eq_some_iff.mp hx
  obtain ⟨n, hn, hin⟩ := ca_inv hu
  intro H locs ls hP hS hls
  refine va_iast X.1 X.2.1 X.2.2.2.2.2.1.1 hP (wsG_D _ _) hS a 2 (f := hI h a) (by rw [wsG_get _ _ hn, cellE_i _ _ _ _ _ (by decide) (by decide) (by decide)]) rfl hin d ?_
  intro H1 locs1 g1 g2 g3
  have e := wsG_set Γ.2.2.1 h (sI h a i.toNatClampNeg x) hn rfl (fun k' q' hk _ => cellE_rI _ _ _ _ q' hk)
  rw [cellE_i _ _ _ _ _ (by decide) (by decide) (by decide)] at e
  have e2 : hI (sI h a i.toNatClampNeg x) a = upd (hI h a) i.toNatClampNeg x := by
    funext j; rw [hI_sI]; simp [upd]
  rw [e2] at e
  rw [e] at g1
  exact k H1 locs1 ls g1 g3 hls
theorem r_bast (X : Cx Γ own cc nL ret rm) {a : Nat} {i x : Int32} {h' : aH} (d : decode cc pc = .ok (.bastore, 1)) (hx : wB h a i x = some h') (k : Jd Γ cs (pc + 1) lv st h') : Jd Γ cs pc lv (.int x :: .int i :: .ref a :: st) h := by
  obtain ⟨u, hu, rfl⟩ := Option.map_eq_some_iff.mp hx
  obtain ⟨n, hn, hin⟩ := ca_inv hu
  intro H locs ls hP hS hls
  refine va_bast X.1 X.2.1 X.2.2.2.2.2.1.1 hP (wsG_D _ _) hS a 0 (f := hI h a) (by rw [wsG_get _ _ hn, cellE_i _ _ _ _ _ (by decide) (by decide) (by decide)]) rfl hin d ?_
  intro H1 locs1 g1 g2 g3
  have e := wsG_set Γ.2.2.1 h (sI h a i.toNatClampNeg (vp_nar .byte x)) hn rfl (fun k' q' hk _ => cellE_rI _ _ _ _ q' hk)
  rw [cellE_i _ _ _ _ _ (by decide) (by decide) (by decide)] at e
  have e2 : hI (sI h a i.toNatClampNeg (vp_nar .byte x)) a = upd (hI h a) i.toNatClampNeg (vp_nar .byte x) := by
    funext j; rw [hI_sI]; simp [upd]
  rw [e2] at e
  rw [e] at g1
  exact k H1 locs1 ls g1 g3 hls
theorem r_zast (X : Cx Γ own cc nL ret rm) {a : Nat} {i x : Int32} {h' : aH} (d : decode cc pc = .ok (.bastore, 1)) (hx : wZ h a i x = some h') (k : Jd Γ cs (pc + 1) lv st h') : Jd Γ cs pc lv (.int x :: .int i :: .ref a :: st) h := by
  obtain ⟨u, hu, rfl⟩ := Option.map_eq_some_iff.mp hx
  obtain ⟨n, hn, hin⟩ := ca_inv hu
  intro H locs ls hP hS hls
  refine va_zast X.1 X.2.1 X.2.2.2.2.2.1.1 hP (wsG_D _ _) hS a 4 (f := hI h a) (by rw [wsG_get _ _ hn, cellE_i _ _ _ _ _ (by decide) (by decide) (by decide)]) rfl hin d ?_
  intro H1 locs1 g1 g2 g3
  have e := wsG_set Γ.2.2.1 h (sI h a i.toNatClampNeg (vp_nar .boolean x)) hn rfl (fun k' q' hk _ => cellE_rI _ _ _ _ q' hk)
  rw [cellE_i _ _ _ _ _ (by decide) (by decide) (by decide)] at e
  have e2 : hI (sI h a i.toNatClampNeg (vp_nar .boolean x)) a = upd (hI h a) i.toNatClampNeg (vp_nar .boolean x) := by
    funext j; rw [hI_sI]; simp [upd]
  rw [e2] at e
  rw [e] at g1
  exact k H1 locs1 ls g1 g3 hls
theorem r_cast (X : Cx Γ own cc nL ret rm) {a : Nat} {i x : Int32} {h' : aH} (d : decode cc pc = .ok (.castore, 1)) (hx : wC h a i x = some h') (k : Jd Γ cs (pc + 1) lv st h') : Jd Γ cs pc lv (.int x :: .int i :: .ref a :: st) h := by
  obtain ⟨u, hu, rfl⟩ := Option.map_eq_some_iff.mp hx
  obtain ⟨n, hn, hin⟩ := ca_inv hu
  intro H locs ls hP hS hls
  refine va_cast X.1 X.2.1 X.2.2.2.2.2.1.1 hP (wsG_D _ _) hS a 1 (f := hI h a) (by rw [wsG_get _ _ hn, cellE_i _ _ _ _ _ (by decide) (by decide) (by decide)]) rfl hin d ?_
  intro H1 locs1 g1 g2 g3
  have e := wsG_set Γ.2.2.1 h (sI h a i.toNatClampNeg (vp_nar .char x)) hn rfl (fun k' q' hk _ => cellE_rI _ _ _ _ q' hk)
  rw [cellE_i _ _ _ _ _ (by decide) (by decide) (by decide)] at e
  have e2 : hI (sI h a i.toNatClampNeg (vp_nar .char x)) a = upd (hI h a) i.toNatClampNeg (vp_nar .char x) := by
    funext j; rw [hI_sI]; simp [upd]
  rw [e2] at e
  rw [e] at g1
  exact k H1 locs1 ls g1 g3 hls
theorem r_last (X : Cx Γ own cc nL ret rm) {a : Nat} {i : Int32} {x : Int64} {h' : aH} (d : decode cc pc = .ok (.lastore, 1)) (hx : wJ h a i x = some h') (k : Jd Γ cs (pc + 1) lv st h') : Jd Γ cs pc lv (.long x :: .int i :: .ref a :: st) h := by
  obtain ⟨u, hu, rfl⟩ := Option.map_eq_some_iff.mp hx
  obtain ⟨n, hn, hin⟩ := ca_inv hu
  intro H locs ls hP hS hls
  refine va_last X.1 X.2.1 X.2.2.2.2.2.1.1 hP (wsG_D _ _) hS a 3 (f := hJ h a) (by rw [wsG_get _ _ hn, cellE_j]) rfl hin d ?_
  intro H1 locs1 g1 g2 g3
  have e := wsG_set Γ.2.2.1 h (sJ h a i.toNatClampNeg x) hn rfl (fun k' q' hk _ => cellE_rJ _ _ _ _ q' hk)
  rw [cellE_j] at e
  have e2 : hJ (sJ h a i.toNatClampNeg x) a = vp_updL (hJ h a) i.toNatClampNeg x := by
    funext j; rw [hJ_sJ]; simp [vp_updL]
  rw [e2] at e
  rw [e] at g1
  exact k H1 locs1 ls g1 g3 hls
theorem r_alen (X : Cx Γ own cc nL ret rm) {a : Nat} {x : Int32} (d : decode cc pc = .ok (.arraylength, 1)) (hx : al h a = some x) (k : Jd Γ cs (pc + 1) lv (.int x :: st) h) : Jd Γ cs pc lv (.ref a :: st) h := by
  unfold al at hx
  split at hx
  · rename_i q hq
    split at hx
    · rename_i hk
      cases hx
      obtain ⟨kd, n⟩ := q
      intro H locs ls hP hS hls
      have hg := wsG_get Γ.2.2.1 h hq
      by_cases h15 : kd = 15
      · subst h15
        rw [cellE_j] at hg
        exact va_alen X.1 X.2.1 X.2.2.2.2.2.1.1 hP a 3 hg rfl rfl d (k H locs ls hP hS hls)
      by_cases h17 : kd = 17
      · subst h17
        rw [cellE_r] at hg
        exact va_alen X.1 X.2.1 X.2.2.2.2.2.1.1 hP a 5 hg rfl rfl d (k H locs ls hP hS hls)
      rw [cellE_i _ _ _ _ _ hk.1 h15 h17] at hg
      rcases (show kd = 12 ∨ kd = 13 ∨ kd = 14 ∨ kd = 16 by have := hk.1; have := hk.2; dsimp only at *; omega) with rfl | rfl | rfl | rfl
      · exact va_alen X.1 X.2.1 X.2.2.2.2.2.1.1 hP a 0 hg rfl rfl d (k H locs ls hP hS hls)
      · exact va_alen X.1 X.2.1 X.2.2.2.2.2.1.1 hP a 1 hg rfl rfl d (k H locs ls hP hS hls)
      · exact va_alen X.1 X.2.1 X.2.2.2.2.2.1.1 hP a 2 hg rfl rfl d (k H locs ls hP hS hls)
      · exact va_alen X.1 X.2.1 X.2.2.2.2.2.1.1 hP a 4 hg rfl rfl d (k H locs ls hP hS hls)
    · cases hx
  · cases hx
theorem r_iret (X : Cx Γ own cc nL (some .int) rm) {x : Int32} (d : decode cc pc = .ok (.ireturn, 1)) (hq : Rq Γ (some (.int x), h)) : Jd Γ (rm.2.1, rm.2.2) pc lv [.int x] h := by
  intro H locs ls hP hS hls
  obtain ⟨-, -, -, -, -, -, hr, hlk, hR, -⟩ := id X
  obtain ⟨-, -, e1, e2⟩ := hR
  unfold Wg
  rw [hq, e1, e2]
  exact W.iret X.1 X.2.1 hr (fun t ht _ => ⟨rfl, by rw [ht]; exact hP, hS.F ht⟩) (fun q hq => hS.2.2 q hq) d hlk
theorem r_zret (X : Cx Γ own cc nL (some .boolean) rm) {x : Int32} (d : decode cc pc = .ok (.ireturn, 1)) (hx : x = 0 ∨ x = 1) (hq : Rq Γ (some (.int x), h)) : Jd Γ (rm.2.1, rm.2.2) pc lv [.int x] h := by
  intro H locs ls hP hS hls
  obtain ⟨-, -, -, -, -, -, hr, hlk, hR, -⟩ := id X
  obtain ⟨-, -, e1, e2⟩ := hR
  unfold Wg
  rw [hq, e1, e2]
  exact W.zret X.1 X.2.1 hr (by rcases hx with rfl | rfl <;> rfl) (fun t ht _ => ⟨rfl, by rw [ht]; exact hP, hS.F ht⟩) (fun q hq => hS.2.2 q hq) d hlk
theorem r_lret (X : Cx Γ own cc nL (some .long) rm) {x : Int64} (d : decode cc pc = .ok (.lreturn, 1)) (hq : Rq Γ (some (.long x), h)) : Jd Γ (rm.2.1, rm.2.2) pc lv [.long x] h := by
  intro H locs ls hP hS hls
  obtain ⟨-, -, -, -, -, -, hr, hlk, hR, -⟩ := id X
  obtain ⟨-, -, e1, e2⟩ := hR
  unfold Wg
  rw [hq, e1, e2]
  exact W.lret X.1 X.2.1 hr (fun t ht _ => ⟨rfl, by rw [ht]; exact hP, hS.F ht⟩) (fun q hq => hS.2.2 q hq) d hlk
theorem r_vret (X : Cx Γ own cc nL none rm) (d : decode cc pc = .ok (.return_, 1)) (hq : Rq Γ (none, h)) : Jd Γ (rm.2.1, rm.2.2) pc lv [] h := by
  intro H locs ls hP hS hls
  obtain ⟨-, -, -, -, -, -, hr, hlk, hR, -⟩ := id X
  obtain ⟨-, -, e1, e2⟩ := hR
  unfold Wg
  rw [hq, e1, e2]
  exact W.vret X.1 X.2.1 hr (fun t ht _ => ⟨rfl, by rw [ht]; exact hP, hS.F ht⟩) (fun q hq => hS.2.2 q hq) d hlk
end HeapRows
