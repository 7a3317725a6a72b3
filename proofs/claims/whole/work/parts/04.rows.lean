/-! the judgement Jd over an abstract heap, a row an instruction -/
abbrev aC : Type _ := (Program × Launch × Env × Room × State) × (MethodId × Array Value × List Frame × Method × Code) × aG × (State → Prop)
/-- what stands behind the method: its answer, its world, nothing else changed -/
def Qcg (g : aG) (q : Option Value × aH) : Array Value → State → Outcome → State → Prop := fun _ st o t => o = .returned (q.1.map (cv g.1)) ∧ Pw g q.2 t.heap ∧ va_F (aA g) st t
def Wg (Γ : aC) (H : Heap) (locs : List Loc) (cs : Nat × Nat) (f : JFrame) : Prop :=
  W Γ.1.1 Γ.1.2.1 Γ.1.2.2.1 Γ.1.2.2.2.1 Γ.1.2.2.2.2 Γ.2.1.1 Γ.2.1.2.1 Γ.2.1.2.2.1 Γ.2.1.2.2.2.1 Γ.2.1.2.2.2.2 H locs cs.1 cs.2 Γ.2.2.2 f
/-- the walk is to end with this answer and heap -/
def Rq (Γ : aC) (q : Option Value × aH) : Prop := Γ.2.2.2 = MQ Γ.2.1.2.2.1 (Qcg Γ.2.2.1 q) Γ.2.1.2.1 Γ.1.2.2.2.2 Γ.1.2.2.2.1.cells Γ.1.2.2.2.1.slots (aA Γ.2.2.1)
def Jd (Γ : aC) (cs : Nat × Nat) (pc : Nat) (lv : List (Option Value)) (st : List Value) (h : aH) : Prop :=
  ∀ (H : Heap) (locs : List Loc) (ls : Array Slot), Pw Γ.2.2.1 h H → va_S (aA Γ.2.2.1) Γ.1.2.2.2.2.heap H locs → lv_is Γ.2.2.1.1 ls Γ.2.1.2.2.2.2.maxLocals lv →
    Wg Γ H locs cs (F0 Γ.2.1.1 pc ls (st.map (cv Γ.2.2.1.1)))
/-- the walk's standing facts: machine, code, class, words, the tables' numbers, what it returns -/
def rmOf (t : Nat × Nat × Nat) : Room := { frames := t.1, cells := t.2.1, slots := t.2.2, locals := 60 * t.1 }
def Cx (Γ : aC) (own : String) (cc : ByteArray) (nL : Nat) (ret : Option FieldType) (rm : Nat × Nat × Nat) : Prop :=
  Γ.1.1.tables.exec = Jvm.exec ∧ Γ.2.1.2.2.2.2.code = cc ∧ Γ.2.1.2.2.2.2.maxLocals = nL ∧ Γ.1.2.2.2.2.vm.findClass own = some Γ.2.1.1.cls ∧ (∀ w ∈ lw_good, w.before Γ.2.1.2.1 Γ.1.2.2.2.2 = true) ∧ KK Γ.2.2.1 Γ.1.2.2.2.2 ∧
  Γ.2.1.2.2.2.1.sig.returnType = ret ∧ Γ.2.1.2.2.2.1.locks = false ∧ (rm.1 ≤ Γ.1.2.2.2.1.frames ∧ 60 * rm.1 ≤ Γ.1.2.2.2.1.locals ∧ Γ.1.2.2.2.1.cells = rm.2.1 ∧ Γ.1.2.2.2.1.slots = rm.2.2) ∧ Γ.2.2.1.1 ≤ Γ.1.2.2.2.2.heap.size
section Rows
variable {Γ : aC} {own : String} {cc : ByteArray} {nL : Nat} {ret : Option FieldType} {rm : Nat × Nat × Nat} {cs : Nat × Nat} {pc : Nat} {lv : List (Option Value)} {st : List Value} {h : aH}
theorem r_iconst (X : Cx Γ own cc nL ret rm) {n : Int} (v : Int32) (d : decode cc pc = .ok (.iconst n, 1)) (hv : Int32.ofInt n = v) (k : Jd Γ cs (pc + 1) lv (.int v :: st) h) : Jd Γ cs pc lv st h := fun H locs ls hP hS hl => lv_iconst X.1 X.2.1 d hv (k H locs ls hP hS hl)
theorem r_bipush (X : Cx Γ own cc nL ret rm) {n : Int} (v : Int32) (d : decode cc pc = .ok (.bipush n, 2)) (hv : (Int8.ofInt n).toInt32 = v) (k : Jd Γ cs (pc + 2) lv (.int v :: st) h) : Jd Γ cs pc lv st h := fun H locs ls hP hS hl => lv_bipush X.1 X.2.1 d hv (k H locs ls hP hS hl)
theorem r_sipush (X : Cx Γ own cc nL ret rm) {n : Int} (v : Int32) (d : decode cc pc = .ok (.sipush n, 3)) (hv : (Int16.ofInt n).toInt32 = v) (k : Jd Γ cs (pc + 3) lv (.int v :: st) h) : Jd Γ cs pc lv st h := fun H locs ls hP hS hl => lv_sipush X.1 X.2.1 d hv (k H locs ls hP hS hl)
theorem r_lconst (X : Cx Γ own cc nL ret rm) {n : Fin 2} (v : Int64) (d : decode cc pc = .ok (.lconst n, 1)) (hv : Int64.ofNat (n : Nat) = v) (k : Jd Γ cs (pc + 1) lv (.long v :: st) h) : Jd Γ cs pc lv st h := fun H locs ls hP hS hl => lv_lconst X.1 X.2.1 d hv (k H locs ls hP hS hl)
theorem r_iload_n (X : Cx Γ own cc nL ret rm) {i : Fin 4} {x : Int32} (d : decode cc pc = .ok (.iload_n i, 1)) (hv : lv[(i : Nat)]? = some (some (.int x))) (k : Jd Γ cs (pc + 1) lv (.int x :: st) h) : Jd Γ cs pc lv st h := fun H locs ls hP hS hl => lv_iload_n X.1 X.2.1 d rfl (hl.at hv) (k H locs ls hP hS hl)
theorem r_iload (X : Cx Γ own cc nL ret rm) {i : Nat} {x : Int32} (d : decode cc pc = .ok (.iload i, 2)) (hv : lv[i]? = some (some (.int x))) (k : Jd Γ cs (pc + 2) lv (.int x :: st) h) : Jd Γ cs pc lv st h := fun H locs ls hP hS hl => lv_iload X.1 X.2.1 d (hl.at hv) (k H locs ls hP hS hl)
theorem r_lload_n (X : Cx Γ own cc nL ret rm) {i : Fin 4} {x : Int64} (d : decode cc pc = .ok (.lload_n i, 1)) (hv : lv[(i : Nat)]? = some (some (.long x))) (k : Jd Γ cs (pc + 1) lv (.long x :: st) h) : Jd Γ cs pc lv st h := fun H locs ls hP hS hl => lv_lload_n X.1 X.2.1 d rfl (hl.at hv) (k H locs ls hP hS hl)
theorem r_lload (X : Cx Γ own cc nL ret rm) {i : Nat} {x : Int64} (d : decode cc pc = .ok (.lload i, 2)) (hv : lv[i]? = some (some (.long x))) (k : Jd Γ cs (pc + 2) lv (.long x :: st) h) : Jd Γ cs pc lv st h := fun H locs ls hP hS hl => lv_lload X.1 X.2.1 d (hl.at hv) (k H locs ls hP hS hl)
theorem r_aload_n (X : Cx Γ own cc nL ret rm) {i : Fin 4} {x : Nat} (d : decode cc pc = .ok (.aload_n i, 1)) (hv : lv[(i : Nat)]? = some (some (.ref x))) (k : Jd Γ cs (pc + 1) lv (.ref x :: st) h) : Jd Γ cs pc lv st h := fun H locs ls hP hS hl => lv_aload_n X.1 X.2.1 d rfl (hl.at hv) (k H locs ls hP hS hl)
theorem r_aload (X : Cx Γ own cc nL ret rm) {i : Nat} {x : Nat} (d : decode cc pc = .ok (.aload i, 2)) (hv : lv[i]? = some (some (.ref x))) (k : Jd Γ cs (pc + 2) lv (.ref x :: st) h) : Jd Γ cs pc lv st h := fun H locs ls hP hS hl => lv_aload X.1 X.2.1 d (hl.at hv) (k H locs ls hP hS hl)
theorem r_istore_n (X : Cx Γ own cc nL ret rm) {i : Fin 4} {x : Int32} (lv' : List (Option Value)) (d : decode cc pc = .ok (.istore_n i, 1)) (hi : (i : Nat) < nL) (hv : lvs lv i (.int x) = lv') (k : Jd Γ cs (pc + 1) lv' st h) : Jd Γ cs pc lv (.int x :: st) h := by
  subst hv
  exact fun H locs ls hP hS hl => lv_istore_n X.1 X.2.1 d rfl hl (by rw [X.2.2.1]; exact hi) rfl (fun ls' hl' => k H locs ls' hP hS (lv_is.set1 hl'))
theorem r_istore (X : Cx Γ own cc nL ret rm) {i : Nat} {x : Int32} (lv' : List (Option Value)) (d : decode cc pc = .ok (.istore i, 2)) (hi : i < nL) (hv : lvs lv i (.int x) = lv') (k : Jd Γ cs (pc + 2) lv' st h) : Jd Γ cs pc lv (.int x :: st) h := by
  subst hv
  exact fun H locs ls hP hS hl => lv_istore X.1 X.2.1 d hl (by rw [X.2.2.1]; exact hi) rfl (fun ls' hl' => k H locs ls' hP hS (lv_is.set1 hl'))
theorem r_astore_n (X : Cx Γ own cc nL ret rm) {i : Fin 4} {x : Nat} (lv' : List (Option Value)) (d : decode cc pc = .ok (.astore_n i, 1)) (hi : (i : Nat) < nL) (hv : lvs lv i (.ref x) = lv') (k : Jd Γ cs (pc + 1) lv' st h) : Jd Γ cs pc lv (.ref x :: st) h := by
  subst hv
  exact fun H locs ls hP hS hl => lv_astore_n X.1 X.2.1 d rfl hl (by rw [X.2.2.1]; exact hi) rfl (fun ls' hl' => k H locs ls' hP hS (lv_is.set1 (v := .ref x) hl'))
theorem r_astore (X : Cx Γ own cc nL ret rm) {i : Nat} {x : Nat} (lv' : List (Option Value)) (d : decode cc pc = .ok (.astore i, 2)) (hi : i < nL) (hv : lvs lv i (.ref x) = lv') (k : Jd Γ cs (pc + 2) lv' st h) : Jd Γ cs pc lv (.ref x :: st) h := by
  subst hv
  exact fun H locs ls hP hS hl => lv_astore X.1 X.2.1 d hl (by rw [X.2.2.1]; exact hi) rfl (fun ls' hl' => k H locs ls' hP hS (lv_is.set1 (v := .ref x) hl'))
theorem r_lstore_n (X : Cx Γ own cc nL ret rm) {i : Fin 4} {x : Int64} (lv' : List (Option Value)) (d : decode cc pc = .ok (.lstore_n i, 1)) (hi : (i : Nat) + 1 < nL) (hv : lvs2 lv i (.long x) = lv') (k : Jd Γ cs (pc + 1) lv' st h) : Jd Γ cs pc lv (.long x :: st) h := by
  subst hv
  exact fun H locs ls hP hS hl => lv_lstore_n X.1 X.2.1 d rfl hl (by rw [X.2.2.1]; exact hi) rfl (fun ls' hl' => k H locs ls' hP hS (lv_is.set2 hl'))
theorem r_lstore (X : Cx Γ own cc nL ret rm) {i : Nat} {x : Int64} (lv' : List (Option Value)) (d : decode cc pc = .ok (.lstore i, 2)) (hi : i + 1 < nL) (hv : lvs2 lv i (.long x) = lv') (k : Jd Γ cs (pc + 2) lv' st h) : Jd Γ cs pc lv (.long x :: st) h := by
  subst hv
  exact fun H locs ls hP hS hl => lv_lstore X.1 X.2.1 d hl (by rw [X.2.2.1]; exact hi) rfl (fun ls' hl' => k H locs ls' hP hS (lv_is.set2 hl'))
theorem r_iinc (X : Cx Γ own cc nL ret rm) {i : Nat} {n : Int} {x : Int32} (lv' : List (Option Value)) (d : decode cc pc = .ok (.iinc i n, 3)) (hi : i < nL) (hx : lv[i]? = some (some (.int x))) (hv : lvs lv i (.int (x + Int32.ofInt n)) = lv') (k : Jd Γ cs (pc + 3) lv' st h) : Jd Γ cs pc lv st h := by
  subst hv
  intro H locs ls hP hS hl
  obtain ⟨j, hj⟩ := List.getElem?_of_mem (lvp_mem (b := Γ.2.2.1.1).mpr ⟨_, hx, rfl⟩)
  exact lv_iinc X.1 X.2.1 d hl hj rfl (by rw [X.2.2.1]; exact hi) rfl (fun ls' hl' => k H locs ls' hP hS (lv_is.set1 (v := .int (x + Int32.ofInt n)) hl'))
theorem r_iadd (X : Cx Γ own cc nL ret rm) {x y : Int32} (d : decode cc pc = .ok (.iadd, 1)) (k : Jd Γ cs (pc + 1) lv (.int (x + y) :: st) h) : Jd Γ cs pc lv (.int y :: .int x :: st) h := fun H locs ls hP hS hl => lv_iadd X.1 X.2.1 d (k H locs ls hP hS hl)
theorem r_isub (X : Cx Γ own cc nL ret rm) {x y : Int32} (d : decode cc pc = .ok (.isub, 1)) (k : Jd Γ cs (pc + 1) lv (.int (x - y) :: st) h) : Jd Γ cs pc lv (.int y :: .int x :: st) h := fun H locs ls hP hS hl => lv_isub X.1 X.2.1 d (k H locs ls hP hS hl)
theorem r_imul (X : Cx Γ own cc nL ret rm) {x y : Int32} (d : decode cc pc = .ok (.imul, 1)) (k : Jd Γ cs (pc + 1) lv (.int (x * y) :: st) h) : Jd Γ cs pc lv (.int y :: .int x :: st) h := fun H locs ls hP hS hl => lv_imul X.1 X.2.1 d (k H locs ls hP hS hl)
theorem r_iand (X : Cx Γ own cc nL ret rm) {x y : Int32} (d : decode cc pc = .ok (.iand, 1)) (k : Jd Γ cs (pc + 1) lv (.int (x &&& y) :: st) h) : Jd Γ cs pc lv (.int y :: .int x :: st) h := fun H locs ls hP hS hl => lv_iand X.1 X.2.1 d (k H locs ls hP hS hl)
theorem r_ior (X : Cx Γ own cc nL ret rm) {x y : Int32} (d : decode cc pc = .ok (.ior, 1)) (k : Jd Γ cs (pc + 1) lv (.int (x ||| y) :: st) h) : Jd Γ cs pc lv (.int y :: .int x :: st) h := fun H locs ls hP hS hl => lv_ior X.1 X.2.1 d (k H locs ls hP hS hl)
theorem r_ixor (X : Cx Γ own cc nL ret rm) {x y : Int32} (d : decode cc pc = .ok (.ixor, 1)) (k : Jd Γ cs (pc + 1) lv (.int (x ^^^ y) :: st) h) : Jd Γ cs pc lv (.int y :: .int x :: st) h := fun H locs ls hP hS hl => lv_ixor X.1 X.2.1 d (k H locs ls hP hS hl)
theorem r_ineg (X : Cx Γ own cc nL ret rm) {x : Int32} (d : decode cc pc = .ok (.ineg, 1)) (k : Jd Γ cs (pc + 1) lv (.int (-x) :: st) h) : Jd Γ cs pc lv (.int x :: st) h := fun H locs ls hP hS hl => lv_ineg X.1 X.2.1 d (k H locs ls hP hS hl)
def idv (x y : Int32) : Option Int32 := if y = 0 then none else some (x / y)
def irm (x y : Int32) : Option Int32 := if y = 0 then none else some (x - x / y * y)
def ldv (x y : Int64) : Option Int64 := if y = 0 then none else some (x / y)
def lrm (x y : Int64) : Option Int64 := if y = 0 then none else some (x - x / y * y)
theorem r_idiv (X : Cx Γ own cc nL ret rm) {x y z : Int32} (d : decode cc pc = .ok (.idiv, 1)) (hz : idv x y = some z) (k : Jd Γ cs (pc + 1) lv (.int z :: st) h) : Jd Γ cs pc lv (.int y :: .int x :: st) h := by
  unfold idv at hz
  split at hz
  · cases hz
  · rename_i hne
    cases hz
    exact fun H locs ls hP hS hl => lv_idiv X.1 X.2.1 d hne (k H locs ls hP hS hl)
theorem r_irem (X : Cx Γ own cc nL ret rm) {x y z : Int32} (d : decode cc pc = .ok (.irem, 1)) (hz : irm x y = some z) (k : Jd Γ cs (pc + 1) lv (.int z :: st) h) : Jd Γ cs pc lv (.int y :: .int x :: st) h := by
  unfold irm at hz
  split at hz
  · cases hz
  · rename_i hne
    cases hz
    exact fun H locs ls hP hS hl => lv_irem X.1 X.2.1 d hne (k H locs ls hP hS hl)
theorem r_ldiv (X : Cx Γ own cc nL ret rm) {x y z : Int64} (d : decode cc pc = .ok (.ldiv, 1)) (hz : ldv x y = some z) (k : Jd Γ cs (pc + 1) lv (.long z :: st) h) : Jd Γ cs pc lv (.long y :: .long x :: st) h := by
  unfold ldv at hz
  split at hz
  · cases hz
  · rename_i hne
    cases hz
    exact fun H locs ls hP hS hl => lv_ldiv X.1 X.2.1 d hne (k H locs ls hP hS hl)
theorem r_lrem (X : Cx Γ own cc nL ret rm) {x y z : Int64} (d : decode cc pc = .ok (.lrem, 1)) (hz : lrm x y = some z) (k : Jd Γ cs (pc + 1) lv (.long z :: st) h) : Jd Γ cs pc lv (.long y :: .long x :: st) h := by
  unfold lrm at hz
  split at hz
  · cases hz
  · rename_i hne
    cases hz
    exact fun H locs ls hP hS hl => lv_lrem X.1 X.2.1 d hne (k H locs ls hP hS hl)
theorem r_ladd (X : Cx Γ own cc nL ret rm) {x y : Int64} (d : decode cc pc = .ok (.ladd, 1)) (k : Jd Γ cs (pc + 1) lv (.long (x + y) :: st) h) : Jd Γ cs pc lv (.long y :: .long x :: st) h := fun H locs ls hP hS hl => lv_ladd X.1 X.2.1 d (k H locs ls hP hS hl)
theorem r_lsub (X : Cx Γ own cc nL ret rm) {x y : Int64} (d : decode cc pc = .ok (.lsub, 1)) (k : Jd Γ cs (pc + 1) lv (.long (x - y) :: st) h) : Jd Γ cs pc lv (.long y :: .long x :: st) h := fun H locs ls hP hS hl => lv_lsub X.1 X.2.1 d (k H locs ls hP hS hl)
theorem r_lmul (X : Cx Γ own cc nL ret rm) {x y : Int64} (d : decode cc pc = .ok (.lmul, 1)) (k : Jd Γ cs (pc + 1) lv (.long (x * y) :: st) h) : Jd Γ cs pc lv (.long y :: .long x :: st) h := fun H locs ls hP hS hl => lv_lmul X.1 X.2.1 d (k H locs ls hP hS hl)
theorem r_land (X : Cx Γ own cc nL ret rm) {x y : Int64} (d : decode cc pc = .ok (.land, 1)) (k : Jd Γ cs (pc + 1) lv (.long (x &&& y) :: st) h) : Jd Γ cs pc lv (.long y :: .long x :: st) h := fun H locs ls hP hS hl => lv_land X.1 X.2.1 d (k H locs ls hP hS hl)
theorem r_lor (X : Cx Γ own cc nL ret rm) {x y : Int64} (d : decode cc pc = .ok (.lor, 1)) (k : Jd Γ cs (pc + 1) lv (.long (x ||| y) :: st) h) : Jd Γ cs pc lv (.long y :: .long x :: st) h := fun H locs ls hP hS hl => lv_lor X.1 X.2.1 d (k H locs ls hP hS hl)
theorem r_ishl (X : Cx Γ own cc nL ret rm) {x y : Int32} (d : decode cc pc = .ok (.ishl, 1)) (k : Jd Γ cs (pc + 1) lv (.int (x <<< (y &&& 31)) :: st) h) : Jd Γ cs pc lv (.int y :: .int x :: st) h := fun H locs ls hP hS hl => lv_ishl X.1 X.2.1 d (k H locs ls hP hS hl)
theorem r_ishr (X : Cx Γ own cc nL ret rm) {x y : Int32} (d : decode cc pc = .ok (.ishr, 1)) (k : Jd Γ cs (pc + 1) lv (.int (x >>> (y &&& 31)) :: st) h) : Jd Γ cs pc lv (.int y :: .int x :: st) h := fun H locs ls hP hS hl => lv_ishr X.1 X.2.1 d (k H locs ls hP hS hl)
def ius (x y : Int32) : Int32 := (x.toUInt32 >>> (y.toUInt32 &&& Int32.toUInt32 31)).toInt32
def lus (x : Int64) (y : Int32) : Int64 := (x.toUInt64 >>> (y.toInt64.toUInt64 &&& Int64.toUInt64 63)).toInt64
def lsl (x : Int64) (y : Int32) : Int64 := x <<< (y.toInt64 &&& 63)
def lsr (x : Int64) (y : Int32) : Int64 := x >>> (y.toInt64 &&& 63)
def i2c (x : Int32) : Int32 := (x.toUInt32 % 65536).toInt32
theorem r_iushr (X : Cx Γ own cc nL ret rm) {x y : Int32} (d : decode cc pc = .ok (.iushr, 1)) (k : Jd Γ cs (pc + 1) lv (.int (ius x y) :: st) h) : Jd Γ cs pc lv (.int y :: .int x :: st) h := fun H locs ls hP hS hl => lv_iushr X.1 X.2.1 d rfl (k H locs ls hP hS hl)
theorem r_lushr (X : Cx Γ own cc nL ret rm) {x : Int64} {y : Int32} (d : decode cc pc = .ok (.lushr, 1)) (k : Jd Γ cs (pc + 1) lv (.long (lus x y) :: st) h) : Jd Γ cs pc lv (.int y :: .long x :: st) h := fun H locs ls hP hS hl => lv_lushr X.1 X.2.1 d rfl (k H locs ls hP hS hl)
theorem r_lshl (X : Cx Γ own cc nL ret rm) {x : Int64} {y : Int32} (d : decode cc pc = .ok (.lshl, 1)) (k : Jd Γ cs (pc + 1) lv (.long (lsl x y) :: st) h) : Jd Γ cs pc lv (.int y :: .long x :: st) h := fun H locs ls hP hS hl => lv_lshl X.1 X.2.1 d rfl (k H locs ls hP hS hl)
theorem r_lshr (X : Cx Γ own cc nL ret rm) {x : Int64} {y : Int32} (d : decode cc pc = .ok (.lshr, 1)) (k : Jd Γ cs (pc + 1) lv (.long (lsr x y) :: st) h) : Jd Γ cs pc lv (.int y :: .long x :: st) h := fun H locs ls hP hS hl => lv_lshr X.1 X.2.1 d rfl (k H locs ls hP hS hl)
theorem r_i2l (X : Cx Γ own cc nL ret rm) {x : Int32} (d : decode cc pc = .ok (.i2l, 1)) (k : Jd Γ cs (pc + 1) lv (.long x.toInt64 :: st) h) : Jd Γ cs pc lv (.int x :: st) h := fun H locs ls hP hS hl => lv_i2l X.1 X.2.1 d rfl (k H locs ls hP hS hl)
theorem r_l2i (X : Cx Γ own cc nL ret rm) {x : Int64} (d : decode cc pc = .ok (.l2i, 1)) (k : Jd Γ cs (pc + 1) lv (.int x.toInt32 :: st) h) : Jd Γ cs pc lv (.long x :: st) h := fun H locs ls hP hS hl => lv_l2i X.1 X.2.1 d rfl (k H locs ls hP hS hl)
theorem r_i2b (X : Cx Γ own cc nL ret rm) {x : Int32} (d : decode cc pc = .ok (.i2b, 1)) (k : Jd Γ cs (pc + 1) lv (.int x.toInt8.toInt32 :: st) h) : Jd Γ cs pc lv (.int x :: st) h := fun H locs ls hP hS hl => lv_i2b X.1 X.2.1 d rfl (k H locs ls hP hS hl)
theorem r_i2s (X : Cx Γ own cc nL ret rm) {x : Int32} (d : decode cc pc = .ok (.i2s, 1)) (k : Jd Γ cs (pc + 1) lv (.int x.toInt16.toInt32 :: st) h) : Jd Γ cs pc lv (.int x :: st) h := fun H locs ls hP hS hl => lv_i2s X.1 X.2.1 d rfl (k H locs ls hP hS hl)
theorem r_i2c (X : Cx Γ own cc nL ret rm) {x : Int32} (d : decode cc pc = .ok (.i2c, 1)) (k : Jd Γ cs (pc + 1) lv (.int (i2c x) :: st) h) : Jd Γ cs pc lv (.int x :: st) h := fun H locs ls hP hS hl => lv_i2c X.1 X.2.1 d rfl (k H locs ls hP hS hl)
theorem r_lcmp (X : Cx Γ own cc nL ret rm) {x y : Int64} (d : decode cc pc = .ok (.lcmp, 1)) (k : Jd Γ cs (pc + 1) lv (.int (lg_cmp x y) :: st) h) : Jd Γ cs pc lv (.long y :: .long x :: st) h := fun H locs ls hP hS hl => W.lcmp X.1 X.2.1 d (k H locs ls hP hS hl)
theorem r_dup (X : Cx Γ own cc nL ret rm) {v : Value} (d : decode cc pc = .ok (.dup, 1)) (hv : v.category = 1) (k : Jd Γ cs (pc + 1) lv (v :: v :: st) h) : Jd Γ cs pc lv (v :: st) h := fun H locs ls hP hS hl => lv_dup X.1 X.2.1 d (by rw [cv_cat]; exact hv) (k H locs ls hP hS hl)
theorem r_dup_x1 (X : Cx Γ own cc nL ret rm) {v w : Value} (d : decode cc pc = .ok (.dup_x1, 1)) (hv : v.category = 1) (hw : w.category = 1) (k : Jd Γ cs (pc + 1) lv (v :: w :: v :: st) h) : Jd Γ cs pc lv (v :: w :: st) h := fun H locs ls hP hS hl => lv_dup_x1 X.1 X.2.1 d (by rw [cv_cat]; exact hv) (by rw [cv_cat]; exact hw) (k H locs ls hP hS hl)
theorem r_dup2 (X : Cx Γ own cc nL ret rm) {v w : Value} (d : decode cc pc = .ok (.dup2, 1)) (hv : v.category = 1) (hw : w.category = 1) (k : Jd Γ cs (pc + 1) lv (v :: w :: v :: w :: st) h) : Jd Γ cs pc lv (v :: w :: st) h := fun H locs ls hP hS hl => lv_dup2_11 X.1 X.2.1 d (by rw [cv_cat]; exact hv) (by rw [cv_cat]; exact hw) (k H locs ls hP hS hl)
theorem r_pop (X : Cx Γ own cc nL ret rm) {v : Value} (d : decode cc pc = .ok (.pop, 1)) (hv : v.category = 1) (k : Jd Γ cs (pc + 1) lv st h) : Jd Γ cs pc lv (v :: st) h := fun H locs ls hP hS hl => lv_pop X.1 X.2.1 d (by rw [cv_cat]; exact hv) (k H locs ls hP hS hl)
theorem r_goto (X : Cx Γ own cc nL ret rm) {off : Int} (tgt : Nat) (d : decode cc pc = .ok (.goto off, 3)) (ht : (pc : Int) + off = (tgt : Int)) (k : Jd Γ cs tgt lv st h) : Jd Γ cs pc lv st h := fun H locs ls hP hS hl => lv_goto X.1 X.2.1 d ht (k H locs ls hP hS hl)
theorem r_if_eq (X : Cx Γ own cc nL ret rm) {off : Int} {x : Int32} (tgt : Nat) (d : decode cc pc = .ok (.ifCond .eq off, 3)) (ht : (pc : Int) + off = (tgt : Int)) (kt : x = 0 → Jd Γ cs tgt lv st h) (kf : ¬ x = 0 → Jd Γ cs (pc + 3) lv st h) : Jd Γ cs pc lv (.int x :: st) h := fun H locs ls hP hS hl => lv_if_eq X.1 X.2.1 d ht (fun q => kt q H locs ls hP hS hl) (fun q => kf q H locs ls hP hS hl)
theorem r_if_ne (X : Cx Γ own cc nL ret rm) {off : Int} {x : Int32} (tgt : Nat) (d : decode cc pc = .ok (.ifCond .ne off, 3)) (ht : (pc : Int) + off = (tgt : Int)) (kt : ¬ x = 0 → Jd Γ cs tgt lv st h) (kf : x = 0 → Jd Γ cs (pc + 3) lv st h) : Jd Γ cs pc lv (.int x :: st) h := fun H locs ls hP hS hl => lv_if_ne X.1 X.2.1 d ht (fun q => kt (by simpa using q) H locs ls hP hS hl) (fun q => kf (by simpa using q) H locs ls hP hS hl)
theorem r_if_lt (X : Cx Γ own cc nL ret rm) {off : Int} {x : Int32} (tgt : Nat) (d : decode cc pc = .ok (.ifCond .lt off, 3)) (ht : (pc : Int) + off = (tgt : Int)) (kt : x < 0 → Jd Γ cs tgt lv st h) (kf : ¬ x < 0 → Jd Γ cs (pc + 3) lv st h) : Jd Γ cs pc lv (.int x :: st) h := fun H locs ls hP hS hl => lv_if_lt X.1 X.2.1 d ht (fun q => kt (by simpa using q) H locs ls hP hS hl) (fun q => kf (by simpa using q) H locs ls hP hS hl)
theorem r_if_ge (X : Cx Γ own cc nL ret rm) {off : Int} {x : Int32} (tgt : Nat) (d : decode cc pc = .ok (.ifCond .ge off, 3)) (ht : (pc : Int) + off = (tgt : Int)) (kt : ¬ x < 0 → Jd Γ cs tgt lv st h) (kf : x < 0 → Jd Γ cs (pc + 3) lv st h) : Jd Γ cs pc lv (.int x :: st) h := fun H locs ls hP hS hl => lv_if_ge X.1 X.2.1 d ht (fun q => kt (by simpa using q) H locs ls hP hS hl) (fun q => kf (by simpa using q) H locs ls hP hS hl)
theorem r_if_gt (X : Cx Γ own cc nL ret rm) {off : Int} {x : Int32} (tgt : Nat) (d : decode cc pc = .ok (.ifCond .gt off, 3)) (ht : (pc : Int) + off = (tgt : Int)) (kt : ¬ x ≤ 0 → Jd Γ cs tgt lv st h) (kf : x ≤ 0 → Jd Γ cs (pc + 3) lv st h) : Jd Γ cs pc lv (.int x :: st) h := fun H locs ls hP hS hl => lv_if_gt X.1 X.2.1 d ht (fun q => kt (by simpa using q) H locs ls hP hS hl) (fun q => kf (by simpa using q) H locs ls hP hS hl)
theorem r_if_le (X : Cx Γ own cc nL ret rm) {off : Int} {x : Int32} (tgt : Nat) (d : decode cc pc = .ok (.ifCond .le off, 3)) (ht : (pc : Int) + off = (tgt : Int)) (kt : x ≤ 0 → Jd Γ cs tgt lv st h) (kf : ¬ x ≤ 0 → Jd Γ cs (pc + 3) lv st h) : Jd Γ cs pc lv (.int x :: st) h := fun H locs ls hP hS hl => lv_if_le X.1 X.2.1 d ht (fun q => kt (by simpa using q) H locs ls hP hS hl) (fun q => kf (by simpa using q) H locs ls hP hS hl)
theorem r_icmp_eq (X : Cx Γ own cc nL ret rm) {off : Int} {x y : Int32} (tgt : Nat) (d : decode cc pc = .ok (.if_icmp .eq off, 3)) (ht : (pc : Int) + off = (tgt : Int)) (kt : x = y → Jd Γ cs tgt lv st h) (kf : ¬ x = y → Jd Γ cs (pc + 3) lv st h) : Jd Γ cs pc lv (.int y :: .int x :: st) h := fun H locs ls hP hS hl => lv_icmp_eq X.1 X.2.1 d ht (fun q => kt q H locs ls hP hS hl) (fun q => kf q H locs ls hP hS hl)
theorem r_icmp_ne (X : Cx Γ own cc nL ret rm) {off : Int} {x y : Int32} (tgt : Nat) (d : decode cc pc = .ok (.if_icmp .ne off, 3)) (ht : (pc : Int) + off = (tgt : Int)) (kt : ¬ x = y → Jd Γ cs tgt lv st h) (kf : x = y → Jd Γ cs (pc + 3) lv st h) : Jd Γ cs pc lv (.int y :: .int x :: st) h := fun H locs ls hP hS hl => lv_icmp_ne X.1 X.2.1 d ht (fun q => kt (by simpa using q) H locs ls hP hS hl) (fun q => kf (by simpa using q) H locs ls hP hS hl)
theorem r_icmp_lt (X : Cx Γ own cc nL ret rm) {off : Int} {x y : Int32} (tgt : Nat) (d : decode cc pc = .ok (.if_icmp .lt off, 3)) (ht : (pc : Int) + off = (tgt : Int)) (kt : x < y → Jd Γ cs tgt lv st h) (kf : ¬ x < y → Jd Γ cs (pc + 3) lv st h) : Jd Γ cs pc lv (.int y :: .int x :: st) h := fun H locs ls hP hS hl => lv_icmp_lt X.1 X.2.1 d ht (fun q => kt (by simpa using q) H locs ls hP hS hl) (fun q => kf (by simpa using q) H locs ls hP hS hl)
theorem r_icmp_ge (X : Cx Γ own cc nL ret rm) {off : Int} {x y : Int32} (tgt : Nat) (d : decode cc pc = .ok (.if_icmp .ge off, 3)) (ht : (pc : Int) + off = (tgt : Int)) (kt : ¬ x < y → Jd Γ cs tgt lv st h) (kf : x < y → Jd Γ cs (pc + 3) lv st h) : Jd Γ cs pc lv (.int y :: .int x :: st) h := fun H locs ls hP hS hl => lv_icmp_ge X.1 X.2.1 d ht (fun q => kt (by simpa using q) H locs ls hP hS hl) (fun q => kf (by simpa using q) H locs ls hP hS hl)
theorem r_icmp_gt (X : Cx Γ own cc nL ret rm) {off : Int} {x y : Int32} (tgt : Nat) (d : decode cc pc = .ok (.if_icmp .gt off, 3)) (ht : (pc : Int) + off = (tgt : Int)) (kt : ¬ x ≤ y → Jd Γ cs tgt lv st h) (kf : x ≤ y → Jd Γ cs (pc + 3) lv st h) : Jd Γ cs pc lv (.int y :: .int x :: st) h := fun H locs ls hP hS hl => lv_icmp_gt X.1 X.2.1 d ht (fun q => kt (by simpa using q) H locs ls hP hS hl) (fun q => kf (by simpa using q) H locs ls hP hS hl)
theorem r_icmp_le (X : Cx Γ own cc nL ret rm) {off : Int} {x y : Int32} (tgt : Nat) (d : decode cc pc = .ok (.if_icmp .le off, 3)) (ht : (pc : Int) + off = (tgt : Int)) (kt : x ≤ y → Jd Γ cs tgt lv st h) (kf : ¬ x ≤ y → Jd Γ cs (pc + 3) lv st h) : Jd Γ cs pc lv (.int y :: .int x :: st) h := fun H locs ls hP hS hl => lv_icmp_le X.1 X.2.1 d ht (fun q => kt (by simpa using q) H locs ls hP hS hl) (fun q => kf (by simpa using q) H locs ls hP hS hl)
theorem r_ldc (X : Cx Γ own cc nL ret rm) {idx : Nat} (v : Int32) (d : decode cc pc = .ok (.ldc idx, 2)) (hc : Cond.constant own idx v ∈ lw_good) (k : Jd Γ cs (pc + 2) lv (.int v :: st) h) : Jd Γ cs pc lv st h := fun H locs ls hP hS hl => lv_ldc X.1 X.2.1 X.2.2.2.1 (X.2.2.2.2.1 _ hc) d (k H locs ls hP hS hl)
theorem r_ldcw (X : Cx Γ own cc nL ret rm) {idx : Nat} (v : Int32) (d : decode cc pc = .ok (.ldc_w idx, 3)) (hc : Cond.constant own idx v ∈ lw_good) (k : Jd Γ cs (pc + 3) lv (.int v :: st) h) : Jd Γ cs pc lv st h := fun H locs ls hP hS hl => lv_ldcw X.1 X.2.1 X.2.2.2.1 (X.2.2.2.2.1 _ hc) d (k H locs ls hP hS hl)
theorem r_ldc2 (X : Cx Γ own cc nL ret rm) {idx : Nat} (v : Int64) (d : decode cc pc = .ok (.ldc2_w idx, 3)) (hc : Cond.constantLong own idx v ∈ lw_good) (k : Jd Γ cs (pc + 3) lv (.long v :: st) h) : Jd Γ cs pc lv st h := fun H locs ls hP hS hl => lv_ldc2 X.1 X.2.1 X.2.2.2.1 (X.2.2.2.2.1 _ hc) d (k H locs ls hP hS hl)
theorem r_lookup (X : Cx Γ own cc nL ret rm) {dflt : Int} {ps : Array (Int × Int)} {len : Nat} {x : Int32} {off : Int} (tgt : Nat) (d : decode cc pc = .ok (.lookupswitch dflt ps, len)) (hp : (ps.toList.zip (ps.toList.drop 1)).all (fun (a, next) => a.1 < next.1) = true) (ho : Op.lookupswitch.offset ps.toList dflt x.toInt = off) (ht : (pc : Int) + off = (tgt : Int)) (k : Jd Γ cs tgt lv st h) : Jd Γ cs pc lv (.int x :: st) h := fun H locs ls hP hS hl => lv_lookup X.1 X.2.1 d hp ho ht (k H locs ls hP hS hl)
theorem r_tableOut (X : Cx Γ own cc nL ret rm) {dflt lo hi : Int} {offs : Array Int} {len : Nat} {x : Int32} (tgt : Nat) (d : decode cc pc = .ok (.tableswitch dflt lo hi offs, len)) (hx : x.toInt < lo ∨ hi < x.toInt) (ht : (pc : Int) + dflt = (tgt : Int)) (k : Jd Γ cs tgt lv st h) : Jd Γ cs pc lv (.int x :: st) h := fun H locs ls hP hS hl => lv_tableOut X.1 X.2.1 d hx ht (k H locs ls hP hS hl)
theorem r_tableIn (X : Cx Γ own cc nL ret rm) {dflt lo hi : Int} {offs : Array Int} {len : Nat} {x : Int32} {off : Int} (tgt : Nat) (d : decode cc pc = .ok (.tableswitch dflt lo hi offs, len)) (h1 : ¬ x.toInt < lo) (h2 : ¬ hi < x.toInt) (ho : offs[(x.toInt - lo).toNat]? = some off) (ht : (pc : Int) + off = (tgt : Int)) (k : Jd Γ cs tgt lv st h) : Jd Γ cs pc lv (.int x :: st) h := fun H locs ls hP hS hl => lv_tableIn X.1 X.2.1 d h1 h2 ho ht (k H locs ls hP hS hl)
end Rows
