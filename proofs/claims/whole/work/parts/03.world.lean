/-! the words that stay true under every warmer table; the heap of the two systems as functions; the world list that it stands for -/
def lw_good : List Cond := lw_tbl.filter goodWord
theorem lw_good_of {w : Cond} (h : w ∈ lw_tbl) (hg : goodWord w = true) : w ∈ lw_good := List.mem_filter.mpr ⟨h, hg⟩
theorem lw_good_in {ws : List Cond} (h : ∀ w ∈ ws, w ∈ lw_tbl) (hg : ws.all goodWord = true) : ∀ w ∈ ws, w ∈ lw_good := fun w hw => lw_good_of (h w hw) (List.all_eq_true.mp hg w hw)
theorem lw_good_good : GoodIn lw_good lw_good := fun w h => ⟨h, good_of_word (List.mem_filter.mp h).2⟩
theorem inG0 : ∀ w ∈ wsX00, w ∈ lw_good := lw_good_in inX0 (by decide +kernel)
theorem inG2 : ∀ w ∈ wsX20, w ∈ lw_good := lw_good_in inX2 (by decide +kernel)
theorem inG3 : ∀ w ∈ wsX30, w ∈ lw_good := lw_good_in inX3 (by decide +kernel)
theorem inG4 : ∀ w ∈ wsX40, w ∈ lw_good := lw_good_in inX4 (by decide +kernel)
theorem inG5 : ∀ w ∈ wsX50, w ∈ lw_good := lw_good_in inX5 (by decide +kernel)
theorem inG6 : ∀ w ∈ wsX60, w ∈ lw_good := lw_good_in inX6 (by decide +kernel)
theorem inG7 : ∀ w ∈ wsX70, w ∈ lw_good := lw_good_in inX7 (by decide +kernel)
theorem inG8 : ∀ w ∈ wsX80, w ∈ lw_good := lw_good_in inX8 (by decide +kernel)
theorem inG9 : ∀ w ∈ wsX90, w ∈ lw_good := lw_good_in inX9 (by decide +kernel)
theorem inG10 : ∀ w ∈ wsX100, w ∈ lw_good := lw_good_in inX10 (by decide +kernel)
theorem inG11 : ∀ w ∈ wsX110, w ∈ lw_good := lw_good_in inX11 (by decide +kernel)
theorem inG12 : ∀ w ∈ wsX120, w ∈ lw_good := lw_good_in inX12 (by decide +kernel)
/-- what the field rows want of a class: its words, types and names -/
def ClOk (q : vw_C) : Prop := (∀ w ∈ u_ws q.1 q.2.1 q.2.2, w ∈ lw_good) ∧ (∃ ty : Nat → FieldType, ∀ k, k < q.2.2 → parseFieldDescriptor (q.2.1 k).2.2.1 = some (ty k)) ∧ (∀ a, a < q.2.2 → ∀ b, b < q.2.2 → a ≠ b → (q.2.1 a).2.1 ≠ (q.2.1 b).2.1)
theorem clOk_all (ci : Nat) (q : vw_C) (h : vwCl[ci]? = some q) : ClOk q := by
  match ci, h with
  | 0, h => cases h; exact ⟨inG0, ⟨_, tyX0_ok⟩, nmX0⟩
  | 1, h => cases h; exact ⟨inG2, ⟨_, tyX2_ok⟩, nmX2⟩
  | 2, h => cases h; exact ⟨inG3, ⟨_, tyX3_ok⟩, nmX3⟩
  | 3, h => cases h; exact ⟨inG4, ⟨_, tyX4_ok⟩, nmX4⟩
  | 4, h => cases h; exact ⟨inG5, ⟨_, tyX5_ok⟩, nmX5⟩
  | 5, h => cases h; exact ⟨inG6, ⟨_, tyX6_ok⟩, nmX6⟩
  | 6, h => cases h; exact ⟨inG7, ⟨_, tyX7_ok⟩, nmX7⟩
  | 7, h => cases h; exact ⟨inG8, ⟨_, tyX8_ok⟩, nmX8⟩
  | 8, h => cases h; exact ⟨inG9, ⟨_, tyX9_ok⟩, nmX9⟩
  | 9, h => cases h; exact ⟨inG10, ⟨_, tyX10_ok⟩, nmX10⟩
  | 10, h => cases h; exact ⟨inG11, ⟨_, tyX11_ok⟩, nmX11⟩
  | 11, h => cases h; exact ⟨inG12, ⟨_, tyX12_ok⟩, nmX12⟩
  | n + 12, h => simp [vwCl] at h
def fk : Nat → List Bool
  | 0 => [false, false, false, true, true, true, true, true, false, false]
  | 1 => [true, true, true, false]
  | 2 => [true, false]
  | 3 => [true, true, false]
  | 4 => [true, true, false, false, false, false, false, false]
  | 5 => [true, true, true, false]
  | 6 => [true, true, false, false, false, false]
  | 7 => [true, false]
  | 8 => [true, true, false]
  | 9 => [true, true]
  | 10 => [true, true, true, true, true, true, true, true, true, true, true, true, true, true, true, true]
  | 11 => [true, false, false, false, true, true, true, true, false, true, false, false, true, false, false, false, false, true, true, true, false, false, true, true, false, true, true, false, false, true, true, true, true, true, true, true, true, false, true, true, true, true, false, false, true, false, false, true, true, true]
  | _ => []
/-- the heap: (kind, length) of each cell; its ints, longs, references by cell and place. Kinds: 0 .. 11 the classes of vwCl, 12 byte[], 13 char[], 14 int[], 15 long[], 16 boolean[], 17 State[] -/
abbrev aH : Type := List (Nat × Nat) × (Nat → Nat → Int32) × (Nat → Nat → Int64) × (Nat → Nat → Option Nat)
def hsh (h : aH) : List (Nat × Nat) := h.1
def hI (h : aH) : Nat → Nat → Int32 := h.2.1
def hJ (h : aH) : Nat → Nat → Int64 := h.2.2.1
def hR (h : aH) : Nat → Nat → Option Nat := h.2.2.2
/-- a cell's row of ints, longs, references set anew -/
def rI (h : aH) (a : Nat) (f : Nat → Int32) : aH := (h.1, va_up h.2.1 a f, h.2.2.1, h.2.2.2)
def rJ (h : aH) (a : Nat) (f : Nat → Int64) : aH := (h.1, h.2.1, va_up h.2.2.1 a f, h.2.2.2)
def rR (h : aH) (a : Nat) (f : Nat → Option Nat) : aH := (h.1, h.2.1, h.2.2.1, va_up h.2.2.2 a f)
def sI (h : aH) (a j : Nat) (x : Int32) : aH := rI h a (va_up (hI h a) j x)
def sJ (h : aH) (a j : Nat) (x : Int64) : aH := rJ h a (va_up (hJ h a) j x)
def sR (h : aH) (a j : Nat) (x : Option Nat) : aH := rR h a (va_up (hR h a) j x)
theorem hsh_rI (h : aH) (a f) : hsh (rI h a f) = hsh h := rfl
theorem hsh_rJ (h : aH) (a f) : hsh (rJ h a f) = hsh h := rfl
theorem hsh_rR (h : aH) (a f) : hsh (rR h a f) = hsh h := rfl
theorem hsh_sI (h : aH) (a j x) : hsh (sI h a j x) = hsh h := rfl
theorem hsh_sJ (h : aH) (a j x) : hsh (sJ h a j x) = hsh h := rfl
theorem hsh_sR (h : aH) (a j x) : hsh (sR h a j x) = hsh h := rfl
theorem hI_rI (h : aH) (a f b) : hI (rI h a f) b = if b = a then f else hI h b := rfl
theorem hJ_rJ (h : aH) (a f b) : hJ (rJ h a f) b = if b = a then f else hJ h b := rfl
theorem hR_rR (h : aH) (a f b) : hR (rR h a f) b = if b = a then f else hR h b := rfl
theorem hI_rJ (h : aH) (a f) : hI (rJ h a f) = hI h := rfl
theorem hI_rR (h : aH) (a f) : hI (rR h a f) = hI h := rfl
theorem hJ_rI (h : aH) (a f) : hJ (rI h a f) = hJ h := rfl
theorem hJ_rR (h : aH) (a f) : hJ (rR h a f) = hJ h := rfl
theorem hR_rI (h : aH) (a f) : hR (rI h a f) = hR h := rfl
theorem hR_rJ (h : aH) (a f) : hR (rJ h a f) = hR h := rfl
theorem hI_sJ (h : aH) (a j x) : hI (sJ h a j x) = hI h := rfl
theorem hI_sR (h : aH) (a j x) : hI (sR h a j x) = hI h := rfl
theorem hJ_sI (h : aH) (a j x) : hJ (sI h a j x) = hJ h := rfl
theorem hJ_sR (h : aH) (a j x) : hJ (sR h a j x) = hJ h := rfl
theorem hR_sI (h : aH) (a j x) : hR (sI h a j x) = hR h := rfl
theorem hR_sJ (h : aH) (a j x) : hR (sJ h a j x) = hR h := rfl
theorem hI_sI (h : aH) (a j x b i) : hI (sI h a j x) b i = if b = a ∧ i = j then x else hI h b i := by
  show (va_up (hI h) a (va_up (hI h a) j x)) b i = _
  unfold va_up
  by_cases h1 : b = a
  · subst h1
    by_cases h2 : i = j <;> simp [h2]
  · simp [h1]
theorem hJ_sJ (h : aH) (a j x b i) : hJ (sJ h a j x) b i = if b = a ∧ i = j then x else hJ h b i := by
  show (va_up (hJ h) a (va_up (hJ h a) j x)) b i = _
  unfold va_up
  by_cases h1 : b = a
  · subst h1
    by_cases h2 : i = j <;> simp [h2]
  · simp [h1]
theorem hR_sR (h : aH) (a j x b i) : hR (sR h a j x) b i = if b = a ∧ i = j then x else hR h b i := by
  show (va_up (hR h) a (va_up (hR h a) j x)) b i = _
  unfold va_up
  by_cases h1 : b = a
  · subst h1
    by_cases h2 : i = j <;> simp [h2]
  · simp [h1]
/-- where the cells lie: the base, the classes' numbers and slots, the array classes' numbers by kind -/
abbrev aG : Type := Nat × va_G × (Nat → ClassId)
def gtys (g : aG) : List (ClassId × FieldType) := [(g.2.2 12, .byte), (g.2.2 13, .char), (g.2.2 14, .int), (g.2.2 15, .long), (g.2.2 16, .boolean), (g.2.2 17, .object "LockLetters$State")]
def cvo (b : Nat) (r : Option Nat) : Option Nat := r.map (b + ·)
def cv (b : Nat) : Value → Value
  | .ref k => .ref (b + k)
  | .retAddr t => .ref t
  | v => v
def fldV (b : Nat) (h : aH) (k j : Nat) (t : Bool) : Value := if t = true then va_rf (cvo b (hR h k j)) else .int (hI h k j)
def flds (b : Nat) (h : aH) (k kd : Nat) : List Value := (fk kd).mapIdx (fun j t => fldV b h k j t)
def cellE (g : aG) (h : aH) (k : Nat) (q : Nat × Nat) : va_E :=
  if q.1 < 12 then .inr (q.1, flds g.1 h k q.1)
  else if q.1 = 15 then .inl (g.2.2 15, q.2, .inr (.inl (hJ h k)))
  else if q.1 = 17 then .inl (g.2.2 17, q.2, .inr (.inr (.inr (.inr (fun j => cvo g.1 (hR h k j))))))
  else .inl (g.2.2 q.1, q.2, .inl (hI h k))
def wsG (g : aG) (h : aH) : va_W := (hsh h).mapIdx (fun k q => (g.1 + k, cellE g h k q))
theorem wsG_get (g : aG) (h : aH) {k : Nat} {q : Nat × Nat} (hk : (hsh h)[k]? = some q) : (wsG g h)[k]? = some (g.1 + k, cellE g h k q) := by
  simp [wsG, List.getElem?_mapIdx, hk]
theorem wsG_inv (g : aG) (h : aH) {k : Nat} {x : Nat × va_E} (hk : (wsG g h)[k]? = some x) : ∃ q, (hsh h)[k]? = some q ∧ x = (g.1 + k, cellE g h k q) := by
  simp only [wsG, List.getElem?_mapIdx, Option.map_eq_some_iff] at hk
  obtain ⟨q, h1, h2⟩ := hk
  exact ⟨q, h1, h2.symm⟩
def aA (g : aG) : Nat → Prop := fun q => g.1 ≤ q
theorem wsG_D (g : aG) (h : aH) : va_D (aA g) (wsG g h) := by
  refine ⟨fun i j x y hi hj hxy => ?_, fun k x hk => ?_⟩
  · obtain ⟨q, -, rfl⟩ := wsG_inv g h hi
    obtain ⟨q', -, rfl⟩ := wsG_inv g h hj
    have : g.1 + i = g.1 + j := hxy
    omega
  · obtain ⟨q, -, rfl⟩ := wsG_inv g h hk
    exact Nat.le_add_right _ _
theorem flds_get (b : Nat) (h : aH) (k kd j : Nat) {t : Bool} (ht : (fk kd)[j]? = some t) : (flds b h k kd)[j]? = some (fldV b h k j t) := by
  simp [flds, List.getElem?_mapIdx, ht]
theorem flds_len (b : Nat) (h : aH) (k kd : Nat) : (flds b h k kd).length = (fk kd).length := by simp [flds]
/-- a world list with one cell anew -/
theorem wsG_set (g : aG) (h h' : aH) {k : Nat} {q : Nat × Nat} (hk : (hsh h)[k]? = some q) (hsh' : hsh h' = hsh h) (ho : ∀ (k' : Nat) (q' : Nat × Nat), k' ≠ k → (hsh h)[k']? = some q' → cellE g h' k' q' = cellE g h k' q') :
    (wsG g h).set k (g.1 + k, cellE g h' k q) = wsG g h' := by
  apply List.ext_getElem?
  intro i
  have hl : k < (wsG g h).length := by
    have := (List.getElem?_eq_some_iff.mp hk).1
    simpa [wsG] using this
  by_cases hi : i = k
  · subst hi
    rw [List.getElem?_set_self hl, wsG_get g h' (by rw [hsh']; exact hk)]
  · rw [List.getElem?_set_ne (Ne.symm hi)]
    cases hq : (hsh h)[i]? with
    | none => simp [wsG, List.getElem?_mapIdx, hsh', hq]
    | some q' => rw [wsG_get g h hq, wsG_get g h' (by rw [hsh']; exact hq), ho i q' hi hq]
theorem cellE_rI (g : aG) (h : aH) (a : Nat) (f : Nat → Int32) {k : Nat} (q : Nat × Nat) (hk : k ≠ a) : cellE g (rI h a f) k q = cellE g h k q := by
  have h1 : hI (rI h a f) k = hI h k := by rw [hI_rI, if_neg hk]
  have h2 : ∀ kd, flds g.1 (rI h a f) k kd = flds g.1 h k kd := fun kd => by simp [flds, fldV, h1, hR_rI]
  simp only [cellE, h1, h2, hJ_rI, hR_rI]
theorem cellE_rJ (g : aG) (h : aH) (a : Nat) (f : Nat → Int64) {k : Nat} (q : Nat × Nat) (hk : k ≠ a) : cellE g (rJ h a f) k q = cellE g h k q := by
  have h1 : hJ (rJ h a f) k = hJ h k := by rw [hJ_rJ, if_neg hk]
  have h2 : ∀ kd, flds g.1 (rJ h a f) k kd = flds g.1 h k kd := fun kd => by simp [flds, fldV, hI_rJ, hR_rJ]
  simp only [cellE, h1, h2, hI_rJ, hR_rJ]
theorem cellE_rR (g : aG) (h : aH) (a : Nat) (f : Nat → Option Nat) {k : Nat} (q : Nat × Nat) (hk : k ≠ a) : cellE g (rR h a f) k q = cellE g h k q := by
  have h1 : hR (rR h a f) k = hR h k := by rw [hR_rR, if_neg hk]
  have h2 : ∀ kd, flds g.1 (rR h a f) k kd = flds g.1 h k kd := fun kd => by simp [flds, fldV, hI_rR, h1]
  simp only [cellE, h1, h2, hI_rR, hJ_rR]
theorem flds_sI (b : Nat) (h : aH) (k kd j : Nat) (x : Int32) (ht : (fk kd)[j]? = some false) : (flds b h k kd).set j (.int x) = flds b (sI h k j x) k kd := by
  apply List.ext_getElem?
  intro i
  have hl : j < (flds b h k kd).length := by rw [flds_len]; exact (List.getElem?_eq_some_iff.mp ht).1
  by_cases hi : i = j
  · subst hi
    rw [List.getElem?_set_self hl, flds_get b _ k kd i ht]
    simp [fldV, hI_sI]
  · rw [List.getElem?_set_ne (Ne.symm hi)]
    cases hq : (fk kd)[i]? with
    | none => simp [flds, List.getElem?_mapIdx, hq]
    | some t => rw [flds_get b h k kd i hq, flds_get b _ k kd i hq]; simp [fldV, hI_sI, hR_sI, hi]
theorem flds_sR (b : Nat) (h : aH) (k kd j : Nat) (x : Option Nat) (ht : (fk kd)[j]? = some true) : (flds b h k kd).set j (va_rf (cvo b x)) = flds b (sR h k j x) k kd := by
  apply List.ext_getElem?
  intro i
  have hl : j < (flds b h k kd).length := by rw [flds_len]; exact (List.getElem?_eq_some_iff.mp ht).1
  by_cases hi : i = j
  · subst hi
    rw [List.getElem?_set_self hl, flds_get b _ k kd i ht]
    simp [fldV, hR_sR]
  · rw [List.getElem?_set_ne (Ne.symm hi)]
    cases hq : (fk kd)[i]? with
    | none => simp [flds, List.getElem?_mapIdx, hq]
    | some t => rw [flds_get b h k kd i hq, flds_get b _ k kd i hq]; simp [fldV, hI_sR, hR_sR, hi]
def Pw (g : aG) (h : aH) (H : Heap) : Prop := va_P g.2.1 vwCl (wsG g h) H
/-- the rule's first words, as the static row holds them -/
def at7 (j : Nat) : Int32 := [1, 1000, 1001, 2045, 4, 2062, 2043].getD j 0
def SF (g : aG) (U : State) : Prop := ∃ t : Nat, va_Z "LockLetters$Rule" "AT_FIRST" "[I" (.ref t) (aA g) U U.heap ∧ va_T .int t 7 (fun j => .int (at7 j)) (aA g) U U.heap
def KK (g : aG) (U : State) : Prop := va_K g.2.1 vwCl (gtys g) U ∧ va_AO "LockLetters$State" U ∧ SF g U
theorem KK.to {g : aG} {u U : State} (hvm : u.vm.Alike U.vm) (hq : ∀ a : Nat, a < u.heap.size → ¬ aA g a → U.heap[a]? = u.heap[a]?) (h : KK g u) : KK g U := by
  obtain ⟨h1, h2, t, h3, h4⟩ := h
  exact ⟨va_K.moved hvm h1, va_AO.moved hvm h2, t, (h3.moved hvm).kept hq, (h4.moved hvm).kept hq⟩
theorem KK.moved {g : aG} {u U : State} (hvm : u.vm.Alike U.vm) (hh : U.heap = u.heap) (h : KK g u) : KK g U := KK.to hvm (fun a _ _ => by rw [hh]) h
/-- the locals, place by place -/
def lvp (b : Nat) (lv : List (Option Value)) : List (Nat × Value) := (List.range lv.length).filterMap (fun i => (lv[i]?.join).map (fun v => (i, cv b v)))
theorem lvp_mem {b : Nat} {lv : List (Option Value)} {i : Nat} {w : Value} : (i, w) ∈ lvp b lv ↔ ∃ v, lv[i]? = some (some v) ∧ w = cv b v := by
  unfold lvp
  rw [List.mem_filterMap]
  constructor
  · rintro ⟨j, hj, hw⟩
    rw [Option.map_eq_some_iff] at hw
    obtain ⟨v, h1, h2⟩ := hw
    cases h2
    rw [Option.join_eq_some_iff] at h1
    exact ⟨v, h1, rfl⟩
  · rintro ⟨v, h1, rfl⟩
    refine ⟨i, List.mem_range.mpr (List.getElem?_eq_some_iff.mp h1).1, ?_⟩
    simp [h1]
def lv_is (b : Nat) (ls : Array Slot) (nL : Nat) (lv : List (Option Value)) : Prop := lv_has ls nL (lvp b lv)
theorem lv_is.at {b : Nat} {ls : Array Slot} {nL : Nat} {lv : List (Option Value)} (h : lv_is b ls nL lv) {i : Nat} {v : Value} (hv : lv[i]? = some (some v)) : ls[i]? = some (.val (cv b v)) := h.2.2 (i, cv b v) (lvp_mem.mpr ⟨v, hv, rfl⟩)
/-- a store: what overlaps from below is gone -/
def lvk (lv : List (Option Value)) (i : Nat) : List (Option Value) := match i with
  | 0 => lv
  | k + 1 => match lv[k]? with
    | some (some (.long _)) => lv.set k none
    | some (some (.double _)) => lv.set k none
    | _ => lv
def lvs (lv : List (Option Value)) (i : Nat) (v : Value) : List (Option Value) := (lvk lv i).set i (some v)
def lvs2 (lv : List (Option Value)) (i : Nat) (v : Value) : List (Option Value) := ((lvk lv i).set i (some v)).set (i + 1) none
theorem lvk_get {lv : List (Option Value)} {i j : Nat} {v : Value} (h : (lvk lv i)[j]? = some (some v)) : lv[j]? = some (some v) ∧ ¬ (j + 1 = i ∧ v.category = 2) := by
  unfold lvk at h
  split at h
  · exact ⟨h, fun q => by omega⟩
  · rename_i k
    split at h
    · rename_i x hx
      by_cases hj : j = k
      · subst hj
        rw [List.getElem?_set_self (List.getElem?_eq_some_iff.mp hx).1] at h
        cases h
      · rw [List.getElem?_set_ne (Ne.symm hj)] at h
        exact ⟨h, fun q => hj (by omega)⟩
    · rename_i x hx
      by_cases hj : j = k
      · subst hj
        rw [List.getElem?_set_self (List.getElem?_eq_some_iff.mp hx).1] at h
        cases h
      · rw [List.getElem?_set_ne (Ne.symm hj)] at h
        exact ⟨h, fun q => hj (by omega)⟩
    · rename_i n1 n2
      refine ⟨h, fun q => ?_⟩
      have hj : j = k := by omega
      subst hj
      cases v with
      | long x => exact n1 x h
      | double x => exact n2 x h
      | _ => simp [Value.category] at q
theorem cv_cat (b : Nat) (v : Value) : (cv b v).category = v.category := by cases v <;> rfl
theorem lv_is.set1 {b : Nat} {ls : Array Slot} {nL i : Nat} {lv : List (Option Value)} {v : Value} (h : lv_has ls nL ((i, cv b v) :: (lvp b lv).filter (fun q => !(q.1 == i) && !(q.1 + 1 == i && q.2.category == 2)))) : lv_is b ls nL (lvs lv i v) := by
  refine ⟨h.1, h.2.1, fun q hq => h.2.2 q ?_⟩
  obtain ⟨j, w⟩ := q
  obtain ⟨u, h1, rfl⟩ := lvp_mem.mp hq
  unfold lvs at h1
  by_cases hj : j = i
  · subst hj
    have : (List.set (lvk lv j) j (some v))[j]? = some (some v) := by
      have hl : j < (lvk lv j).length := by
        have := (List.getElem?_eq_some_iff.mp h1).1
        simpa using this
      exact List.getElem?_set_self hl
    rw [this] at h1
    cases h1
    exact List.mem_cons_self
  · rw [List.getElem?_set_ne (Ne.symm hj)] at h1
    obtain ⟨h2, h3⟩ := lvk_get h1
    refine List.mem_cons_of_mem _ (List.mem_filter.mpr ⟨lvp_mem.mpr ⟨u, h2, rfl⟩, ?_⟩)
    simp only [Bool.and_eq_true, Bool.not_eq_true', beq_eq_false_iff_ne, ne_eq, hj, not_false_eq_true, true_and]
    rw [Bool.and_eq_false_iff]
    by_cases hz : j + 1 = i
    · right
      rw [cv_cat]
      simpa using fun q => h3 ⟨hz, q⟩
    · left
      simpa using hz
theorem lv_is.set2 {b : Nat} {ls : Array Slot} {nL i : Nat} {lv : List (Option Value)} {v : Value} (h : lv_has ls nL ((i, cv b v) :: (lvp b lv).filter (fun q => !(q.1 == i) && (!(q.1 == i + 1) && !(q.1 + 1 == i && q.2.category == 2))))) : lv_is b ls nL (lvs2 lv i v) := by
  refine ⟨h.1, h.2.1, fun q hq => h.2.2 q ?_⟩
  obtain ⟨j, w⟩ := q
  obtain ⟨u, h1, rfl⟩ := lvp_mem.mp hq
  unfold lvs2 at h1
  have hj1 : j ≠ i + 1 := by
    intro hj
    subst hj
    have hl : i + 1 < (List.set (lvk lv i) i (some v)).length := by
      have := (List.getElem?_eq_some_iff.mp h1).1
      simpa using this
    rw [List.getElem?_set_self hl] at h1
    cases h1
  rw [List.getElem?_set_ne (Ne.symm hj1)] at h1
  by_cases hj : j = i
  · subst hj
    have hl : j < (lvk lv j).length := by
      have := (List.getElem?_eq_some_iff.mp h1).1
      simpa using this
    rw [List.getElem?_set_self hl] at h1
    cases h1
    exact List.mem_cons_self
  · rw [List.getElem?_set_ne (Ne.symm hj)] at h1
    obtain ⟨h2, h3⟩ := lvk_get h1
    refine List.mem_cons_of_mem _ (List.mem_filter.mpr ⟨lvp_mem.mpr ⟨u, h2, rfl⟩, ?_⟩)
    simp only [Bool.and_eq_true, Bool.not_eq_true', beq_eq_false_iff_ne, ne_eq, hj, hj1, not_false_eq_true, true_and]
    rw [Bool.and_eq_false_iff]
    by_cases hz : j + 1 = i
    · right
      rw [cv_cat]
      simpa using fun q => h3 ⟨hz, q⟩
    · left
      simpa using hz
