def RpI (h : aH) (Γ : aC) (o : Int32) : Prop := Rq Γ (some (.int o), h)
def RpJ (h : aH) (Γ : aC) (o : Int64) : Prop := Rq Γ (some (.long o), h)
section ShortRows
variable {Γ : aC} {own : String} {cc : ByteArray} {nL : Nat} {ret : Option FieldType} {rm : Nat × Nat × Nat} {cs : Nat × Nat} {pc : Nat} {lv : List (Option Value)} {st : List Value} {h : aH}
theorem r_iinc2 (X : Cx Γ own cc nL ret rm) {i : Nat} {n : Int} {x x' : Int32} (v : Int32) (lv' : List (Option Value)) (d : decode cc pc = .ok (.iinc i n, 3)) (hi : i < nL) (hx : lv[i]? = some (some (.int x))) (hn : Int32.ofInt n = v) (ex : some (x + v) = some x') (hv : lvs lv i (.int x') = lv') (k : Jd Γ cs (pc + 3) lv' st h) : Jd Γ cs pc lv st h := by
  subst hn
  cases ex
  exact r_iinc X lv' d hi hx hv k
theorem r_zretB (X : Cx Γ own cc nL (some .boolean) rm) {x y : Int32} (d : decode cc pc = .ok (.ireturn, 1)) (hz : bz x = some y) (hq : Rq Γ (some (.int y), h)) : Jd Γ (rm.2.1, rm.2.2) pc lv [.int x] h := by
  obtain ⟨e, hx⟩ := bz_inv hz
  rw [e] at hq
  exact r_zret X d hx hq
theorem r_callVI (X : Cx Γ own cc nL ret rm) {idx ci na nL' a : Nat} {y : MethodName} {b : ByteArray} {r : Option FieldType} {v : Int32} {h' : aH} {u : Unit} (As : List Value) (d : decode cc pc = .ok (.invokevirtual idx, 3)) (hl : Cond.methodLink own idx y ∈ lw_good) (M : VOk y b nL' r na ci)
    (hcs : cs.1 ≤ rm.2.1 ∧ cs.2 ≤ rm.2.2) (hck : ck h a ci = some u) (E : EvM Γ.1.2.1 Γ.2.2.1 (rm.1 - 1) y b nL' r (.ref a :: As) h (some (.int v), h')) (hd : 1 ≤ rm.1) (hn : As.length = na) (hst : (st.map fun v => v.category).sum ≤ 8)
    {st0 : List Value} (hs0 : st0 = As.reverse ++ .ref a :: st) (k : Jd Γ cs (pc + 3) lv (.int v :: st) h') : Jd Γ cs pc lv st0 h := r_callV X As d hl M hcs hck E hd hn hst hs0 k
theorem r_callVJ (X : Cx Γ own cc nL ret rm) {idx ci na nL' a : Nat} {y : MethodName} {b : ByteArray} {r : Option FieldType} {v : Int64} {h' : aH} {u : Unit} (As : List Value) (d : decode cc pc = .ok (.invokevirtual idx, 3)) (hl : Cond.methodLink own idx y ∈ lw_good) (M : VOk y b nL' r na ci)
    (hcs : cs.1 ≤ rm.2.1 ∧ cs.2 ≤ rm.2.2) (hck : ck h a ci = some u) (E : EvM Γ.1.2.1 Γ.2.2.1 (rm.1 - 1) y b nL' r (.ref a :: As) h (some (.long v), h')) (hd : 1 ≤ rm.1) (hn : As.length = na) (hst : (st.map fun v => v.category).sum ≤ 8)
    {st0 : List Value} (hs0 : st0 = As.reverse ++ .ref a :: st) (k : Jd Γ cs (pc + 3) lv (.long v :: st) h') : Jd Γ cs pc lv st0 h := r_callV X As d hl M hcs hck E hd hn hst hs0 k
theorem r_callVV (X : Cx Γ own cc nL ret rm) {idx ci na nL' a : Nat} {y : MethodName} {b : ByteArray} {r : Option FieldType} {h' : aH} {u : Unit} (As : List Value) (d : decode cc pc = .ok (.invokevirtual idx, 3)) (hl : Cond.methodLink own idx y ∈ lw_good) (M : VOk y b nL' r na ci)
    (hcs : cs.1 ≤ rm.2.1 ∧ cs.2 ≤ rm.2.2) (hck : ck h a ci = some u) (E : EvM Γ.1.2.1 Γ.2.2.1 (rm.1 - 1) y b nL' r (.ref a :: As) h (none, h')) (hd : 1 ≤ rm.1) (hn : As.length = na) (hst : (st.map fun v => v.category).sum ≤ 8)
    {st0 : List Value} (hs0 : st0 = As.reverse ++ .ref a :: st) (k : Jd Γ cs (pc + 3) lv st h') : Jd Γ cs pc lv st0 h := r_callV X As d hl M hcs hck E hd hn hst hs0 k
theorem r_callSI (X : Cx Γ own cc nL ret rm) {idx na nL' : Nat} {y : MethodName} {b : ByteArray} {r : Option FieldType} {v : Int32} {h' : aH} (As : List Value) (d : decode cc pc = .ok (.invokestatic idx, 3)) (hl : Cond.methodLink own idx y ∈ lw_good) (M : SOk y b nL' r na)
    (hcs : cs.1 ≤ rm.2.1 ∧ cs.2 ≤ rm.2.2) (E : EvM Γ.1.2.1 Γ.2.2.1 (rm.1 - 1) y b nL' r As h (some (.int v), h')) (hd : 1 ≤ rm.1) (hn : As.length = na) (hst : (st.map fun v => v.category).sum ≤ 8)
    {st0 : List Value} (hs0 : st0 = As.reverse ++ st) (k : Jd Γ cs (pc + 3) lv (.int v :: st) h') : Jd Γ cs pc lv st0 h := r_callS X As d hl M hcs E hd hn hst hs0 k
theorem r_callSJ (X : Cx Γ own cc nL ret rm) {idx na nL' : Nat} {y : MethodName} {b : ByteArray} {r : Option FieldType} {v : Int64} {h' : aH} (As : List Value) (d : decode cc pc = .ok (.invokestatic idx, 3)) (hl : Cond.methodLink own idx y ∈ lw_good) (M : SOk y b nL' r na)
    (hcs : cs.1 ≤ rm.2.1 ∧ cs.2 ≤ rm.2.2) (E : EvM Γ.1.2.1 Γ.2.2.1 (rm.1 - 1) y b nL' r As h (some (.long v), h')) (hd : 1 ≤ rm.1) (hn : As.length = na) (hst : (st.map fun v => v.category).sum ≤ 8)
    {st0 : List Value} (hs0 : st0 = As.reverse ++ st) (k : Jd Γ cs (pc + 3) lv (.long v :: st) h') : Jd Γ cs pc lv st0 h := r_callS X As d hl M hcs E hd hn hst hs0 k
theorem r_callSV (X : Cx Γ own cc nL ret rm) {idx na nL' : Nat} {y : MethodName} {b : ByteArray} {r : Option FieldType} {h' : aH} (As : List Value) (d : decode cc pc = .ok (.invokestatic idx, 3)) (hl : Cond.methodLink own idx y ∈ lw_good) (M : SOk y b nL' r na)
    (hcs : cs.1 ≤ rm.2.1 ∧ cs.2 ≤ rm.2.2) (E : EvM Γ.1.2.1 Γ.2.2.1 (rm.1 - 1) y b nL' r As h (none, h')) (hd : 1 ≤ rm.1) (hn : As.length = na) (hst : (st.map fun v => v.category).sum ≤ 8)
    {st0 : List Value} (hs0 : st0 = As.reverse ++ st) (k : Jd Γ cs (pc + 3) lv st h') : Jd Γ cs pc lv st0 h := r_callS X As d hl M hcs E hd hn hst hs0 k
end ShortRows
