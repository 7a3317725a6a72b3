def mx (x y : Int32) : Int32 := if x < y then y else x
def mn (x y : Int32) : Int32 := if y < x then y else x
def mab (x : Int32) : Int32 := if 0 ≤ x then x else 0 - x
section MathRows
variable {Γ : aC} {own : String} {cc : ByteArray} {nL : Nat} {ret : Option FieldType} {rm : Nat × Nat × Nat} {cs : Nat × Nat} {pc : Nat} {lv : List (Option Value)} {st : List Value} {h : aH}
theorem r_max (X : Cx Γ own cc nL ret rm) {idx : Nat} {x y : Int32} (d : decode cc pc = .ok (.invokestatic idx, 3)) (hl : Cond.methodLink own idx yJ9_max_7cf53 ∈ lw_good) (hcs : cs.1 ≤ rm.2.1 ∧ cs.2 ≤ rm.2.2) (hd : 1 ≤ rm.1) (hst : (st.map fun v => v.category).sum ≤ 8) (k : Jd Γ cs (pc + 3) lv (.int (mx x y) :: st) h) : Jd Γ cs pc lv (.int y :: .int x :: st) h := by
  obtain ⟨hxx, hb, hml, hown, hts, hKK, hret, hlk, hR, hbase⟩ := id X
  obtain ⟨hRf, hRl, hRc, hRs⟩ := hR
  intro H locs ls hP hS hls
  exact va_mmax hxx hb hls.1.symm hown (hts _ hl) (hts _ ms_J9_max_7cf53) (hts _ ma_ini) (hts _ mc_J9_max_7cf53) (by omega) (by rw [cat_map]; omega) (by omega) (by omega) d (k H locs ls hP hS hls)
theorem r_min (X : Cx Γ own cc nL ret rm) {idx : Nat} {x y : Int32} (d : decode cc pc = .ok (.invokestatic idx, 3)) (hl : Cond.methodLink own idx yJ9_min_7cf53 ∈ lw_good) (hcs : cs.1 ≤ rm.2.1 ∧ cs.2 ≤ rm.2.2) (hd : 1 ≤ rm.1) (hst : (st.map fun v => v.category).sum ≤ 8) (k : Jd Γ cs (pc + 3) lv (.int (mn x y) :: st) h) : Jd Γ cs pc lv (.int y :: .int x :: st) h := by
  obtain ⟨hxx, hb, hml, hown, hts, hKK, hret, hlk, hR, hbase⟩ := id X
  obtain ⟨hRf, hRl, hRc, hRs⟩ := hR
  intro H locs ls hP hS hls
  exact va_mmin hxx hb hls.1.symm hown (hts _ hl) (hts _ ms_J9_min_7cf53) (hts _ ma_ini) (hts _ mc_J9_min_7cf53) (by omega) (by rw [cat_map]; omega) (by omega) (by omega) d (k H locs ls hP hS hls)
theorem r_abs (X : Cx Γ own cc nL ret rm) {idx : Nat} {x : Int32} (d : decode cc pc = .ok (.invokestatic idx, 3)) (hl : Cond.methodLink own idx yJ9_abs_0f7a4 ∈ lw_good) (hcs : cs.1 ≤ rm.2.1 ∧ cs.2 ≤ rm.2.2) (hd : 1 ≤ rm.1) (hst : (st.map fun v => v.category).sum ≤ 8) (k : Jd Γ cs (pc + 3) lv (.int (mab x) :: st) h) : Jd Γ cs pc lv (.int x :: st) h := by
  obtain ⟨hxx, hb, hml, hown, hts, hKK, hret, hlk, hR, hbase⟩ := id X
  obtain ⟨hRf, hRl, hRc, hRs⟩ := hR
  intro H locs ls hP hS hls
  exact va_mabs hxx hb hls.1.symm hown (hts _ hl) (hts _ ms_J9_abs_0f7a4) (hts _ ma_ini) (hts _ mc_J9_abs_0f7a4) (by omega) (by rw [cat_map]; omega) (by omega) (by omega) d (k H locs ls hP hS hls)
end MathRows
