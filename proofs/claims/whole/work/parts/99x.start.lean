/-! the start: what the tables and the statement's words give at the entry -/
theorem kn_all {s : State} {args : Array Value} (hts : ∀ w ∈ lw_tbl, w.before args s = true) : ∃ D : va_G, ∀ (c : Nat) (q : vw_C), vwCl[c]? = some q → u_Kn s q.1 q.2.1 q.2.2 (D.1 c) (D.2 c) := by
  have ex : ∀ c : Nat, ∃ d : ClassId × (Nat → Nat), ∀ q : vw_C, vwCl[c]? = some q → u_Kn s q.1 q.2.1 q.2.2 d.1 d.2 := by
    intro c
    match c with
    | 0 => obtain ⟨cC, iS, h⟩ := u_known (C := RX0) (T := TX0) (N := 10) (n := 10) hts inX0 (hts (.instantiable RX0 10) (by decide +kernel)); exact ⟨(cC, iS), fun q hq => by cases hq; exact h⟩
    | 1 => obtain ⟨cC, iS, h⟩ := u_known (C := RX2) (T := TX2) (N := 4) (n := 4) hts inX2 (hts (.instantiable RX2 4) (by decide +kernel)); exact ⟨(cC, iS), fun q hq => by cases hq; exact h⟩
    | 2 => obtain ⟨cC, iS, h⟩ := u_known (C := RX3) (T := TX3) (N := 2) (n := 2) hts inX3 (hts (.instantiable RX3 2) (by decide +kernel)); exact ⟨(cC, iS), fun q hq => by cases hq; exact h⟩
    | 3 => obtain ⟨cC, iS, h⟩ := u_known (C := RX4) (T := TX4) (N := 3) (n := 3) hts inX4 (hts (.instantiable RX4 3) (by decide +kernel)); exact ⟨(cC, iS), fun q hq => by cases hq; exact h⟩
    | 4 => obtain ⟨cC, iS, h⟩ := u_known (C := RX5) (T := TX5) (N := 8) (n := 8) hts inX5 (hts (.instantiable RX5 8) (by decide +kernel)); exact ⟨(cC, iS), fun q hq => by cases hq; exact h⟩
    | 5 => obtain ⟨cC, iS, h⟩ := u_known (C := RX6) (T := TX6) (N := 4) (n := 4) hts inX6 (hts (.instantiable RX6 4) (by decide +kernel)); exact ⟨(cC, iS), fun q hq => by cases hq; exact h⟩
    | 6 => obtain ⟨cC, iS, h⟩ := u_known (C := RX7) (T := TX7) (N := 6) (n := 6) hts inX7 (hts (.instantiable RX7 6) (by decide +kernel)); exact ⟨(cC, iS), fun q hq => by cases hq; exact h⟩
    | 7 => obtain ⟨cC, iS, h⟩ := u_known (C := RX8) (T := TX8) (N := 2) (n := 2) hts inX8 (hts (.instantiable RX8 2) (by decide +kernel)); exact ⟨(cC, iS), fun q hq => by cases hq; exact h⟩
    | 8 => obtain ⟨cC, iS, h⟩ := u_known (C := RX9) (T := TX9) (N := 3) (n := 3) hts inX9 (hts (.instantiable RX9 3) (by decide +kernel)); exact ⟨(cC, iS), fun q hq => by cases hq; exact h⟩
    | 9 => obtain ⟨cC, iS, h⟩ := u_known (C := RX10) (T := TX10) (N := 2) (n := 2) hts inX10 (hts (.instantiable RX10 2) (by decide +kernel)); exact ⟨(cC, iS), fun q hq => by cases hq; exact h⟩
    | 10 => obtain ⟨cC, iS, h⟩ := u_known (C := RX11) (T := TX11) (N := 16) (n := 16) hts inX11 (hts (.instantiable RX11 16) (by decide +kernel)); exact ⟨(cC, iS), fun q hq => by cases hq; exact h⟩
    | 11 => obtain ⟨cC, iS, h⟩ := u_known (C := RX12) (T := TX12) (N := 50) (n := 50) hts inX12 (hts (.instantiable RX12 50) (by decide +kernel)); exact ⟨(cC, iS), fun q hq => by cases hq; exact h⟩
    | n + 12 => exact ⟨(0, fun _ => 0), fun q hq => by simp [vwCl] at hq⟩
  exact ⟨(fun c => (Classical.choose (ex c)).1, fun c => (Classical.choose (ex c)).2), fun c q hq => Classical.choose_spec (ex c) q hq⟩
theorem arr_one {s : State} {args : Array Value} (at0 : ArrayType) (h : (Cond.arrayClass (newarray.typeOf at0)).before args s = true) : ∃ cA : ClassId, ArrOfT s cA (newarray.typeOf at0) ∧ va_RA s cA (newarray.typeOf at0) := by
  obtain ⟨cA, kA, comp, h1, h2, h3⟩ := Cond.arrayClass_spec h
  exact ⟨cA, fun n z => ⟨fun k h => (by cases h), kA, h2, comp, h3⟩, by cases at0 <;> exact h1⟩
theorem arr_state {s : State} {args : Array Value} (h : (Cond.arrayOver (.object "LockLetters$State")).before args s = true) : ∃ cA : ClassId, ArrOfT s cA (.object "LockLetters$State") ∧ va_RA s cA (.object "LockLetters$State") := by
  obtain ⟨comp, cA, kA, f4, -, f2, f3, f1⟩ := Cond.arrayOver_spec h
  exact ⟨cA, fun n z => ⟨fun k h => (by cases h), kA, f2, comp, f3⟩, kA, comp, f2, f3, f4, f1⟩
def atF : Term := .static "LockLetters$Rule" "AT_FIRST" "[I"
set_option maxHeartbeats 4000000 in
theorem start_known {s : State} {args : Array Value} (hts : ∀ w ∈ lw_tbl, w.before args s = true) (hgv : (Jvm.Cond.and given_1 narrow_1).before args s = true) : ∃ g : aG, g.1 = s.heap.size ∧ KK g s ∧ EX g s := by
  have hs := flat_of_before _ hgv
  obtain ⟨D, hD⟩ := kn_all hts
  obtain ⟨c12, a12⟩ := arr_one .byte (hts _ (by decide +kernel))
  obtain ⟨c13, a13⟩ := arr_one .char (hts _ (by decide +kernel))
  obtain ⟨c14, a14⟩ := arr_one .int (hts _ (by decide +kernel))
  obtain ⟨c15, a15⟩ := arr_one .long (hts _ (by decide +kernel))
  obtain ⟨c16, a16⟩ := arr_one .boolean (hts _ (by decide +kernel))
  have hov : (Cond.arrayOver (.object "LockLetters$State")).before args s = true := hts _ (by decide +kernel)
  obtain ⟨c17, a17⟩ := arr_state hov
  let g : aG := (s.heap.size, D, fun k => if k = 12 then c12 else if k = 13 then c13 else if k = 14 then c14 else if k = 15 then c15 else if k = 16 then c16 else c17)
  have hA : ∀ a : Nat, a < s.heap.size → ¬ aA g a := fun a h1 h2 => Nat.not_le.mpr h1 h2
  have e0' : (Cond.eq (.elem atF (.int 0)) (.int 1)).before args s = true := hs _ (by decide +kernel)
  have e1 : (Cond.eq (.elem atF (.int 1)) (.int 1000)).before args s = true := hs _ (by decide +kernel)
  have e2 : (Cond.eq (.elem atF (.int 2)) (.int 1001)).before args s = true := hs _ (by decide +kernel)
  have e3 : (Cond.eq (.elem atF (.int 3)) (.int 2045)).before args s = true := hs _ (by decide +kernel)
  have e4 : (Cond.eq (.elem atF (.int 4)) (.int 4)).before args s = true := hs _ (by decide +kernel)
  have e5 : (Cond.eq (.elem atF (.int 5)) (.int 2062)).before args s = true := hs _ (by decide +kernel)
  have e6 : (Cond.eq (.elem atF (.int 6)) (.int 2043)).before args s = true := hs _ (by decide +kernel)
  have eL : (Cond.eq (.length atF) (.int 7)).before args s = true := hs _ (by decide +kernel)
  have eA : (Cond.arrayOf atF .int).before args s = true := hs _ (by decide +kernel)
  have hl : (Term.length atF).eval args s none [] s = some (.int (Int32.ofNat 7)) := Cond.eq_int eL rfl
  obtain ⟨t, ht, hT⟩ := va_Tof (N := 7) (f := fun j => .int (at7 j)) (A := aA g) (by decide) eA hl (fun j hj => by
    match j, hj with
    | 0, _ => exact Cond.eq_int e0' rfl
    | 1, _ => exact Cond.eq_int e1 rfl
    | 2, _ => exact Cond.eq_int e2 rfl
    | 3, _ => exact Cond.eq_int e3 rfl
    | 4, _ => exact Cond.eq_int e4 rfl
    | 5, _ => exact Cond.eq_int e5 rfl
    | 6, _ => exact Cond.eq_int e6 rfl
    | n + 7, h => omega) hA
  have hZ : va_Z "LockLetters$Rule" "AT_FIRST" "[I" (.ref t) (aA g) s s.heap := va_Zof (hts (.laysStatic "LockLetters$Rule" "AT_FIRST" "[I") (by decide +kernel)) (hts (.initialized "LockLetters$Rule") (by decide +kernel)) ht hA
  refine ⟨g, rfl, ⟨⟨hD, fun k q hq => ?_⟩, va_AO.of hov, t, hZ, hT⟩, ?_, ⟨?_, ?_⟩, ?_, ?_, ?_⟩
  · match k, hq with
    | 0, hq => cases hq; exact a12
    | 1, hq => cases hq; exact a13
    | 2, hq => cases hq; exact a14
    | 3, hq => cases hq; exact a15
    | 4, hq => cases hq; exact a16
    | 5, hq => cases hq; exact a17
    | n + 6, hq => simp [gtys] at hq
  · intro w hw
    have h1 := hw
    rw [← exL_bad] at h1
    exact va_tabs (exw_tb w hw) rfl (hts w (exL_in w (List.mem_filter.mp h1).1))
  · exact vx_Zqof (hts (.laysStatic Bundle.tN "UNASSIGNED_STACK" Bundle.steD) (by decide +kernel)) (hts (.initialized Bundle.tN) (by decide +kernel)) (hs (.isRef (.static Bundle.tN "UNASSIGNED_STACK" Bundle.steD)) (by decide +kernel)) hA
  · exact vx_Zqof (hts (.laysStatic Bundle.tN "SUPPRESSED_SENTINEL" Bundle.listD) (by decide +kernel)) (hts (.initialized Bundle.tN) (by decide +kernel)) (hs (.isRef (.static Bundle.tN "SUPPRESSED_SENTINEL" Bundle.listD)) (by decide +kernel)) hA
  · obtain ⟨a, -, -, -, q1, -⟩ := Cond.exactly_spec (hs (.exactly (.string "LockLetters" 185) "java/lang/String") (by decide +kernel))
    exact ⟨a, vk_R.of (hts (.stringRef "LockLetters" 185 "no such basin, or nothing such of it") (by decide +kernel)) q1⟩
  · obtain ⟨a, -, -, -, q1, -⟩ := Cond.exactly_spec (hs (.exactly (.string "LockLetters" 202) "java/lang/String") (by decide +kernel))
    exact ⟨a, vk_R.of (hts (.stringRef "LockLetters" 202 "no such sluice, or nothing such of it") (by decide +kernel)) q1⟩
  · obtain ⟨a, -, -, -, q1, -⟩ := Cond.exactly_spec (hs (.exactly (.string "LockLetters" 491) "java/lang/String") (by decide +kernel))
    exact ⟨a, vk_R.of (hts (.stringRef "LockLetters" 491 "no such number of the row") (by decide +kernel)) q1⟩
