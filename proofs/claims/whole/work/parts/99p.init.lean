/-! what stands behind the two constructors -/
def e0 : aH := ([], fun _ _ => 0, fun _ _ => 0, fun _ _ => none)
def H0 : Option aH := (fn_X11_init (nw e0 (10, 0)) 0).bind fun h1 => (fn_X12_init (nw h1 (11, 0)) 86).bind fun h2 => some (nw h2 (15, 1))
def z0L : List (Nat × Nat) := [(3, 0), (3, 1), (3, 2), (22, 2), (22, 3), (22, 4), (22, 5), (86, 1), (86, 2), (86, 3), (86, 20), (77, 1), (86, 10), (1, 1), (86, 8), (31, 3), (86, 24), (86, 46), (76, 0), (76, 1), (114, 0), (114, 1), (115, 0), (115, 1), (79, 3), (86, 37)] ++ ((List.range 6).map (fun i => (23, i)) ++ ((List.range 6).map (fun i => (24, i)) ++ (List.range 16).map (fun i => (87, i))))
def chk0 (h : aH) : Bool := decide (hsh h = SH) && (FXR.all (fun q => hR h q.1 q.2.1 == some q.2.2) && ((List.range 12).all (fun i => hR h 32 i == some (33 + 3 * i)) && (hR h 86 18 == some 94 && (z0L.all (fun q => hI h q.1 q.2 == 0) && (hI h 14 2 == 7 && (List.range 7).all (fun i => hI h 15 i == nI (code0.getD i 0)))))))
theorem H0_chk : H0.map chk0 = some true := by decide +kernel
theorem rel0 : ∃ h, H0 = some h ∧ REL 0 h h := by
  have hc := H0_chk
  cases e : H0 with
  | none => rw [e] at hc; cases hc
  | some h =>
    rw [e] at hc
    have hc : chk0 h = true := Option.some.inj hc
    refine ⟨h, rfl, ?_⟩
    unfold chk0 at hc
    simp only [Bool.and_eq_true] at hc
    obtain ⟨c1, c2, c3, c4, c5, c6, c7⟩ := hc
    have w : Wf h := ⟨of_decide_eq_true c1, fun q hq => beq_iff_eq.mp (List.all_eq_true.mp c2 q hq)⟩
    have z : ∀ a j, (a, j) ∈ z0L → hI h a j = 0 := fun a j hm => beq_iff_eq.mp (List.all_eq_true.mp c5 (a, j) hm)
    have r32 : ∀ i, i < 12 → hR h 32 i = some (33 + 3 * i) := fun i hi => beq_iff_eq.mp (List.all_eq_true.mp c3 i (List.mem_range.mpr hi))
    have r18 : hR h 86 18 = some 94 := beq_iff_eq.mp c4
    have i14 : hI h 14 2 = 7 := beq_iff_eq.mp c6
    have i15 : ∀ i, i < 7 → hI h 15 i = nI (code0.getD i 0) := fun i hi => beq_iff_eq.mp (List.all_eq_true.mp c7 i (List.mem_range.mpr hi))
    have l23 : ∀ i, i < 6 → hI h 23 i = 0 := fun i hi => z 23 i ((by decide : ∀ i, i < 6 → (23, i) ∈ z0L) i hi)
    have l24 : ∀ i, i < 6 → hI h 24 i = 0 := fun i hi => z 24 i ((by decide : ∀ i, i < 6 → (24, i) ∈ z0L) i hi)
    have l87 : ∀ i, i < 16 → hI h 87 i = 0 := fun i hi => z 87 i ((by decide : ∀ i, i < 16 → (87, i) ∈ z0L) i hi)
    refine ⟨(0, 0, 0, fun _ => 0, fun _ => 0, fun _ => 0), semOf code0, fun _ => 0, [], ?_, ?_, ⟨w, ?_, ?_, ?_⟩, ⟨w, ?_, ?_, ?_⟩, ?_, ?_, ?_, ?_, ?_, ?_⟩
    · exact ⟨by decide, by decide, by decide, fun i hi => absurd hi (Nat.not_lt_zero _)⟩
    · exact ⟨fun i _ => ⟨0, by decide, rfl, fun _ => rfl⟩, fun i _ => ⟨0, by decide, rfl⟩, ⟨0, by decide, rfl⟩, ⟨0, by decide, rfl⟩, ⟨0, by decide, rfl⟩, ⟨0, by decide, rfl⟩⟩
    · exact ⟨z 3 0 (by decide), z 3 1 (by decide), z 3 2 (by decide), fun i hi => absurd hi (Nat.not_lt_zero _)⟩
    · exact ⟨l23, l24, z 22 2 (by decide), z 22 3 (by decide), z 22 4 (by decide), z 22 5 (by decide)⟩
    · exact RuleC_of (Or.inl rfl) i14 i15 (by decide) (by decide) (fun q => ⟨_, code0_v q⟩)
    · exact ⟨z 86 1 (by decide), z 86 2 (by decide), z 86 3 (by decide), fun i hi => absurd hi (Nat.not_lt_zero _)⟩
    · exact l87
    · refine ⟨r18, Or.inl rfl, Or.inl ⟨z 86 20 (by decide), fun y => ?_⟩⟩
      unfold semOf
      rw [code0_v]
      rfl
    · exact ⟨z 77 1 (by decide), by decide, fun i hi => absurd hi (Nat.not_lt_zero _)⟩
    · exact ⟨z 86 10 (by decide), by decide, fun i hi => absurd hi (Nat.not_lt_zero _)⟩
    · exact TxtR.none (z 1 1 (by decide)) (z 86 8 (by decide))
    · refine ⟨0, fun _ _ => 0, fun i => 33 + 3 * i, by decide, ⟨z 31 3 (by decide), fun i hi => ⟨r32 i hi, i, hi, rfl⟩, fun i j _ _ e => (by have e : 33 + 3 * i = 33 + 3 * j := e; omega), fun i hi => absurd hi (Nat.not_lt_zero _)⟩, ⟨z 86 24 (by decide), fun i hi => absurd hi (Nat.not_lt_zero _)⟩, fun i hi => absurd hi (Nat.not_lt_zero _)⟩
    · refine ⟨0, Nat.le_refl _, z 86 46 (by decide), fun i hi => ⟨false, false, 0, ?_, ?_, ?_, Nat.le_refl _, ⟨fun q => (by cases q), fun q => (by cases q.1)⟩, fun q => (by cases q)⟩⟩
      · exact z 76 i ((by decide : ∀ i, i < 2 → (76, i) ∈ z0L) i hi)
      · exact z 114 i ((by decide : ∀ i, i < 2 → (114, i) ∈ z0L) i hi)
      · exact z 115 i ((by decide : ∀ i, i < 2 → (115, i) ∈ z0L) i hi)
    · exact ⟨0, fun _ => 0, fun _ => 0, fun _ => 0, by decide, z 79 3 (by decide), z 86 37 (by decide), fun i hi => absurd hi (Nat.not_lt_zero _)⟩
