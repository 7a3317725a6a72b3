/-! the law's head: the two made, the row for what comes back -/
section Head
variable {Γ : aC} {b L : Nat} {xs : Nat → Int32}
theorem len_h1 : (fn_X11_init (nw e0 (10, 0)) 0).map (fun h => (hsh h).length) = some 86 := by decide +kernel
theorem len_nw (h : aH) (q : Nat × Nat) : (hsh (nw h q)).length = (hsh h).length + 1 := by simp [nw, hsh]
theorem len_H0 : H0.map (fun h => (hsh h).length) = some 117 := by decide +kernel
theorem law_head (D : LC Γ b L xs) (k : ∀ h, REL 0 h h → Jd Γ (117, 5179) 23 (lvL b (nI 0)) [] h) : Jd Γ (0, 0) 0 (ent [.retAddr b] 8) [] e0 := by
  have X := D.1
  have hA : Γ.1.2.2.2.2.heap.size = Γ.2.2.1.1 + 0 := D.2.1.2.2.symm
  obtain ⟨h, eH, R⟩ := rel0
  have l1 := len_h1
  have l3 := len_H0
  rw [eH] at l3
  have l3 : (hsh h).length = 117 := Option.some.inj l3
  unfold H0 at eH
  cases e1 : fn_X11_init (nw e0 (10, 0)) 0 with
  | none => rw [e1] at eH; cases eH
  | some h1 =>
    rw [e1] at eH l1
    have l1 : (hsh h1).length = 86 := Option.some.inj l1
    have eH : ((fn_X12_init (nw h1 (11, 0)) 86).bind fun h2 => some (nw h2 (15, 1))) = some h := eH
    cases e2 : fn_X12_init (nw h1 (11, 0)) 86 with
    | none => rw [e2] at eH; cases eH
    | some h2 =>
      rw [e2] at eH
      have eH : some (nw h2 (15, 1)) = some h := eH
      have l2 : (hsh h2).length = 116 := by
        have := len_nw h2 (15, 1)
        rw [Option.some.inj eH] at this
        omega
      refine r_new (pc := 0) X (n0 := 0) (ci := 10) (a := 0) (N := 16) (h' := nw e0 (10, 0)) hA rfl dL_law_0 nk_L_8 rfl (by decide) (by decide) rfl rfl ?_
      refine r_dup (pc := 3) X dL_law_3 rfl ?_
      refine r_callI (pc := 4) X (n0 := 0) (mc := 85) (ms := 941) (h' := h1) [] hA rfl dL_law_4 ml_L_22 io_X11_init (evA_X11_init (by decide) _ 0 h1 e1) (by decide) rfl (by decide) (by decide) (by decide) rfl ?_
      refine r_astore_n (pc := 7) X [some (.retAddr b), some (.ref 0), none, none, none, none, none, none] dL_law_7 (by decide) rfl ?_
      refine r_new (pc := 8) X (n0 := 0) (ci := 11) (a := 86) (N := 50) (h' := nw h1 (11, 0)) hA l1 dL_law_8 nk_L_23 rfl (by decide) (by decide) (congrArg some l1) rfl ?_
      refine r_dup (pc := 11) X dL_law_11 rfl ?_
      refine r_callI (pc := 12) X (n0 := 0) (mc := 29) (ms := 4171) (h' := h2) [] hA ((len_nw _ _).trans (congrArg (· + 1) l1)) dL_law_12 ml_L_25 io_X12_init (evA_X12_init (by decide) _ 86 h2 e2) (by decide) rfl (by decide) (by decide) (by decide) rfl ?_
      refine r_astore_n (pc := 15) X [some (.retAddr b), some (.ref 0), some (.ref 86), none, none, none, none, none] dL_law_15 (by decide) rfl ?_
      refine r_iconst (pc := 16) X 1 dL_law_16 (by decide) ?_
      refine r_newa (pc := 17) X (n0 := 0) (a := 116) (N := 1) (kd := 15) (h' := h) hA l2 dL_law_17 ac_long (Or.inl ⟨rfl, rfl⟩) (by decide) (by decide) (by decide) (by decide) (by decide) (congrArg some l2) eH ?_
      refine r_astore_n (pc := 19) X [some (.retAddr b), some (.ref 0), some (.ref 86), some (.ref 116), none, none, none, none] dL_law_19 (by decide) rfl ?_
      refine r_iconst (pc := 20) X 0 dL_law_20 (by decide) ?_
      exact r_istore (pc := 21) X (lvL b (nI 0)) dL_law_21 (by decide) rfl (k h R)
end Head
