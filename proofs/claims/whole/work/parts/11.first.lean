/-! the rule's static row: read, its length, copied from; Rule.becomesNone -/
def cpS (h : aH) (b : Nat) : Option aH := match (hsh h)[b]? with
  | some r => if r.1 = 14 ∧ 7 ≤ r.2 then some (rI h b (va_cpy at7 (hI h b) 0 0 7)) else none
  | none => none
set_option maxRecDepth 20000 in
theorem fs_X4_at : Cond.fieldLink RX4 31 "LockLetters$Rule" "AT_FIRST" "[I" ∈ lw_good := lw_good_of (inT1 (List.mem_of_getElem? (i := 137) (by decide +kernel))) (by decide +kernel)
section StaticRows
variable {Γ : aC} {own : String} {cc : ByteArray} {nL : Nat} {ret : Option FieldType} {rm : Nat × Nat × Nat} {cs : Nat × Nat} {pc : Nat} {lv : List (Option Value)} {st : List Value} {h : aH}
theorem r_gets (X : Cx Γ own cc nL ret rm) {idx t : Nat} (hZ : va_Z "LockLetters$Rule" "AT_FIRST" "[I" (.ref t) (aA Γ.2.2.1) Γ.1.2.2.2.2 Γ.1.2.2.2.2.heap) (hl : Cond.fieldLink own idx "LockLetters$Rule" "AT_FIRST" "[I" ∈ lw_good) (d : decode cc pc = .ok (.getstatic idx, 3)) (k : Jd Γ cs (pc + 3) lv (.retAddr t :: st) h) : Jd Γ cs pc lv st h :=
  fun H locs ls hP hS hls => va_gets X.1 X.2.1 hZ hS X.2.2.2.1 (X.2.2.2.2.1 _ hl) (fun _ q => q) d (k H locs ls hP hS hls)
theorem r_tlen (X : Cx Γ own cc nL ret rm) {t : Nat} {f : Nat → Value} (hT : va_T .int t 7 f (aA Γ.2.2.1) Γ.1.2.2.2.2 Γ.1.2.2.2.2.heap) (d : decode cc pc = .ok (.arraylength, 1)) (k : Jd Γ cs (pc + 1) lv (.int 7 :: st) h) : Jd Γ cs pc lv (.retAddr t :: st) h :=
  fun H locs ls hP hS hls => va_tlen X.1 X.2.1 hT hS (by decide) d (k H locs ls hP hS hls)
theorem r_copyT (X : Cx Γ own cc nL ret rm) {idx t b : Nat} {h' : aH} (hT : va_T .int t 7 (fun j => .int (at7 j)) (aA Γ.2.2.1) Γ.1.2.2.2.2 Γ.1.2.2.2.2.heap) (d : decode cc pc = .ok (.invokestatic idx, 3)) (hl : Cond.methodLink own idx arraycopyName ∈ lw_good)
    (hd : 1 ≤ rm.1) (hst : (st.map fun v => v.category).sum ≤ 8) (hx : cpS h b = some h') (k : Jd Γ cs (pc + 3) lv st h') : Jd Γ cs pc lv (.int 7 :: .int 0 :: .ref b :: .int 0 :: .retAddr t :: st) h := by
  unfold cpS at hx
  split at hx
  · rename_i r hr
    split at hx
    · rename_i hc
      cases hx
      obtain ⟨kr, nr⟩ := r
      obtain ⟨c1, c2⟩ := hc
      dsimp only at c1 c2
      subst c1
      obtain ⟨hxx, hb, hml, hown, hts, hKK, hret, hlk, hR, hbase⟩ := id X
      obtain ⟨hRf, hRl, -, -⟩ := hR
      have hw : nativeFrameWords "java/lang/System" "arraycopy" 5 + 11 ≤ 50 := by decide +kernel
      intro H locs ls hP hS hls
      obtain ⟨scr, t1, t2, t3, t4, t5, t6, t7⟩ := hT
      have hc0 : H[t]? = some scr := by rw [hS.2.1 t (Array.getElem?_eq_some_iff.mp t1).1 t7]; exact t1
      have hg := wsG_get Γ.2.2.1 h hr
      rw [cellE_i _ _ _ _ _ (by decide) (by decide) (by decide)] at hg
      have hc1 : H[Γ.2.2.1.1 + b]? = some (vp_cell (Γ.2.2.1.2.2 14) (nr, .inl (hI h b))) := hP b _ hg
      obtain ⟨t8, k0, hk0, cm0, hkk0⟩ := t2
      obtain ⟨-, k1, hk1, cm1, hkk1⟩ := (hKK.1.2 2 _ rfl).1 nr (fun j => .int (hI h b j))
      intro T hT' Y
      obtain ⟨vm', Y', step⟩ := Y.arraycopy hxx hown (hts _ hl) (hts _ ac_nat) (hts _ ac_sta) (hts _ ac_ini) (src := t) (dst := Γ.2.2.1.1 + b) (cs := scr) (cd := vp_cell (Γ.2.2.1.2.2 14) (nr, .inl (hI h b))) (srcPos := 0) (destPos := 0) (n := 7) (by rw [hT']; exact hc0) (by rw [hT']; exact hc1)
        t8 (fun _ q => by cases q) t3 (fun q => by cases q) hk0 hk1 hkk0 hkk1 (by simp [refKind]) (by decide) (by decide) (by decide)
        (by show ¬ ((0 : Int) + 7 > _); omega)
        (by show ¬ ((0 : Int) + 7 > ((arrV (Γ.2.2.1.2.2 14) nr (fun j => .int (hI h b j))).slots.size : Int)); rw [arrV_size]; omega)
        (fun vm₁ _ i hi => by
          have hi7 : i < 7 := hi
          have e : scr.slots.getD (0 + i) .null = .int (at7 (0 + i)) := by
            rw [Array.getD_eq_getD_getElem?, t6 _ (by omega)]
            rfl
          exact ⟨by show fits _ (scr.slots.getD (0 + i) .null) = true; rw [e]; rfl, by show (match scr.slots.getD (0 + i) .null with | _ => _); rw [e]; exact trivial⟩)
        (g := F0 Γ.2.1.1 pc ls (.int 7 :: .int 0 :: .ref (Γ.2.2.1.1 + b) :: .int 0 :: .ref t :: st.map (cv Γ.2.2.1.1))) rfl (by rw [← hls.1]) (rest := st.map (cv Γ.2.2.1.1)) rfl (by rw [hb]; exact d) (by omega) (by rw [cat_map]; show 2 * 0 + _ + _ ≤ _; omega)
      have e1 : copied scr (vp_cell (Γ.2.2.1.2.2 14) (nr, .inl (hI h b))) 0 0 7 = vp_cell (Γ.2.2.1.2.2 14) (nr, .inl (va_cpy at7 (hI h b) 0 0 7)) := va_copiedX (fun z => .int z) scr (Γ.2.2.1.2.2 14) at7 (hI h b) t6 (by decide)
      rw [e1] at Y' step
      have hlt : Γ.2.2.1.1 + b < H.size := (Array.getElem?_eq_some_iff.mp hc1).1
      have oq : ∀ q : Nat, q ≠ Γ.2.2.1.1 + b → (H.setIfInBounds (Γ.2.2.1.1 + b) (vp_cell (Γ.2.2.1.2.2 14) (nr, .inl (va_cpy at7 (hI h b) 0 0 7))))[q]? = H[q]? := fun q hq => by simp [Array.getElem?_setIfInBounds, Ne.symm hq]
      have eW := wsG_set Γ.2.2.1 h (rI h b (va_cpy at7 (hI h b) 0 0 7)) hr rfl (fun k' q' hk _ => cellE_rI _ _ _ _ q' hk)
      rw [cellE_i _ _ _ _ _ (by decide) (by decide) (by decide), hI_rI, if_pos rfl] at eW
      have hP' : Pw Γ.2.2.1 (rI h b (va_cpy at7 (hI h b) 0 0 7)) (H.setIfInBounds (Γ.2.2.1.1 + b) (vp_cell (Γ.2.2.1.2.2 14) (nr, .inl (va_cpy at7 (hI h b) 0 0 7)))) := by
        unfold Pw
        rw [← eW]
        exact va_P.set hP (wsG_D _ _) hg (show (H.setIfInBounds _ _)[_]? = some _ by simp [Array.getElem?_setIfInBounds, hlt]) oq
      obtain ⟨tt, a1, b1⟩ := k _ _ ls hP' ⟨by simp; exact hS.1, fun q g1 g2 => by
          rw [oq q (fun e => g2 (by rw [e]; exact Nat.le_add_right _ _))]
          exact hS.2.1 q g1 g2, fun q hq => by
          rcases List.mem_append.mp hq with z | z
          · exact hS.2.2 q z
          · obtain ⟨w, -, hz⟩ := List.mem_map.mp z
            rw [← hz]
            exact Nat.le_add_right _ _⟩ hls _ (by rw [← hT']; rfl) Y'
      exact ⟨tt, step tt a1, b1⟩
    · cases hx
  · cases hx
end StaticRows
theorem dX4_becomesNone_0 : decode cX4_becomesNone 0 = .ok (.aload_n 0, 1) := by decide +kernel
theorem dX4_becomesNone_1 : decode cX4_becomesNone 1 = .ok (.getstatic 31, 3) := by decide +kernel
theorem dX4_becomesNone_4 : decode cX4_becomesNone 4 = .ok (.arraylength, 1) := by decide +kernel
theorem dX4_becomesNone_5 : decode cX4_becomesNone 5 = .ok (.putfield 27, 3) := by decide +kernel
theorem dX4_becomesNone_8 : decode cX4_becomesNone 8 = .ok (.getstatic 31, 3) := by decide +kernel
theorem dX4_becomesNone_11 : decode cX4_becomesNone 11 = .ok (.iconst 0, 1) := by decide +kernel
theorem dX4_becomesNone_12 : decode cX4_becomesNone 12 = .ok (.aload_n 0, 1) := by decide +kernel
theorem dX4_becomesNone_13 : decode cX4_becomesNone 13 = .ok (.getfield 9, 3) := by decide +kernel
theorem dX4_becomesNone_16 : decode cX4_becomesNone 16 = .ok (.iconst 0, 1) := by decide +kernel
theorem dX4_becomesNone_17 : decode cX4_becomesNone 17 = .ok (.getstatic 31, 3) := by decide +kernel
theorem dX4_becomesNone_20 : decode cX4_becomesNone 20 = .ok (.arraylength, 1) := by decide +kernel
theorem dX4_becomesNone_21 : decode cX4_becomesNone 21 = .ok (.invokestatic 21, 3) := by decide +kernel
theorem dX4_becomesNone_24 : decode cX4_becomesNone 24 = .ok (.return_, 1) := by decide +kernel
def fn_X4_becomesNone (h : aH) (p0 : Nat) : Option aH :=
  (pI h p0 3 2 7).bind fun h1 =>
  (gR h1 p0 3 0).bind fun a2 =>
  cpS h1 a2
set_option maxRecDepth 20000 in
set_option maxHeartbeats 4000000 in
theorem ev_X4_becomesNone {l : Launch} {g : aG} {d : Nat} (hd : 1 ≤ d) (h : aH) (p0 : Nat) (o : aH) (hf : fn_X4_becomesNone h p0 = some o) : EvM l g d yX4_becomesNone cX4_becomesNone 1 none [.ref p0] h (none, o) := by
  refine EvM.of mk_X4_becomesNone (Nat.le_of_ble_eq_true rfl) ?_
  intro Γ hl hg hq X
  have hd1 : 1 ≤ d := by omega
  have hk : RqV Γ o := hq
  unfold fn_X4_becomesNone at hf
  obtain ⟨t, hZ, hT⟩ := X.2.2.2.2.2.1.2.2
  show Jd Γ (0, 0) 0 [some (.ref p0)] [] h
  refine r_aload_n (pc := 0) X dX4_becomesNone_0 rfl ?_
  refine r_gets (pc := 1) X hZ fs_X4_at dX4_becomesNone_1 ?_
  refine r_tlen (pc := 4) X hT dX4_becomesNone_4 ?_
  obtain ⟨h1, eh1, hf⟩ := ob hf
  refine r_putI (pc := 5) X dX4_becomesNone_5 fp_X4_27 rfl eh1 ?_
  refine r_gets (pc := 8) X hZ fs_X4_at dX4_becomesNone_8 ?_
  refine r_iconst (pc := 11) X 0 dX4_becomesNone_11 (by decide) ?_
  refine r_aload_n (pc := 12) X dX4_becomesNone_12 rfl ?_
  obtain ⟨a2, ea2, hf⟩ := ob hf
  refine r_getR (pc := 13) X dX4_becomesNone_13 fl_X4_9 rfl ea2 ?_
  refine r_iconst (pc := 16) X 0 dX4_becomesNone_16 (by decide) ?_
  refine r_gets (pc := 17) X hZ fs_X4_at dX4_becomesNone_17 ?_
  refine r_tlen (pc := 20) X hT dX4_becomesNone_20 ?_
  refine r_copyT (pc := 21) X hT dX4_becomesNone_21 ml_X4_21 hd1 (Nat.le_of_ble_eq_true rfl) hf ?_
  exact r_vret (pc := 24) X dX4_becomesNone_24 hk
