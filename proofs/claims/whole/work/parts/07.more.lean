section MoreRows
variable {Γ : aC} {own : String} {cc : ByteArray} {nL : Nat} {ret : Option FieldType} {rm : Nat × Nat × Nat} {cs : Nat × Nat} {pc : Nat} {lv : List (Option Value)} {st : List Value} {h : aH}
theorem r_aast (X : Cx Γ own cc nL ret rm) {a x : Nat} {i : Int32} {h' : aH} (d : decode cc pc = .ok (.aastore, 1)) (hx : wR h a i x = some h') (k : Jd Γ cs (pc + 1) lv st h') : Jd Γ cs pc lv (.ref x :: .int i :: .ref a :: st) h := by
  obtain ⟨u, hu, hx⟩ := Option.bind_eq_some_iff.mp hx
  obtain ⟨u', hu', rfl⟩ := Option.map_eq_some_iff.mp hx
  obtain ⟨n, hn, hin⟩ := ca_inv hu
  obtain ⟨n', hn'⟩ := ck_inv hu'
  intro H locs ls hP hS hls
  refine va_astq X.1 X.2.1 X.2.2.2.2.2.1.1 hP (wsG_D _ _) hS a 5 x 6 (r := (RX7, TX7, 6)) (f := fun j => cvo Γ.2.2.1.1 (hR h a j)) (by rw [wsG_get _ _ hn, cellE_r]) rfl (by rw [wsG_get _ _ hn', cellE_obj _ _ _ (by decide)]) rfl hin d ?_
  intro H1 locs1 g1 g2 g3
  have e := wsG_set Γ.2.2.1 h (sR h a i.toNatClampNeg (some x)) hn rfl (fun k' q' hk _ => cellE_rR _ _ _ _ q' hk)
  rw [cellE_r] at e
  have e2 : (fun j => cvo Γ.2.2.1.1 (hR (sR h a i.toNatClampNeg (some x)) a j)) = (fun j => if j = i.toNatClampNeg then some (Γ.2.2.1.1 + x) else cvo Γ.2.2.1.1 (hR h a j)) := by
    funext j; rw [hR_sR]; by_cases hj : j = i.toNatClampNeg <;> simp [hj, cvo]
  rw [e2] at e
  first
    | (rw [e] at g1; exact k H1 locs1 ls g1 g3 hls)
    | (have g1' : va_P Γ.2.2.1.2.1 vwCl (wsG Γ.2.2.1 (sR h a i.toNatClampNeg (some x))) H1 := by rw [← e]; exact g1
       exact k H1 locs1 ls g1' g3 hls)
theorem r_copy (X : Cx Γ own cc nL ret rm) {idx a b : Nat} {sp dp n : Int32} {h' : aH} (d : decode cc pc = .ok (.invokestatic idx, 3)) (hl : Cond.methodLink own idx arraycopyName ∈ lw_good) (hnat : Cond.native arraycopyName ∈ lw_good) (hsta : Cond.static arraycopyName ∈ lw_good) (hini : Cond.initialized "java/lang/System" ∈ lw_good)
    (hd : 1 ≤ rm.1) (hst : (st.map fun v => v.category).sum ≤ 8) (hx : cpI h a sp b dp n = some h') (k : Jd Γ cs (pc + 3) lv st h') : Jd Γ cs pc lv (.int n :: .int dp :: .ref b :: .int sp :: .ref a :: st) h := by
  unfold cpI at hx
  split at hx
  · rename_i q r hq hr
    split at hx
    · rename_i hc
      obtain ⟨c1, c2, c3, c4, c5, c6, c7⟩ := hc
      cases hx
      obtain ⟨kq, nq⟩ := q
      obtain ⟨kr, nr⟩ := r
      dsimp only at c1 c2 c6 c7
      subst c1; subst c2
      obtain ⟨hxx, hb, hml, hown, hts, hKK, hret, hlk, hR, hbase⟩ := id X
      obtain ⟨hRf, hRl, -, -⟩ := hR
      intro H locs ls hP hS hls
      refine va_copyi hxx hb hls.1.symm hown (hts _ hl) (hts _ hnat) (hts _ hsta) (hts _ hini) hKK.1 hP (wsG_D _ _) hS a b 2 2 (f := hI h a) (g := hI h b) (ty := .int) (by rw [wsG_get _ _ hq, cellE_i _ _ _ _ _ (by decide) (by decide) (by decide)]) (by rw [wsG_get _ _ hr, cellE_i _ _ _ _ _ (by decide) (by decide) (by decide)]) rfl rfl rfl c3 c4 c5 c6 c7 (fun _ _ => rfl) (by omega) ?_ d ?_
      · rw [cat_map]
        have : nativeFrameWords "java/lang/System" "arraycopy" 5 + 11 ≤ 50 := by decide +kernel
        omega
      · intro H1 locs1 g1 g2 g3
        have e := wsG_set Γ.2.2.1 h (rI h b (va_cpy (hI h a) (hI h b) sp.toNatClampNeg dp.toNatClampNeg n.toNatClampNeg)) hr rfl (fun k' q' hk _ => cellE_rI _ _ _ _ q' hk)
        rw [cellE_i _ _ _ _ _ (by decide) (by decide) (by decide)] at e
        have e2 : hI (rI h b (va_cpy (hI h a) (hI h b) sp.toNatClampNeg dp.toNatClampNeg n.toNatClampNeg)) b = va_cpy (hI h a) (hI h b) sp.toNatClampNeg dp.toNatClampNeg n.toNatClampNeg := by rw [hI_rI, if_pos rfl]
        rw [e2] at e
        rw [e] at g1
        exact k H1 locs1 ls g1 g3 hls
    · cases hx
  · cases hx
end MoreRows
