/-! rows of the law's own walk -/
def LC (Γ : aC) (b L : Nat) (xs : Nat → Int32) : Prop := Cx Γ RL cL_law 8 (some .boolean) (1000, 600128, 7301098) ∧ (va_X b L xs Γ.1.2.2.2.2 Γ.1.2.2.2.2.heap ∧ b < Γ.1.2.2.2.2.heap.size ∧ Γ.2.2.1.1 = Γ.1.2.2.2.2.heap.size) ∧ EX Γ.2.2.1 Γ.1.2.2.2.2 ∧ Γ.1.2.1.stackTraces = false ∧ L ≤ 320
def lvL (b : Nat) (i : Int32) : List (Option Value) := [some (.retAddr b), some (.ref 0), some (.ref 86), some (.ref 116), some (.int i), none, none, none]
theorem nI_cn {k : Nat} (hk : k < 2 ^ 31) : (nI k).toNatClampNeg = k := by
  have e : (nI k).toInt = (k : Int) := nI_toInt (by omega)
  show (nI k).toInt.toNat = k
  rw [e]; rfl
section LawRows
variable {Γ : aC} {cs : Nat × Nat} {pc : Nat} {lv : List (Option Value)} {st : List Value} {h : aH} {b L : Nat} {xs : Nat → Int32}
theorem r_aloadQ_n {own : String} {cc : ByteArray} {nL : Nat} {ret : Option FieldType} {rm : Nat × Nat × Nat} (X : Cx Γ own cc nL ret rm) {i : Fin 4} {x : Nat} (d : decode cc pc = .ok (.aload_n i, 1)) (hv : lv[(i : Nat)]? = some (some (.retAddr x))) (k : Jd Γ cs (pc + 1) lv (.retAddr x :: st) h) : Jd Γ cs pc lv st h := fun H locs ls hP hS hl => lv_aload_n X.1 X.2.1 d rfl (hl.at hv) (k H locs ls hP hS hl)
theorem r_sld (D : LC Γ b L xs) {i : Int32} {k : Nat} (d : decode cL_law pc = .ok (.iaload, 1)) (hi : i = nI k) (hk : k < L) (kk : Jd Γ cs (pc + 1) lv (.int (xs k) :: st) h) : Jd Γ cs pc lv (.int i :: .retAddr b :: st) h := by
  obtain ⟨X, ⟨hX, hbl, hbase⟩, -, -, hL⟩ := D
  subst hi
  have cn : (nI k).toNatClampNeg = k := nI_cn (by omega)
  intro H locs ls hP hS hl
  refine va_sld X.1 X.2.1 hX hbl (A := aA Γ.2.2.1) (by show ¬ Γ.2.2.1.1 ≤ b; omega) hS (i := nI k) (fun q => ?_) d ?_
  · rcases q with q | q
    · exact nI_pos (by omega) q
    · rw [cn] at q; omega
  · rw [cn]; exact kk H locs ls hP hS hl
theorem r_slen (D : LC Γ b L xs) (d : decode cL_law pc = .ok (.arraylength, 1)) (kk : Jd Γ cs (pc + 1) lv (.int (nI L) :: st) h) : Jd Γ cs pc lv (.retAddr b :: st) h := by
  obtain ⟨X, ⟨hX, hbl, hbase⟩, -, -, hL⟩ := D
  intro H locs ls hP hS hl
  exact va_slen X.1 X.2.1 hX hbl (A := aA Γ.2.2.1) (by show ¬ Γ.2.2.1.1 ≤ b; omega) hS d (kk H locs ls hP hS hl)
theorem r_tabIn (D : LC Γ b L xs) {dflt lo hi : Int} {offs : Array Int} {len : Nat} {x : Int32} {off : Int} (tgt : Nat) (d : decode cL_law pc = .ok (.tableswitch dflt lo hi offs, len)) (h1 : ¬ x.toInt < lo) (h2 : ¬ hi < x.toInt) (ho : offs[(x.toInt - lo).toNat]? = some off) (ht : (pc : Int) + off = (tgt : Int)) (kk : Jd Γ cs tgt lv st h) : Jd Γ cs pc lv (.int x :: st) h :=
  fun H locs ls hP hS hl => lv_tableIn D.1.1 D.1.2.1 d h1 h2 ho ht (kk H locs ls hP hS hl)
theorem r_tabOut (D : LC Γ b L xs) {dflt lo hi : Int} {offs : Array Int} {len : Nat} {x : Int32} (tgt : Nat) (d : decode cL_law pc = .ok (.tableswitch dflt lo hi offs, len)) (h1 : x.toInt < lo ∨ hi < x.toInt) (ht : (pc : Int) + dflt = (tgt : Int)) (kk : Jd Γ cs tgt lv st h) : Jd Γ cs pc lv (.int x :: st) h :=
  fun H locs ls hP hS hl => lv_tableOut D.1.1 D.1.2.1 d h1 ht (kk H locs ls hP hS hl)
theorem run_goW {p : Program} {l : Launch} {e : Env} {R : Room} {s : State} {m : MethodId} {args : Array Value} {below : List Frame} {meth : Method} {c : Code} {H : Heap} {locs : List Loc} {cells slots mc ms : Nat} {Q : State → Prop} {pc : Nat} {ls : Array Slot} {st0 rest : List Value} {g : aG} {q : Option Value × aH} {a : Array Value}
    (hr : va_Run p l e R s m args below meth c H locs cells slots mc ms (F0 m pc ls st0) rest (Qcg g q a) (aA g)) (hS : va_S (aA g) s.heap H locs)
    (kk : ∀ (H1 : Heap) (locs1 : List Loc), Pw g q.2 H1 → va_S (aA g) s.heap H1 locs1 → W p l e R s m args below meth c H1 locs1 (cells + mc) (slots + ms) Q (F0 m (pc + 3) ls ((q.1.map (cv g.1)).toList ++ rest))) : W p l e R s m args below meth c H locs cells slots Q (F0 m pc ls st0) := by
  intro T hT X
  obtain ⟨v, st₀, t, T', L, h0, X', hL, e1, e2, ⟨hv, hp, hz, hk⟩, st⟩ := hr T hT X
  cases hv
  rw [h0] at hz hk
  obtain ⟨t2, a1, b1⟩ := kk T'.heap (locs ++ L) (by rw [e1]; exact hp)
    ⟨Nat.le_trans hS.1 (by rw [e1]; exact hz), fun q h1 h2 => by rw [e1, hk q (Nat.lt_of_lt_of_le h1 hS.1) h2]; exact hS.2.1 q h1 h2, fun q hq => by
      rcases List.mem_append.mp hq with h | h
      · exact hS.2.2 q h
      · exact hL q h⟩ T' rfl X'
  exact ⟨t2, st t2 a1, b1⟩
theorem goodIn_cw {y : MethodName} {b : ByteArray} {nL : Nat} {r : Option FieldType} {hh : List (Nat × Nat × Nat × Nat)} (h : Cond.codeWith y b nL r hh ∈ lw_good) : GoodIn lw_good (.codeWith y b nL r hh :: lw_good) := fun w hw => by
  rcases List.mem_cons.mp hw with rfl | hw
  · exact lw_good_good _ h
  · exact lw_good_good _ hw
theorem r_callSW {own : String} {cc : ByteArray} {nL : Nat} {ret : Option FieldType} {rm : Nat × Nat × Nat} (X : Cx Γ own cc nL ret rm) {idx na nL' : Nat} {y : MethodName} {bb : ByteArray} {r : Option FieldType} {hh : Nat × Nat × Nat × Nat} {q : Option Value × aH} (As : List Value) (hE : EX Γ.2.2.1 Γ.1.2.2.2.2) (d : decode cc pc = .ok (.invokestatic idx, 3)) (hl : Cond.methodLink own idx y ∈ lw_good) (M : WOk y bb nL' r hh na)
    (hcs : cs.1 + 1 ≤ rm.2.1 ∧ cs.2 + 6 ≤ rm.2.2) (E : EvW Γ.1.2.1 Γ.2.2.1 (rm.1 - 1) y bb nL' r hh As h q) (hd : 1 ≤ rm.1) (hn : As.length = na) (hst : (st.map fun v => v.category).sum ≤ 8)
    {st0 : List Value} (hs0 : st0 = As.reverse ++ st) (k : Jd Γ (cs.1 + 1, cs.2 + 6) (pc + 3) lv (q.1.toList ++ st) q.2) : Jd Γ cs pc lv st0 h := by
  subst hs0
  obtain ⟨hcode, hini, hy, hpn, hsta, hnl⟩ := M
  obtain ⟨hx, hb, hml, hown, hts, hKK, hret, hlk, hR, hbase⟩ := id X
  intro H locs ls hP hS hls
  obtain ⟨dd, hdd⟩ : ∃ dd, dd + 1 = rm.1 := ⟨rm.1 - 1, by omega⟩
  have hdd1 : rm.1 - 1 = dd := by omega
  rw [hdd1] at E
  obtain ⟨hRf, hRl, hRc, hRs⟩ := hR
  have cw : vx_CSW Γ.1.2.2.2.1 Γ.1.2.2.2.2 Γ.2.1.2.1 own idx y bb nL' r [hh] (.codeWith y bb nL' r [hh] :: lw_good) (rmOf (dd, 1, 6)) 1 6 na :=
    ⟨⟨rfl, rfl, by show dd + 1 ≤ _; omega, by show 8 + (nL' + 11) + 60 * dd ≤ _; omega, pay_in hts (goodIn_cw hcode), List.mem_cons_self⟩, hts _ hcode, hts _ hini, ⟨hy.1, hy.2.1⟩, fun sig hsig => by
      have h2 := hy.2.2
      rw [hsig] at h2
      exact (Option.some.inj h2).symm, hts _ hl, hts _ hsta⟩
  have hrun := vx_runSW (As := As.map (cv Γ.2.2.1.1)) (rest := st.map (cv Γ.2.2.1.1)) (n := na) (Ts := lw_good) (own := own) (index := idx) (g := F0 Γ.2.1.1 pc ls ((As.reverse ++ st).map (cv Γ.2.2.1.1))) (H := H) (locs := locs) (cells := cs.1) (slots := cs.2) (below := Γ.2.1.2.2.1) (meth := Γ.2.1.2.2.2.1) (e := Γ.1.2.2.1)
    ⟨hx, hb, hml, hown, hts⟩ E cw
    ⟨Pcx_blind _ _ _, fun U hU hW => ⟨rfl, by rw [hU]; exact hP, KK.to hW.alike (by rw [hU]; exact hS.2.1) hKK, EX.to hW (by rw [hU]; exact hS.2.1) hE, by rw [hU]; exact X.le hS⟩⟩
    rfl (by rw [List.length_map]; exact hn) (X.size hls) (by simp [List.map_append, List.map_reverse]) (lv_room (by rw [cat_map]; exact hst)) d ⟨by rw [hRc]; exact hcs.1, by rw [hRs]; exact hcs.2⟩
  exact run_goW hrun hS (fun H1 locs1 h1 h2 => by rw [cv_app]; exact k H1 locs1 ls h1 h2 hls)
theorem STEP.law2 {c : Nat} {fC fM : aH → Option (Int32 × aH)} (s : STEP c fC fM) {h : aH} (R : REL c h h) : ∃ r h1 h2, fC h = some (r, h1) ∧ fM h1 = some (r, h2) ∧ REL (c + 1) h2 h2 ∧ Wf h ∧ Wf h1 := by
  obtain ⟨r0, C0, M0, e0, -, -, F0, -⟩ := s h h R
  obtain ⟨r, C', M', e1, e2, R', F, H⟩ := s h C0 (R.mside F0)
  have := e0.symm.trans e1
  cases this
  have w : Wf h := by
    obtain ⟨N, sem, x, l, V, v, cw, -⟩ := R
    exact cw.1
  exact ⟨r0, C0, M', e0, e2, R'.cside H, w, F0.wf w⟩
end LawRows
