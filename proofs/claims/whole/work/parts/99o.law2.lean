/-! law as a step: both sides -/
theorem hR_sR18 (h : aH) (v : Option Nat) : hR (sR h 86 18 v) 86 18 = v := by rw [hR_sR, if_pos ⟨rfl, rfl⟩]
theorem stp_law (c : Nat) (hc : c ≤ 64) : STEP c (fun C => fn_X11_law C 0) (fun M => fn_X12_law M 86) := by
  intro C M ⟨N, sem, x, l, r⟩
  have r' : WRL N sem x l c C M := r
  obtain ⟨V, v0, cw, mw, tc, tm, tx, pa, ke, se⟩ := r
  have w := cw.1
  have m := mw.1
  have vM : VS N MH x := VS_mono (by unfold MH; omega) v0
  obtain ⟨n, T, hn, tC, t8, tT⟩ := txt_T tx
  obtain ⟨M0, eM⟩ : ∃ M0, M0 = sI M 86 11 0 := ⟨_, rfl⟩
  have m0 : Wf M0 := by rw [eM]; exact m
  have pM : pI M 86 11 11 0 = some M0 := by rw [eM]; exact w_pI m 86 11 11 _ rfl
  have gM0 : Fr lwM M M0 := by rw [eM]; exact (Fr.refl _ M).sI _ rfl
  have t80 : hI M0 86 8 = nI n := by rw [eM, hI_sI]; simp [t8]
  have tT0 : ∀ i, i < n → T i < 256 ∧ hI M0 91 i &&& 255 = nI (T i) ∧ (T i < 128 → hI M0 91 i = nI (T i)) := fun i hi => by rw [eM]; exact tT i hi
  obtain ⟨o, C1, code, a1, a2, a3, a4⟩ := read_all w tC
  have w1 := a2.wf w
  obtain ⟨C2, eC2⟩ : ∃ C2, C2 = sI C1 1 1 0 := ⟨_, rfl⟩
  have w2 : Wf C2 := by rw [eC2]; exact w1
  have F2 : Fr lwC C C2 := by rw [eC2]; exact (a2.mono rrC_lw).sI _ rfl
  have c11 : hI C2 1 1 = 0 := by rw [eC2, hI_row, if_pos rfl]
  have clr : fn_X8_clear C1 1 = some C2 := by unfold fn_X8_clear; rw [w_pI w1 1 7 1 _ rfl, eC2]; rfl
  obtain ⟨b, M1, b1, b3, b4, b5⟩ := readRule_M m0 t80 hn tT0
  have m1 := b3.wf m0
  have g1 : Fr lwM M M1 := gM0.trans (b3.mono rrM_lw)
  have h18M1 : hR M1 86 18 = hR M 86 18 := by rw [b3.r 86 18 (Or.inl rfl), eM]; rfl
  have h20M1 : hI M1 86 20 = hI M 86 20 := by rw [b3.i 86 20 rfl, eM, hI_row, if_neg (by decide)]
  have good : o = none → b = true → ∃ r C' M', fn_X11_law C 0 = some (r, C') ∧ fn_X12_law M 86 = some (r, M') ∧ REL (c + 1) C' M' ∧ Fr cls C C' ∧ Fr mdl M M' := by
    intro ho hb
    subst ho hb
    obtain ⟨z0, z1, z2, z3, z4, z5⟩ := a4 rfl
    -- the class
    have R17 : RuleC C2 17 (semOf code) := RuleC.at (h := C1) (by rw [eC2]; rfl) (by rw [eC2]; rfl) (RuleC_of (Or.inr rfl) z1 z2 z3 z4 z5)
    have S2 : St C2 22 x := St_to F2 (fun j => ⟨rfl, rfl, rfl⟩) cw.2.2.1
    have cw2 : CW N sem x C2 := cw.go F2 lwC_k S2
    obtain ⟨C3, C4, e3, w3, e4, F4, T4⟩ := trialC w2 cw2.2.1 S2 V vM cw2.2.2.2
    have w4 := F4.wf w2
    have cn4 := cw2.2.1.to (Or.inr rfl) F4
    have S4 : St C4 22 x := St_to F4 (fun j => ⟨rfl, rfl, rfl⟩) S2
    have R17' : RuleC C4 17 (semOf code) := R17.at (F4.row 18 fun _ => rfl) (F4.i 17 2 rfl)
    obtain ⟨C5, C6, e5, w5, e6, F6, T6⟩ := trialC w4 cn4 S4 V vM R17'
    have w6 := F6.wf w4
    have cn6 := cn4.to (Or.inr rfl) F6
    obtain ⟨Z1, hZ1⟩ : ∃ Z, Z = hrs N sem 10 (x, 0, 0, zer) := ⟨_, rfl⟩
    obtain ⟨Z2, hZ2⟩ : ∃ Z, Z = hrs N (semOf code) 10 (x, 0, 0, zer) := ⟨_, rfl⟩
    rw [← hZ1] at T4
    rw [← hZ2] at T6
    obtain ⟨e7, F7, T7⟩ := toldBegin w6
    have w7 := F7.wf w6
    obtain ⟨C8, e8, F8, T8⟩ := toldAdd w7 T7 (by decide) (Int32.toInt64 Z2.2.1)
    have w8 := F8.wf w7
    obtain ⟨C9, e9, F9, T9⟩ := toldAdd w8 T8 (by show (0 + 1) < 16; decide) (Int32.toInt64 Z1.2.1)
    have w9 := F9.wf w8
    have F79 := (F7.trans F8).trans F9
    have cn9 : CN N C9 := by
      obtain ⟨y1, y2, y3, y4⟩ := cn6
      refine ⟨(F79.i 3 0 rfl).trans y1, (F79.i 3 1 rfl).trans y2, (F79.i 3 2 rfl).trans y3, fun i hi => ?_⟩
      rw [F79.i 4 i rfl, F79.i 5 i rfl, F79.i 6 i rfl]
      exact y4 i hi
    obtain ⟨C10, e10, F10, T10⟩ := law_tellC (p := Z1.2.1) (q := Z2.2.1) w9 cn9 V (St_to F79 (fun j => ⟨rfl, rfl, rfl⟩) T6.1) T9 (by simp)
    have FC : Fr lwC C C10 := F2.trans (((F4.trans F6).mono (fun a j e => sh_sc a j (sc_lw a j e))).trans ((F79.trans F10).mono (fun a j e => stC_sc a j (sc_lw a j e))))
    have c1110 : hI C10 1 1 = 0 := by rw [F10.i 1 1 rfl, F79.i 1 1 rfl, F6.i 1 1 rfl, F4.i 1 1 rfl]; exact c11
    have exC : fn_X11_law C 0 = some (Z2.2.1 - Z1.2.1, C10) := by
      have g8 : gI C4 3 0 8 = some Z1.2.1 := by rw [w_gI w4 3 0 8 rfl, T4.2.1]
      have g8' : gI C6 3 0 8 = some Z2.2.1 := by rw [w_gI w6 3 0 8 rfl, T6.2.1]
      unfold fn_X11_law
      simp only [g_0_6 w, g_0_5 w, k_20 w, Option.bind_some, a1, g_0_0 w1, k_1 w1, clr]
      rw [if_pos (show wrI none = -1 from rfl)]
      simp only [k_0 w2, Option.bind_some, e3, g_0_1 w3, g_0_9 w3, g_0_4 w3, k_3 w3, e4, g_0_1 w4, g8, k_0 w4, e5, g_0_1 w5, g_0_9 w5, g_0_5 w5, k_3 w5, e6, g_0_1 w6, g8', g_0_11 w6, k_77 w6, e7, g_0_11 w7, k_77 w7, e8, g_0_11 w8, k_77 w8, e9, e10]
    -- the reference
    have mn1 : MN N M1 := by
      obtain ⟨y1, y2, y3, y4⟩ := mw.2.1
      refine ⟨(g1.i 86 1 rfl).trans y1, (g1.i 86 2 rfl).trans y2, (g1.i 86 3 rfl).trans y3, fun i hi => ?_⟩
      rw [g1.i 88 i rfl, g1.i 89 i rfl, g1.i 90 i rfl]
      exact y4 i hi
    have X1 : XM M1 87 x := XM.to g1 (fun _ => rfl) mw.2.2.1
    have R94 : RuleM M1 94 sem := RuleM.same (g1.row 94 fun _ => rfl) h20M1 h18M1 mw.2.2.2
    obtain ⟨M2, d2, G2, U2⟩ := thenM m1 mn1 X1 V vM R94
    have m2 := G2.wf m1
    rw [← hZ1] at U2
    have h18_2 : hR M2 86 18 = some 94 := (G2.r 86 18 (Or.inl rfl)).trans (h18M1.trans mw.2.2.2.1)
    have h20_2 : hI M2 86 20 = hI M 86 20 := (G2.i 86 20 rfl).trans h20M1
    obtain ⟨M3, eM3⟩ : ∃ M3, M3 = sI (sR M2 86 18 (some 95)) 86 20 (nI n) := ⟨_, rfl⟩
    have f18 : Fr (fun a j => a == 86 && (j == 18 || j == 20)) M2 M3 := by rw [eM3]; exact ((Fr.refl _ _).sR _ rfl rfl).sI _ rfl
    have m11 : Wf (sR M2 86 18 (some 95)) := ((Fr.refl (fun a j => a == 86 && j == 18) M2).sR (some 95) rfl rfl).wf m2
    have m3 := f18.wf m2
    have h18_3 : hR M3 86 18 = some 95 := by rw [eM3]; exact hR_sR18 M2 (some 95)
    have h20_3 : hI M3 86 20 = nI n := by rw [eM3, hI_row, if_pos rfl]
    obtain ⟨M4, e4', G4, R4⟩ := cp_text (bd := lb_X12_law_64 86 (nI n) Z1.2.1 94 (hI M 86 20)) (n := n) (q := 95) (h := M3) (by omega) (by decide) (fun k g hk F => by
      have wg := F.wf m3
      have hg : hR g 86 18 = some 95 := (F.r 86 18 (Or.inl rfl)).trans h18_3
      unfold lb_X12_law_64
      dsimp only
      rw [if_pos (nI_lt hk (by omega))]
      simp only [gR_86 wg hg, g_86_7 wg, Option.bind_some, aI_eq wg 91 12 80 rfl k (by omega) (by decide), wB_eq wg 95 40 rfl k (by omega) (by decide), nI_1]) (fun g F => by
      unfold lb_X12_law_64
      rw [if_neg (nI_nlt (Nat.le_refl n) (by omega))])
    have m4 := G4.wf m3
    have h18_4 : hR M4 86 18 = some 95 := (G4.r 86 18 (Or.inl rfl)).trans h18_3
    have h20_4 : hI M4 86 20 = nI n := (G4.i 86 20 rfl).trans h20_3
    have e91 : ∀ i, hI M3 91 i = hI M0 91 i := fun i => by rw [f18.i 91 i rfl, G2.i 91 i rfl, b3.i 91 i rfl]
    have R95 : RuleM M4 95 (semOf code) := by
      rcases a3 with ⟨n0, -, rfl⟩ | ⟨hn0, ho, rfl⟩
      · refine ⟨h18_4, Or.inr rfl, Or.inl ⟨by rw [h20_4, n0]; rfl, fun y => ?_⟩⟩
        unfold semOf
        rw [code0_v]
        rfl
      · refine RuleM_of (Or.inr rfl) h18_4 h20_4 hn0 z0 (fun i hi => ?_) ho.symm
        obtain ⟨y1, y2, y3⟩ := tT0 i hi
        rw [R4 i hi, e91]
        exact ⟨y1, nar_ok y1 y2 y3⟩
    have mn4 : MN N M4 := by
      obtain ⟨y1, y2, y3, y4⟩ := mn1.to (Or.inr rfl) G2
      refine ⟨((G4.i 86 1 rfl).trans (f18.i 86 1 rfl)).trans y1, ((G4.i 86 2 rfl).trans (f18.i 86 2 rfl)).trans y2, ((G4.i 86 3 rfl).trans (f18.i 86 3 rfl)).trans y3, fun i hi => ?_⟩
      rw [G4.i 88 i rfl, G4.i 89 i rfl, G4.i 90 i rfl, f18.i 88 i rfl, f18.i 89 i rfl, f18.i 90 i rfl]
      exact y4 i hi
    have X4 : XM M4 87 x := XM.to G4 (fun _ => rfl) (XM.to f18 (fun _ => rfl) (XM.to G2 (fun _ => rfl) X1))
    obtain ⟨M5, d5, G5, U5⟩ := thenM m4 mn4 X4 V vM R95
    have m5 := G5.wf m4
    rw [← hZ2] at U5
    obtain ⟨M6, eM6⟩ : ∃ M6, M6 = sI (sR M5 86 18 (some 94)) 86 20 (hI M 86 20) := ⟨_, rfl⟩
    have f6 : Fr (fun a j => a == 86 && (j == 18 || j == 20)) M5 M6 := by rw [eM6]; exact ((Fr.refl _ _).sR _ rfl rfl).sI _ rfl
    have m23 : Wf (sR M5 86 18 (some 94)) := ((Fr.refl (fun a j => a == 86 && j == 18) M5).sR (some 94) rfl rfl).wf m5
    have m6 := f6.wf m5
    have h18_6 : hR M6 86 18 = some 94 := by rw [eM6]; exact hR_sR18 M5 (some 94)
    have h20_6 : hI M6 86 20 = hI M 86 20 := by rw [eM6, hI_row, if_pos rfl]
    obtain ⟨d7, G7, V7⟩ := tellBegin m6
    have m7 := G7.wf m6
    obtain ⟨M8, d8, G8, V8⟩ := tellM m7 V7 (by decide) (Int32.toInt64 Z2.2.1)
    have m8 := G8.wf m7
    obtain ⟨M9, d9, G9, V9⟩ := tellM m8 V8 (by show (0 + 1) < 16; decide) (Int32.toInt64 Z1.2.1)
    have m9 := G9.wf m8
    have G79 := (G7.trans G8).trans G9
    have mn9 : MN N M9 := by
      obtain ⟨y1, y2, y3, y4⟩ := mn4.to (Or.inr rfl) G5
      refine ⟨((G79.i 86 1 rfl).trans (f6.i 86 1 rfl)).trans y1, ((G79.i 86 2 rfl).trans (f6.i 86 2 rfl)).trans y2, ((G79.i 86 3 rfl).trans (f6.i 86 3 rfl)).trans y3, fun i hi => ?_⟩
      rw [G79.i 88 i rfl, G79.i 89 i rfl, G79.i 90 i rfl, f6.i 88 i rfl, f6.i 89 i rfl, f6.i 90 i rfl]
      exact y4 i hi
    have e27 : hI M6 86 27 = Z2.2.1 := by rw [f6.i 86 27 rfl]; exact U5.2.1
    obtain ⟨M10, d10, G10, V10⟩ := law_tellM (p := Z1.2.1) (q := Z2.2.1) m9 mn9 V (XM.to G79 (fun _ => rfl) (XM.to f6 (fun _ => rfl) U5.1)) ((G79.i 86 27 rfl).trans e27) V9 (by simp)
    have sub18 : ∀ a j, lwM a j = false → (a == 86 && (j == 18 || j == 20)) = false := fun a j e => by
      unfold lwM at e; simp at e; simp; omega
    have FM : Fr lwM M M10 := g1.trans ((G2.mono (fun a j e => mh_sm a j (sm_lw a j e))).trans ((f18.mono sub18).trans ((G4.mono (fun a j e => by have := sm_lw a j e; unfold sm at this; simp at this; simp; omega)).trans ((G5.mono (fun a j e => mh_sm a j (sm_lw a j e))).trans ((f6.mono sub18).trans ((G79.trans G10).mono (fun a j e => stM_sm a j (sm_lw a j e))))))))
    have m8z : hI M10 86 8 = 0 := by rw [G10.i 86 8 rfl, G79.i 86 8 rfl, f6.i 86 8 rfl, G5.i 86 8 rfl, G4.i 86 8 rfl, f18.i 86 8 rfl, G2.i 86 8 rfl]; exact b4
    have exM : fn_X12_law M 86 = some (Z2.2.1 - Z1.2.1, M10) := by
      have g27 : gI M2 86 11 27 = some Z1.2.1 := by rw [w_gI m2 86 11 27 rfl, U2.2.1]
      have g20 : gI M2 86 11 20 = some (hI M 86 20) := by rw [w_gI m2 86 11 20 rfl, h20_2]
      have p12 : pI (sR M2 86 18 (some 95)) 86 11 20 (nI n) = some M3 := by rw [w_pI m11 86 11 20 _ rfl, eM3]
      have p24 : pI (sR M5 86 18 (some 94)) 86 11 20 (hI M 86 20) = some M6 := by rw [w_pI m23 86 11 20 _ rfl, eM6]
      have g27' : gI (sI M6 86 10 0) 86 11 27 = some Z2.2.1 := by rw [w_gI m7 86 11 27 rfl, hI_row, if_neg (by decide), e27]
      have b1' : fn_X12_readRule M0 86 = some (1, M1) := b1
      unfold fn_X12_law
      simp only [pM, w_gI m0 86 11 8 rfl, t80, Option.bind_some, k_86 m0, b1']
      rw [if_neg one0]
      simp only [k_86 m1, Option.bind_some, d2, g27, gR_86 m2 h18_2, g20, g_86_19 m2, pR18 m2 (Or.inr rfl), p12, e4', k_86 m4, d5, pR18 m5 (Or.inl rfl), p24, d7, g27', k_86 m7, d8, k_86 m8, d9, d10]
    refine ⟨_, C10, M10, exC, exM, ⟨N, sem, x, _, r'.law FC FM ?_ ?_ T10 V10 (TxtR.none c1110 m8z)⟩, FC.mono lwC_cls, FM.mono lwM_mdl⟩
    · rw [G10.r 86 18 (Or.inl rfl), G79.r 86 18 (Or.inl rfl), h18_6]
      exact mw.2.2.2.1.symm
    · rw [G10.i 86 20 rfl, G79.i 86 20 rfl, h20_6]
  rcases b5 with ⟨hb, nn⟩ | ⟨hb, hn0, wg, pe, gw⟩
  · refine good ?_ hb
    rcases a3 with ⟨n0, ho, -⟩ | ⟨hn0, ho, -⟩
    · exact ho
    · rcases nn with z | ⟨-, z⟩
      · omega
      · rw [ho, z]
  · subst hb
    have ho : o = some wg := by
      rcases a3 with ⟨n0, -, -⟩ | ⟨-, ho, -⟩
      · omega
      · rw [ho, pe]
    subst ho
    have wl : wg ≤ 80 := by
      rcases a3 with ⟨n0, -, -⟩ | ⟨-, ho, -⟩
      · omega
      · have := (read_agree (T := T) (n := n) (fun i hi => (tT i hi).1) hn0).1
        rw [pe] at this
        have := this.1
        omega
    have tcN : ToC C2 l := by
      have f0 : Fr rlC C C2 := by rw [eC2]; exact (a2.mono rrC_rl).sI _ rfl
      exact tc.to f0 rfl (fun _ => rfl)
    have tmN : ToM M1 l := by
      have t0 : ToM M0 l := by rw [eM]; exact tm
      exact t0.to b3 rfl (fun _ => rfl)
    refine ⟨-10000 - nI wg, C2, M1, ?_, ?_, ⟨N, sem, x, l, r'.law F2 g1 h18M1 h20M1 tcN tmN (TxtR.none c11 b4)⟩, F2.mono lwC_cls, g1.mono lwM_mdl⟩
    · show fn_X11_law C 0 = _
      unfold fn_X11_law
      simp only [g_0_6 w, g_0_5 w, k_20 w, Option.bind_some, a1, g_0_0 w1, k_1 w1, clr]
      show (if nI wg = -1 then _ else _) = _
      rw [if_neg (nI_m1 (by omega))]; rfl
    · show fn_X12_law M 86 = _
      have b1' : fn_X12_readRule M0 86 = some (0, M1) := b1
      unfold fn_X12_law
      simp only [pM, w_gI m0 86 11 8 rfl, t80, Option.bind_some, k_86 m0, b1']
      rw [if_pos trivial, gw]; rfl
