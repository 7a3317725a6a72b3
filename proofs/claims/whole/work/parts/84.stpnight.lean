/-! night as a step -/
def btM (a j : Nat) : Bool := a == 86 && (j == 8 || (j == 12 || (j == 13 || (j == 14 || (j == 15 || j == 16)))))
theorem beginText_M {T : Nat → Nat} {n top : Nat} {M : aH} (m : Wf M) (e8 : hI M 86 8 = nI n) (hn : n ≤ 80) (ht : top ≤ 80) (tx : ∀ i, i < n → T i < 256 ∧ hI M 91 i &&& 255 = nI (T i) ∧ (T i < 128 → hI M 91 i = nI (T i))) : ∃ h, fn_X12_beginText M 86 (nI top) = some h ∧ RD 91 T n top 0 none h ∧ Fr btM M h ∧ hI h 86 8 = 0 := by
  obtain ⟨A, eA⟩ : ∃ A, A = sR M 86 12 (some 91) := ⟨_, rfl⟩
  have fA : Fr btM M A := by rw [eA]; exact (Fr.refl _ M).sR _ rfl rfl
  have wA := fA.wf m
  obtain ⟨D, eD⟩ : ∃ D, D = sI (sI (sI (sI (sI A 86 13 (nI n)) 86 14 (nI top)) 86 15 0) 86 16 (-1)) 86 8 0 := ⟨_, rfl⟩
  have fD : Fr btM M D := by rw [eD]; exact ((((fA.sI _ rfl).sI _ rfl).sI _ rfl).sI _ rfl).sI _ rfl
  have w1 : Wf (sI A 86 13 (nI n)) := wA
  have w2 : Wf (sI (sI A 86 13 (nI n)) 86 14 (nI top)) := wA
  have w3 : Wf (sI (sI (sI A 86 13 (nI n)) 86 14 (nI top)) 86 15 0) := wA
  have w4 : Wf (sI (sI (sI (sI A 86 13 (nI n)) 86 14 (nI top)) 86 15 0) 86 16 (-1)) := wA
  have pr : pR M 86 11 12 91 = some A := by
    unfold pR
    rw [k_86 m, eA]
    rfl
  refine ⟨D, ?_, ⟨fD.wf m, ?_, ?_, ?_, ?_, ?_, hn, ht, by omega, fun p q => (by cases q), ⟨80, rfl, hn, by omega⟩, by decide, fun i hi => ?_⟩, fD, ?_⟩
  · unfold fn_X12_beginText fn_X12_begin
    rw [g_86_7 m, Option.bind_some, w_gI m 86 11 8 rfl, Option.bind_some, e8, k_86 m, Option.bind_some, pr, Option.bind_some, w_pI wA 86 11 13 _ rfl, Option.bind_some, w_pI w1 86 11 14 _ rfl, Option.bind_some, w_pI w2 86 11 15 _ rfl, Option.bind_some, w_pI w3 86 11 16 _ rfl, Option.bind_some, Option.bind_some, w_pI w4 86 11 8 _ rfl, ← eD, Option.bind_some]
  · rw [eD, hR_sI, hR_sI, hR_sI, hR_sI, hR_sI, eA, hR_sR]; simp
  · rw [eD]; simp [hI_sI]
  · rw [eD]; simp [hI_sI]
  · rw [eD]; simp [hI_sI]; rfl
  · rw [eD]; simp [hI_sI]; rfl
  · rw [fD.i 91 i rfl]; exact tx i hi
  · rw [eD]; simp [hI_sI]
def ntC (a j : Nat) : Bool := acC a j || txC a j
def ntM (a j : Nat) : Bool := acM a j || (a == 86 && j == 8)
theorem ntC_k (a j : Nat) (e : kC a j = true) : ntC a j = false := by unfold ntC; rw [acC_k a j e, txC_k a j e]; rfl
theorem ntM_k (a j : Nat) (e : kM a j = true) : ntM a j = false := by
  unfold ntM; rw [acM_k a j e]; unfold kM at e; simp at e ⊢; omega
theorem ntC_cls (a j : Nat) (e : cls a j = false) : ntC a j = false := by unfold ntC; rw [acC_cls a j e, txC_cls a j e]; rfl
theorem ntM_mdl (a j : Nat) (e : mdl a j = false) : ntM a j = false := by
  unfold ntM; rw [acM_mdl a j e]; unfold mdl at e; simp at e ⊢; omega
theorem acC_nt (a j : Nat) (e : ntC a j = false) : acC a j = false := by unfold ntC at e; simp at e; exact e.1
theorem txC_nt (a j : Nat) (e : ntC a j = false) : txC a j = false := by unfold ntC at e; simp at e; exact e.2
theorem acM_nt (a j : Nat) (e : ntM a j = false) : acM a j = false := by unfold ntM at e; simp at e; exact e.1
theorem btM_nt (a j : Nat) (e : ntM a j = false) : btM a j = false := by
  have h1 := acM_nt a j e
  unfold ntM at e; unfold acM sm at h1; unfold btM; simp at e h1 ⊢; omega
theorem rdA_ac (a j : Nat) (e : acM a j = false) : rdA a j = false := by
  unfold acM sm at e; unfold rdA rdS; simp at e ⊢; omega
theorem WRL.night {N : Net} {sem : Sem} {x y : XX} {l l' : List Int64} {c : Nat} {C M C1 M1 : aH} (r : WRL N sem x l c C M) (f : Fr ntC C C1) (g : Fr ntM M M1) (S3 : St C1 22 y) (X3 : XM M1 87 y) (v : VS N (300 * (c + 1)) y) (tc : ToC C1 l') (tm : ToM M1 l') (tx : TxtR C1 M1) (pa : PastR N (300 * (c + 1)) C1 M1) : WRL N sem y l' (c + 1) C1 M1 := by
  obtain ⟨V, v0, cw, mw, -, -, -, -, ke, se⟩ := r
  refine ⟨V, v, cw.go f ntC_k S3, mw.go g ntM_k X3, tc, tm, tx, pa, ?_, ?_⟩
  · exact ke.to f g (fun a j h1 h2 => by unfold ntC acC sc psC txC; simp; omega) rfl (fun a j h1 h2 => by unfold ntM acM sm psM; simp; omega) (by omega) (by omega)
  · exact se.to2 f g rfl (fun a j h1 h2 => by unfold ntC acC sc psC txC; simp; omega) rfl (fun a j h1 h2 => by unfold ntM acM sm psM; simp; omega)
theorem txt_T {C M : aH} (t : TxtR C M) : ∃ n T, n ≤ 80 ∧ TxC T n C ∧ hI M 86 8 = nI n ∧ ∀ i, i < n → T i < 256 ∧ hI M 91 i &&& 255 = nI (T i) ∧ (T i < 128 → hI M 91 i = nI (T i)) := by
  obtain ⟨n, hn, h1, h2, h3⟩ := t
  refine ⟨n, fun i => (hI C 2 i).toNatClampNeg, hn, ⟨hn, h1, fun i hi => ?_⟩, h2, fun i hi => ?_⟩
  · obtain ⟨c, c1, c2, c3, c4⟩ := h3 i hi
    dsimp only
    rw [c2, nI_clamp (by omega)]
    exact ⟨c1, rfl⟩
  · obtain ⟨c, c1, c2, c3, c4⟩ := h3 i hi
    dsimp only
    rw [c2, nI_clamp (by omega)]
    exact ⟨c1, c3, c4⟩
theorem stp_night (c : Nat) (hc : c ≤ 64) : STEP c (fun C => fn_X11_night C 0) (fun M => fn_X12_night M 86) := by
  intro C M ⟨N, sem, x, l, r⟩
  have r' : WRL N sem x l c C M := r
  obtain ⟨V, v0, cw, mw, tc, tm, tx, pa, ke, se⟩ := r
  have w := cw.1
  have m := mw.1
  obtain ⟨n, T, hn, tC, t8, tT⟩ := txt_T tx
  obtain ⟨M0, eM⟩ : ∃ M0, M0 = sI M 86 11 0 := ⟨_, rfl⟩
  have m0 : Wf M0 := by rw [eM]; exact m
  have gM0 : Fr ntM M M0 := by rw [eM]; exact (Fr.refl _ M).sI _ rfl
  have hM0 : Fr txM M M0 := by rw [eM]; exact (Fr.refl _ M).sI _ rfl
  obtain ⟨M1, b1, b2', b3, b4⟩ := beginText_M (T := T) (n := n) (top := 60) m0 (by rw [eM, hI_sI]; simp [t8]) hn (by decide) (fun i hi => by rw [eM]; exact tT i hi)
  obtain ⟨o, o1, o2, o3⟩ := nightM_read b2'
  have gO : Fr ntM M o.2 := (gM0.trans (b3.mono btM_nt)).trans (o2.mono (fun a j e => rdA_ac a j (acM_nt a j e)))
  have mO := gO.wf m
  have XO : XM o.2 87 x := XM.to o2 (fun _ => rfl) (XM.to b3 (fun _ => rfl) (XM.to hM0 (fun _ => rfl) mw.2.2.1))
  have tmO : ToM o.2 l := ((tm.to hM0 rfl (fun _ => rfl)).to b3 rfl (fun _ => rfl)).to o2 rfl (fun _ => rfl)
  have o8 : hI o.2 86 8 = 0 := (o2.i 86 8 rfl).trans b4
  have headM : fn_X12_night M 86 = (fn_X12_wasRight o.2 86).bind fun o16 => if o16.1 = 0 then (gI o16.2 86 11 16).bind fun x47 => some (((-1) - x47), o16.2) else (gR o16.2 86 11 0).bind fun a17 => (gR o16.2 86 11 25).bind fun a18 => (fn_X12_lay o16.2 a17 a18 0).bind fun h19 => (lp (lb_X12_night_72 86 o.1) lpN (0, h19)).bind fun o31 => ((if o31.1 ≤ 0 then some o31.2 else (gR o31.2 86 11 25).bind fun a43 => (ck o31.2 86 11).bind fun u44 => (fn_X12_remember o31.2 86 a43).bind fun h45 => some h45) : Option aH).bind fun t32 => (pI t32 86 11 10 0).bind fun h33 => ((if o31.1 < o.1 then some 1 else some 0) : Option Int64).bind fun t34 => (ck h33 86 11).bind fun u35 => (fn_X12_tell h33 86 t34).bind fun h36 => (gR h36 86 11 0).bind fun a37 => (ck h36 86 11).bind fun u38 => (fn_X12_sumOf h36 86 a37 0).bind fun x39 => (ck h36 86 11).bind fun u40 => (fn_X12_tell h36 86 (Int32.toInt64 x39)).bind fun h41 => some (o31.1, h41) := by
    unfold fn_X12_night
    rw [w_pI m 86 11 11 _ rfl, ← eM, Option.bind_some, k_86 m0, Option.bind_some, show (60 : Int32) = nI 60 from rfl, b1, Option.bind_some, o1, Option.bind_some, k_86 mO, Option.bind_some]
  rcases o3 with ⟨K, g, hK, eK, am, rr⟩ | ⟨K, q, p, g, hp, ea, rr⟩
  · -- read right
    have nr := nres_ok hn g hK
    obtain ⟨gK1, gK2⟩ := good_pos K g
    obtain ⟨C1, t1, t2, t3⟩ := takes_eq w (k := 25) (q := 22) (by decide) (by decide) (by decide)
    have w1 := t2.wf w
    have S1 : St C1 22 x := St_to t2 (fun j => ⟨rfl, rfl, rfl⟩) cw.2.2.1
    have cw1 : CW N sem x C1 := cw.go (t2.mono tk25_ac) acC_k S1
    have mwO : MW N sem x o.2 := mw.go gO ntM_k XO
    obtain ⟨M2, eM2⟩ : ∃ M2, M2 = rI o.2 98 (va_cpy (hI o.2 87) (hI o.2 98) 0 0 16) := ⟨_, rfl⟩
    have ly : fn_X12_lay o.2 87 98 0 = some M2 := by
      rw [eM2]
      exact lay_eq mO 87 98 16 16 0 rfl rfl (by decide) (by decide) (by decide) (by decide) (by decide)
    have f98 : Fr (fun a j => a == 98) o.2 M2 := by rw [eM2]; exact (Fr.refl _ _).rI _ (fun _ => rfl)
    have f98' : Fr acM o.2 M2 := by rw [eM2]; exact (Fr.refl _ _).rI _ (fun _ => rfl)
    have m2 := f98.wf mO
    have x98 : ∀ k, k < 16 → hI M2 98 k = x k := fun k hk => by
      rw [eM2, hI_rI, if_pos rfl, cpy_i0 _ _ _ _ _ hk, Nat.zero_add]
      exact XO k hk
    have X2 : XM M2 87 x := XM.to f98 (fun _ => rfl) XO
    have mw2 : MW N sem x M2 := mwO.go f98' acM_k X2
    obtain ⟨d, bad, C2, M3, y, i1, i2, i3, i4, i5, i6, i7, i8, i9⟩ := doing_lp (N := N) (sem := sem) (B := 300 * c) V g hK hn (by omega) K 0 (by omega) lpN lpN C1 M2 x (by show K + 1 < 2000; omega) (by show K < 2000; omega) cw1 mw2 (VS_mono (by omega) v0) (tC.to t2 rfl (fun _ => rfl)) (am.to f98 (fun _ => rfl))
    have w2 := i5.wf w1
    have m3 := i6.wf m2
    have vy : VS N (300 * (c + 1)) y := VS_mono (by omega) i9
    -- the text is cleared
    obtain ⟨C3, eC3⟩ : ∃ C3, C3 = sI C2 1 1 0 := ⟨_, rfl⟩
    have f3 : Fr txC C2 C3 := by rw [eC3]; exact (Fr.refl _ _).sI _ rfl
    have w3 := f3.wf w2
    have S3 : St C3 22 y := St_to f3 (fun j => ⟨rfl, rfl, rfl⟩) i7
    have S25 : St C3 25 x := St_to f3 (fun j => ⟨rfl, rfl, rfl⟩) (St_to i5 (fun j => ⟨rfl, rfl, rfl⟩) (t3 x cw.2.2.1))
    -- what is remembered
    obtain ⟨pn, Pp, ad, hpn, pc, pm, pv⟩ := pa
    have pc3 : PastC pn Pp ad C3 := ((pc.to t2 rfl (fun _ => rfl) (fun a j h1 h2 => by unfold tk; simp; omega) hpn).to i5 rfl (fun _ => rfl) (fun a j h1 h2 => by unfold sh; simp; omega) hpn).to f3 rfl (fun _ => rfl) (fun a j h1 h2 => by unfold txC; simp; omega) hpn
    have pm3 : PastM pn Pp M3 := by
      refine ⟨?_, fun i hi k hk => ?_⟩
      · rw [i6.i 86 24 rfl, f98.i 86 24 rfl, o2.i 86 24 rfl, b3.i 86 24 rfl, hM0.i 86 24 rfl]; exact pm.1
      · rw [i6.i 97 _ rfl, f98.i 97 _ rfl, o2.i 97 _ rfl, b3.i 97 _ rfl, hM0.i 97 _ rfl]; exact pm.2 i hi k hk
    have y98 : ∀ k, k < 16 → hI M3 98 k = x k := fun k hk => (i6.i 98 k rfl).trans (x98 k hk)
    obtain ⟨C4, M4, pn', Pp', ad', hpn', y1, y2, y3, y4, y5, y6, y7⟩ : ∃ C4 M4 pn' Pp' ad', pn' ≤ 12 ∧ ((if nI d ≤ 0 then some C3 else (gR C3 0 10 10).bind fun a53 => (gR C3 0 10 8).bind fun a54 => (ck C3 a53 1).bind fun u55 => (fn_X2_push C3 a53 a54).bind fun h56 => some h56) : Option aH) = some C4 ∧ ((if nI d ≤ 0 then some M3 else (gR M3 86 11 25).bind fun a43 => (ck M3 86 11).bind fun u44 => (fn_X12_remember M3 86 a43).bind fun h45 => some h45) : Option aH) = some M4 ∧ Fr psC C3 C4 ∧ Fr psM M3 M4 ∧ PastC pn' Pp' ad' C4 ∧ PastM pn' Pp' M4 ∧ ∀ i, i < pn' → VS N (300 * (c + 1)) (Pp' i) := by
      by_cases h0 : d = 0
      · subst h0
        exact ⟨C3, M3, pn, Pp, ad, hpn, by rw [if_pos (by decide)], by rw [if_pos (by decide)], Fr.refl _ _, Fr.refl _ _, pc3, pm3, fun i hi => VS_mono (by omega) (pv i hi)⟩
      · have nz : ¬ nI d ≤ 0 := nI_ge (a := 0) (by omega) (by omega)
        obtain ⟨C4, ad', q1, q2, q3⟩ := push_eq w3 hpn pc3 S25
        obtain ⟨M4, s1, s3, s4⟩ := remember_eq m3 hpn pm3 (a := 98) (na := 16) rfl (by decide) (by decide) (x := x) y98
        obtain ⟨z1, z2⟩ := psh_VS (c := 300 * (c + 1)) (x := x) hpn (fun i hi => VS_mono (by omega) (pv i hi)) (VS_mono (by omega) v0)
        refine ⟨C4, M4, pshN pn, pshP pn Pp x, ad', z1, ?_, ?_, q2, s3, q3, s4, z2⟩
        · rw [if_neg nz, g_0_10 w3, Option.bind_some, g_0_8 w3, Option.bind_some, k_31 w3, Option.bind_some, q1, Option.bind_some]
        · rw [if_neg nz, g_86_25 m3, Option.bind_some, k_86 m3, Option.bind_some, s1, Option.bind_some]
    have w4 := y3.wf w3
    have m4 := y4.wf m3
    have fC4 : Fr ntC C C4 := ((((t2.mono tk25_ac).trans (i5.mono sh22_ac)).mono acC_nt).trans (f3.mono txC_nt)).trans ((y3.mono psC_ac).mono acC_nt)
    have gM4 : Fr ntM M M4 := gO.trans (((f98'.trans (i6.mono mh87_ac)).trans (y4.mono psM_ac)).mono acM_nt)
    have S4 : St C4 22 y := St_to y3 (fun j => ⟨rfl, rfl, rfl⟩) S3
    have X4 : XM M4 87 y := XM.to y4 (fun _ => rfl) i8
    have cw4 : CW N sem y C4 := cw.go fC4 ntC_k S4
    have mw4 : MW N sem y M4 := mw.go gM4 ntM_k X4
    -- told
    obtain ⟨v1, ev1⟩ : ∃ v1 : Int64, v1 = if d < K then 1 else 0 := ⟨_, rfl⟩
    obtain ⟨u1, u2, u3⟩ := toldBegin w4
    have w5 := u2.wf w4
    obtain ⟨C6, u4, u5, u6⟩ := toldAdd w5 u3 (by decide) v1
    have w6 := u5.wf w5
    obtain ⟨C7, u7, u8, u9⟩ := toldAdd w6 u6 (by simp) (Int32.toInt64 (sumI (N_b N) y))
    obtain ⟨e1, e2, e3⟩ := tellBegin m4
    have m5 := e2.wf m4
    obtain ⟨M6, e4, e5, e6⟩ := tellM m5 e3 (by decide) v1
    have m6 := e5.wf m5
    obtain ⟨M7, e7, e8, e9⟩ := tellM m6 e6 (by simp) (Int32.toInt64 (sumI (N_b N) y))
    have uu : Fr stC C4 C7 := (u2.trans u5).trans u8
    have ee : Fr stM M4 M7 := (e2.trans e5).trans e8
    have cw6 : CW N sem y C6 := cw4.go ((u2.trans u5).mono stC_ac) acC_k (St_to (u2.trans u5) (fun j => ⟨rfl, rfl, rfl⟩) S4)
    have mw6 : MW N sem y M6 := mw4.go ((e2.trans e5).mono stM_ac) acM_k (XM.to (e2.trans e5) (fun _ => rfl) X4)
    have fC : Fr ntC C C7 := fC4.trans ((uu.mono stC_ac).mono acC_nt)
    have fM : Fr ntM M M7 := gM4.trans ((ee.mono stM_ac).mono acM_nt)
    have tx7 : TxtR C7 M7 := by
      refine ⟨0, by omega, ?_, ?_, fun i hi => absurd hi (by omega)⟩
      · rw [uu.i 1 1 rfl, y3.i 1 1 rfl, eC3, hI_sI]; simp; rfl
      · rw [ee.i 86 8 rfl, y4.i 86 8 rfl, i6.i 86 8 rfl, f98.i 86 8 rfl]; exact o8
    refine ⟨nI d, C7, M7, ?_, ?_, ⟨N, sem, y, _, r'.night fC fM (St_to uu (fun j => ⟨rfl, rfl, rfl⟩) S4) (XM.to ee (fun _ => rfl) X4) vy u9 e9 tx7 ⟨pn', Pp', ad', hpn', y5.to uu rfl (fun _ => rfl) (fun a j h1 h2 => by unfold stC; simp; omega) hpn', ⟨(ee.i 86 24 rfl).trans y6.1, fun i hi k hk => (ee.i 97 _ rfl).trans (y6.2 i hi k hk)⟩, y7⟩⟩, fC.mono ntC_cls, fM.mono ntM_mdl⟩
    · have tb : ((if b2 bad = 0 then some 0 else some 1) : Option Int64) = some v1 := by
        rw [ev1]
        cases hb : bad with
        | false =>
          have : ¬ d < K := fun q => by rw [i4.mpr q] at hb; cases hb
          rw [if_neg this]; rfl
        | true => rw [if_pos (i4.mp hb)]; rfl
      have lC : lp (lb_X11_night_39 0) lpN (0, 0, 0, C1) = some (nI d, b2 bad, C2) := i1
      have cl : fn_X8_clear C2 1 = some C3 := by
        unfold fn_X8_clear
        rw [w_pI w2 1 7 1 _ rfl, ← eC3]
        rfl
      dsimp only
      unfold fn_X11_night
      rw [k_0 w, Option.bind_some, wsn_eq w tC, nr, Option.bind_some, if_pos (show wrI none = -1 from rfl), g_0_8 w, Option.bind_some, g_0_7 w, Option.bind_some, k_25 w, Option.bind_some, t1, Option.bind_some, lC, Option.bind_some, g_0_0 w2, Option.bind_some, k_1 w2, Option.bind_some, cl, Option.bind_some, y1, Option.bind_some, g_0_11 w4, Option.bind_some, k_77 w4, Option.bind_some, u1, Option.bind_some, g_0_11 w5, Option.bind_some, tb, Option.bind_some, k_77 w5, Option.bind_some, u4, Option.bind_some, g_0_11 w6, Option.bind_some, g_0_7 w6, Option.bind_some, k_0 w6, Option.bind_some, together_eq w6 cw6.2.1 V (Or.inl rfl) cw6.2.2.1, Option.bind_some, k_77 w6, Option.bind_some, u7, Option.bind_some]
    · have tb : ((if nI d < nI K then some 1 else some 0) : Option Int64) = some v1 := by
        rw [ev1]
        by_cases q : d < K
        · rw [if_pos q, if_pos (nI_lt q (by omega))]
        · rw [if_neg q, if_neg (nI_nlt (by omega) (by omega))]
      have lM : lp (lb_X12_night_72 86 (nI K)) lpN (0, M2) = some (nI d, M3) := i2
      dsimp only
      rw [headM, wasRight_ok rr hK, Option.bind_some, if_neg one0, g_86_0 mO, Option.bind_some, g_86_25 mO, Option.bind_some, ly, Option.bind_some, eK, lM, Option.bind_some, y2, Option.bind_some, e1, Option.bind_some, tb, Option.bind_some, k_86 m5, Option.bind_some, e4, Option.bind_some, g_86_0 m6, Option.bind_some, k_86 m6, Option.bind_some, sumOf0_eq m6 mw6.2.1 V (Or.inl rfl) mw6.2.2.1, Option.bind_some, Option.bind_some, e7, Option.bind_some]
  · -- read wrong
    have nr := nres_bad g hp ea
    have hq := rr.2.2.2.2.2.2.2.2.2.1 q rfl
    obtain ⟨C3, eC3⟩ : ∃ C3, C3 = sI C 1 1 0 := ⟨_, rfl⟩
    have f3 : Fr txC C C3 := by rw [eC3]; exact (Fr.refl _ _).sI _ rfl
    have tx3 : TxtR C3 o.2 := ⟨0, by omega, by rw [eC3, hI_sI]; simp; rfl, o8, fun i hi => absurd hi (by omega)⟩
    have pa0 : PastR N (300 * c) C M0 := pa.to (Fr.refl txC C) hM0 rfl (fun _ => rfl) (fun a j h1 h2 => by unfold txC; simp; omega) rfl (fun _ => rfl) (Nat.le_refl _)
    have pa1 : PastR N (300 * c) C M1 := pa0.to (Fr.refl txC C) b3 rfl (fun _ => rfl) (fun a j h1 h2 => by unfold txC; simp; omega) rfl (fun _ => rfl) (Nat.le_refl _)
    have pa3 : PastR N (300 * (c + 1)) C3 o.2 := pa1.to f3 o2 rfl (fun _ => rfl) (fun a j h1 h2 => by unfold txC; simp; omega) rfl (fun _ => rfl) (by omega)
    have fC : Fr ntC C C3 := f3.mono txC_nt
    refine ⟨-1 - nI q, C3, o.2, ?_, ?_, ⟨N, sem, x, l, r'.night fC gO (St_to f3 (fun j => ⟨rfl, rfl, rfl⟩) cw.2.2.1) XO (VS_mono (by omega) v0) (tc.to f3 rfl (fun _ => rfl)) tmO tx3 pa3⟩, fC.mono ntC_cls, gO.mono ntM_mdl⟩
    · have cl : fn_X8_clear C 1 = some C3 := by
        unfold fn_X8_clear
        rw [w_pI w 1 7 1 _ rfl, ← eC3]
        rfl
      dsimp only
      unfold fn_X11_night
      rw [k_0 w, Option.bind_some, wsn_eq w tC, nr, Option.bind_some, if_neg (show ¬ wrI (some q) = -1 from nI_m1 (by omega)), g_0_0 w, Option.bind_some, k_1 w, Option.bind_some, cl, Option.bind_some]
      rfl
    · dsimp only
      rw [headM, wasRight_bad rr, Option.bind_some, if_pos rfl, w_gI mO 86 11 16 rfl, Option.bind_some, rr.2.2.2.2.2.1]
      rfl
