/-! acts that can be undone -/
def acC (a j : Nat) : Bool := sc a j || (psC a j || (a == 22 || (a == 23 || a == 24)))
def acM (a j : Nat) : Bool := sm a j || (psM a j || a == 87)
theorem acC_k (a j : Nat) (e : kC a j = true) : acC a j = false := by
  unfold kC at e; unfold acC sc psC; simp at e ⊢; omega
theorem acM_k (a j : Nat) (e : kM a j = true) : acM a j = false := by
  unfold kM at e; unfold acM sm psM; simp at e ⊢; omega
theorem acC_cls (a j : Nat) (e : cls a j = false) : acC a j = false := by
  unfold cls at e; unfold acC sc psC; simp at e ⊢; omega
theorem acM_mdl (a j : Nat) (e : mdl a j = false) : acM a j = false := by
  unfold mdl at e; unfold acM sm psM; simp at e ⊢; omega
theorem WRL.act {N : Net} {sem : Sem} {x y : XX} {l l' : List Int64} {c : Nat} {C M C1 M1 : aH} (r : WRL N sem x l c C M) (f : Fr acC C C1) (g : Fr acM M M1) (S3 : St C1 22 y) (X3 : XM M1 87 y) (v : VS N (300 * (c + 1)) y) (tc : ToC C1 l') (tm : ToM M1 l') (pa : PastR N (300 * (c + 1)) C1 M1) : WRL N sem y l' (c + 1) C1 M1 := by
  obtain ⟨V, v0, cw, mw, -, -, tx, -, ke, se⟩ := r
  refine ⟨V, v, cw.go f acC_k S3, mw.go g acM_k X3, tc, tm, tx.to f g rfl (fun _ => rfl) rfl (fun _ => rfl), pa, ?_, ?_⟩
  · exact ke.to f g (fun a j h1 h2 => by unfold acC sc psC; simp; omega) rfl (fun a j h1 h2 => by unfold acM sm psM; simp; omega) (by omega) (by omega)
  · exact se.to2 f g rfl (fun a j h1 h2 => by unfold acC sc psC; simp; omega) rfl (fun a j h1 h2 => by unfold acM sm psM; simp; omega)
theorem sc_ac (a j : Nat) (e : acC a j = false) : sc a j = false := by unfold acC at e; simp at e; simp [e]
theorem psC_ac (a j : Nat) (e : acC a j = false) : psC a j = false := by unfold acC at e; simp at e; simp [e]
theorem sm_ac (a j : Nat) (e : acM a j = false) : sm a j = false := by unfold acM at e; simp at e; simp [e]
theorem psM_ac (a j : Nat) (e : acM a j = false) : psM a j = false := by unfold acM at e; simp at e; simp [e]
theorem tk25_ac (a j : Nat) (e : acC a j = false) : tk 25 a j = false := by
  have := sc_ac a j e
  unfold sc at this; unfold tk; simp at this ⊢; omega
theorem sh22_ac (a j : Nat) (e : acC a j = false) : sh 22 a j = false := by
  unfold acC sc at e; unfold sh; simp at e ⊢; omega
theorem mh87_ac (a j : Nat) (e : acM a j = false) : mh 87 a j = false := by
  unfold acM sm at e; unfold mh; simp at e ⊢; omega
/-- the class's side of an act that can be undone -/
theorem wrapC {N : Net} {C : aH} {x : XX} (w : Wf C) (S : St C 22 x) {n : Nat} {Pp : Nat → XX} {ad : Nat → Nat} (hn : n ≤ 12) (hp : PastC n Pp ad C) (code a b : Int32) :
    ∃ C1, Fr (tk 25) C C1 ∧ Wf C1 ∧ St C1 22 x ∧ ∀ r C2, fn_X11_act C1 0 code a b = some (r, C2) → Fr (sh 22) C1 C2 →
      (r < 0 → fn_X11_actThatCanBeUndone C 0 code a b = some (r, C2)) ∧ (¬ r < 0 → code = 110 → a = 0 → fn_X11_actThatCanBeUndone C 0 code a b = some (r, C2)) ∧
      (¬ r < 0 → ¬ (code = 110 ∧ a = 0) → ∃ C3 ad', fn_X11_actThatCanBeUndone C 0 code a b = some (r, C3) ∧ Fr psC C2 C3 ∧ PastC (pshN n) (pshP n Pp x) ad' C3) := by
  obtain ⟨C1, t1, t2, t3⟩ := takes_eq w (k := 25) (q := 22) (by decide) (by decide) (by decide)
  have w1 := t2.wf w
  refine ⟨C1, t2, w1, St_to t2 (fun j => ⟨rfl, rfl, rfl⟩) S, fun r C2 e f => ?_⟩
  have w2 := f.wf w1
  have pre : fn_X11_actThatCanBeUndone C 0 code a b = (((if code = 110 then (if a = 0 then some 1 else some 0) else some 0) : Option Int32).bind fun t7 => if r < 0 then some (r, C2) else if t7 = 0 then (gR C2 0 10 10).bind fun a8 => (gR C2 0 10 8).bind fun a9 => (ck C2 a8 1).bind fun u10 => (fn_X2_push C2 a8 a9).bind fun h11 => some (r, h11) else some (r, C2)) := by
    unfold fn_X11_actThatCanBeUndone
    rw [g_0_8 w, Option.bind_some, g_0_7 w, Option.bind_some, k_25 w, Option.bind_some, t1, Option.bind_some, k_0 w1, Option.bind_some, e, Option.bind_some]
  refine ⟨fun hr => ?_, fun hr hc ha => ?_, fun hr hc => ?_⟩
  · rw [pre]
    by_cases h1 : code = 110 <;> by_cases h2 : a = 0 <;> simp [h1, h2, hr]
  · rw [pre, if_pos hc, if_pos ha, Option.bind_some, if_neg hr, if_neg (by decide)]
  · have p1 : PastC n Pp ad C2 := (hp.to t2 rfl (fun _ => rfl) (fun a j h1 h2 => by unfold tk; simp; omega) hn).to f rfl (fun _ => rfl) (fun a j h1 h2 => by unfold sh; simp; omega) hn
    have s1 : St C2 25 x := St_to f (fun j => ⟨rfl, rfl, rfl⟩) (t3 x S)
    obtain ⟨C3, ad', q1, q2, q3⟩ := push_eq w2 hn p1 s1
    refine ⟨C3, ad', ?_, q2, q3⟩
    have t7 : ((if code = 110 then (if a = 0 then some 1 else some 0) else some 0) : Option Int32) = some 0 := by
      by_cases h1 : code = 110
      · rw [if_pos h1, if_neg (fun h2 => hc ⟨h1, h2⟩)]
      · rw [if_neg h1]
    rw [pre, t7, Option.bind_some, if_neg hr, if_pos rfl, g_0_10 w2, Option.bind_some, g_0_8 w2, Option.bind_some, k_31 w2, Option.bind_some, q1, Option.bind_some]
/-- an act refused -/
theorem WRL.refuse {N : Net} {sem : Sem} {x : XX} {l : List Int64} {c : Nat} {C M C1 M1 : aH} (r : WRL N sem x l c C M) (f : Fr (tk 25) C C1) (g : Fr txM M M1) (e : hI M1 86 8 = hI M 86 8) (e2 : hI M1 91 = hI M 91) : REL (c + 1) C1 M1 := by
  obtain ⟨V, v0, cw, mw, tc, tm, tx, pa, ke, se⟩ := r
  have S3 : St C1 22 x := St_to f (fun j => ⟨rfl, rfl, rfl⟩) cw.2.2.1
  have X3 : XM M1 87 x := XM.to g (fun j => rfl) mw.2.2.1
  refine ⟨N, sem, x, l, V, VS_mono (by omega) v0, cw.go (f.mono tk25_ac) acC_k S3, mw.go g txM_k X3, tc.to f rfl (fun _ => rfl), tm.to g rfl (fun _ => rfl), ?_, ?_, ?_, ?_⟩
  · obtain ⟨n, hn, h1, h2, h3⟩ := tx
    refine ⟨n, hn, (f.i 1 1 rfl).trans h1, e.trans h2, fun i hi => ?_⟩
    rw [f.i 2 i rfl, e2]
    exact h3 i hi
  · exact pa.to f g rfl (fun _ => rfl) (fun a j h1 h2 => by unfold tk; simp; omega) rfl (fun _ => rfl) (by omega)
  · exact ke.to f g (fun a j h1 h2 => by unfold tk; simp; omega) rfl (fun a j h1 h2 => by unfold txM; simp; omega) (by omega) (by omega)
  · exact se.to2 f g rfl (fun a j h1 h2 => by unfold tk; simp; omega) rfl (fun a j h1 h2 => by unfold txM; simp; omega)
theorem tk25_cls (a j : Nat) (e : cls a j = false) : tk 25 a j = false := by
  unfold cls at e; unfold tk; simp at e ⊢; omega
/-- one act, both sides: refused with the same number, or done with the same state -/
theorem stp_act {c : Nat} (code a b : Int32) (hc : ¬ (code = 110 ∧ a = 0)) {fC fM : aH → Option (Int32 × aH)} (eC : ∀ C, Wf C → fC C = fn_X11_actThatCanBeUndone C 0 code a b)
    (q : ∀ N sem x C M, NV N → VS N (300 * c) x → CW N sem x C → MW N sem x M →
      (∃ r, r < 0 ∧ fn_X11_act C 0 code a b = some (r, C) ∧ fM M = some (r, sI M 86 11 0)) ∨
      (∃ r y C1, ¬ r < 0 ∧ fn_X11_act C 0 code a b = some (r, C1) ∧ Fr (sh 22) C C1 ∧ St C1 22 y ∧ VS N (300 * (c + 1)) y ∧ ∀ M1, fn_X12_remember (sI M 86 11 0) 86 87 = some M1 → MW N sem x M1 → ∃ M2, fM M = some (r, M2) ∧ Fr (mh 87) M1 M2 ∧ XM M2 87 y)) : STEP c fC fM := by
  intro C M ⟨N, sem, x, l, r⟩
  have r' : WRL N sem x l c C M := r
  obtain ⟨V, v0, cw, mw, tc, tm, tx, ⟨pn, Pp, ad, hpn, pc, pm, pv⟩, ke, se⟩ := r
  have fM0 : Fr txM M (sI M 86 11 0) := (Fr.refl _ M).sI _ rfl
  obtain ⟨C1, f1, w1, S1, wr⟩ := wrapC (N := N) cw.1 cw.2.2.1 hpn pc code a b
  have cw1 : CW N sem x C1 := cw.go (f1.mono tk25_ac) acC_k S1
  rcases q N sem x C1 M V v0 cw1 mw with ⟨r, hr, a1, a2⟩ | ⟨r, y, C2, hr, a1, f2, S2, vy, a2⟩
  · obtain ⟨u1, -, -⟩ := wr r C1 a1 (Fr.refl _ _)
    refine ⟨r, C1, sI M 86 11 0, by rw [eC C cw.1]; exact u1 hr, a2, r'.refuse f1 fM0 (by rw [hI_sI]; simp) rfl, f1.mono tk25_cls, fM0.mono txM_mdl⟩
  · obtain ⟨-, -, u1⟩ := wr r C2 a1 f2
    obtain ⟨C3, ad', u2, u3, u4⟩ := u1 hr hc
    have m0 : Wf (sI M 86 11 0) := mw.1
    have pm0 : PastM pn Pp (sI M 86 11 0) := ⟨by rw [hI_sI]; simp [pm.1], fun i hi k hk => pm.2 i hi k hk⟩
    obtain ⟨M1, b1, b3, b4⟩ := remember_eq m0 hpn pm0 (a := 87) (na := 16) rfl (by decide) (by decide) (x := x) (fun k hk => mw.2.2.1 k hk)
    have g1 : Fr acM M M1 := ((Fr.refl acM M).sI _ rfl).trans (b3.mono psM_ac)
    have X1 : XM M1 87 x := XM.to b3 (fun j => rfl) (show XM (sI M 86 11 0) 87 x from mw.2.2.1)
    have mw1 : MW N sem x M1 := mw.go g1 acM_k X1
    obtain ⟨M2, d1, d2, d3⟩ := a2 M1 b1 mw1
    have g2 : Fr acM M M2 := g1.trans (d2.mono mh87_ac)
    have f3 : Fr acC C C3 := ((f1.mono tk25_ac).trans (f2.mono sh22_ac)).trans (u3.mono psC_ac)
    obtain ⟨z1, z2⟩ := psh_VS (c := 300 * (c + 1)) (x := x) hpn (fun i hi => VS_mono (by omega) (pv i hi)) (VS_mono (by omega) v0)
    refine ⟨r, C3, M2, by rw [eC C cw.1]; exact u2, d1, ⟨N, sem, y, l, r'.act f3 g2 (St_to u3 (fun j => ⟨rfl, rfl, rfl⟩) S2) d3 vy ?_ ?_ ⟨pshN pn, pshP pn Pp x, ad', z1, u4, ?_, z2⟩⟩, f3.mono acC_cls, g2.mono acM_mdl⟩
    · exact ((tc.to f1 rfl (fun _ => rfl)).to f2 rfl (fun _ => rfl)).to u3 rfl (fun _ => rfl)
    · exact ((tm.to fM0 rfl (fun _ => rfl)).to b3 rfl (fun _ => rfl)).to d2 rfl (fun _ => rfl)
    · refine ⟨(d2.i 86 24 rfl).trans b4.1, fun i hi k hk => ?_⟩
      rw [d2.i 97 _ rfl]
      exact b4.2 i hi k hk
