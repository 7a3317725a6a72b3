/-! steps that change little: the text's end, what was seen, the counts -/
def kC (a j : Nat) : Bool := (a == 3 && decide (j < 3)) || (a == 4 || (a == 5 || (a == 6 || (a == 14 || a == 15))))
def kM (a j : Nat) : Bool := (a == 86 && (j == 1 || (j == 2 || (j == 3 || (j == 18 || j == 20))))) || (a == 88 || (a == 89 || (a == 90 || a == 94)))
theorem CW.go {S : Nat → Nat → Bool} {N : Net} {sem : Sem} {x y : XX} {h h1 : aH} (f : Fr S h h1) (e : ∀ a j, kC a j = true → S a j = false) (c : CW N sem x h) (s : St h1 22 y) : CW N sem y h1 := by
  obtain ⟨w, ⟨m1, m2, m3, m4⟩, -, RC⟩ := c
  refine ⟨f.wf w, ⟨(f.i 3 0 (e 3 0 rfl)).trans m1, (f.i 3 1 (e 3 1 rfl)).trans m2, (f.i 3 2 (e 3 2 rfl)).trans m3, fun i hi => ?_⟩, s, RuleC.same (f.row 15 fun j => e 15 j rfl) (f.i 14 2 (e 14 2 rfl)) RC⟩
  rw [f.i 4 i (e 4 i rfl), f.i 5 i (e 5 i rfl), f.i 6 i (e 6 i rfl)]
  exact m4 i hi
theorem MW.go {S : Nat → Nat → Bool} {N : Net} {sem : Sem} {x y : XX} {h h1 : aH} (f : Fr S h h1) (e : ∀ a j, kM a j = true → S a j = false) (c : MW N sem x h) (s : XM h1 87 y) : MW N sem y h1 := by
  obtain ⟨w, ⟨m1, m2, m3, m4⟩, -, RM⟩ := c
  refine ⟨f.wf w, ⟨(f.i 86 1 (e 86 1 rfl)).trans m1, (f.i 86 2 (e 86 2 rfl)).trans m2, (f.i 86 3 (e 86 3 rfl)).trans m3, fun i hi => ?_⟩, s, RuleM.same (f.row 94 fun j => e 94 j rfl) (f.i 86 20 (e 86 20 rfl)) (f.r 86 18 (Or.inl (e 86 18 rfl))) RM⟩
  rw [f.i 88 i (e 88 i rfl), f.i 89 i (e 89 i rfl), f.i 90 i (e 90 i rfl)]
  exact m4 i hi
theorem XM.to {S : Nat → Nat → Bool} {h h1 : aH} (f : Fr S h h1) {a : Nat} (e : ∀ j, S a j = false) {x : XX} (s : XM h a x) : XM h1 a x := fun i hi => (f.i a i (e i)).trans (s i hi)
theorem SeenR.to2 {S T : Nat → Nat → Bool} {C C1 M M1 : aH} (f : Fr S C C1) (g : Fr T M M1) (e1 : S 79 3 = false) (e2 : ∀ a j, 80 ≤ a → a < 83 → S a j = false) (e3 : T 86 37 = false) (e4 : ∀ a j, 105 ≤ a → a < 108 → T a j = false) {N : Net} (p : SeenR N C M) : SeenR N C1 M1 := by
  obtain ⟨n, sb, so, sv, a, b, c, d⟩ := p
  refine ⟨n, sb, so, sv, a, (f.i 79 3 e1).trans b, (g.i 86 37 e3).trans c, fun i hi => ?_⟩
  rw [f.i 80 i (e2 _ _ (by omega) (by omega)), f.i 81 i (e2 _ _ (by omega) (by omega)), f.i 82 i (e2 _ _ (by omega) (by omega)), g.i 105 i (e4 _ _ (by omega) (by omega)), g.i 106 i (e4 _ _ (by omega) (by omega)), g.i 107 i (e4 _ _ (by omega) (by omega))]
  exact d i hi
def WRL (N : Net) (sem : Sem) (x : XX) (l : List Int64) (c : Nat) (C M : aH) : Prop := NV N ∧ VS N (300 * c) x ∧ CW N sem x C ∧ MW N sem x M ∧ ToC C l ∧ ToM M l ∧ TxtR C M ∧ PastR N (300 * c) C M ∧ KeptR N (300 * c) c C M ∧ SeenR N C M
def txC (a j : Nat) : Bool := (a == 1 && j == 1) || a == 2
def txM (a j : Nat) : Bool := (a == 86 && (j == 8 || j == 11)) || a == 91
def snC (a j : Nat) : Bool := (a == 79 && j == 3) || (a == 80 || (a == 81 || a == 82))
def snM (a j : Nat) : Bool := (a == 86 && (j == 37 || j == 11)) || (a == 105 || (a == 106 || a == 107))
theorem txC_k (a j : Nat) (e : kC a j = true) : txC a j = false := by
  unfold kC at e; unfold txC; simp at e ⊢; omega
theorem txM_k (a j : Nat) (e : kM a j = true) : txM a j = false := by
  unfold kM at e; unfold txM; simp at e ⊢; omega
theorem snC_k (a j : Nat) (e : kC a j = true) : snC a j = false := by
  unfold kC at e; unfold snC; simp at e ⊢; omega
theorem snM_k (a j : Nat) (e : kM a j = true) : snM a j = false := by
  unfold kM at e; unfold snM; simp at e ⊢; omega
theorem WRL.text {N : Net} {sem : Sem} {x : XX} {l : List Int64} {c : Nat} {C M C1 M1 : aH} (r : WRL N sem x l c C M) (f : Fr txC C C1) (g : Fr txM M M1) (t : TxtR C1 M1) : WRL N sem x l (c + 1) C1 M1 := by
  obtain ⟨V, v, cw, mw, tc, tm, tx, pa, ke, se⟩ := r
  have S3 : St C1 22 x := St_to f (fun j => ⟨rfl, rfl, rfl⟩) cw.2.2.1
  have X3 : XM M1 87 x := XM.to g (fun j => rfl) mw.2.2.1
  refine ⟨V, VS_mono (by omega) v, cw.go f txC_k S3, mw.go g txM_k X3, tc.to f rfl (fun _ => rfl), tm.to g rfl (fun _ => rfl), t, ?_, ?_, ?_⟩
  · exact pa.to f g rfl (fun _ => rfl) (fun a j h1 h2 => by unfold txC; simp; omega) rfl (fun _ => rfl) (by omega)
  · exact ke.to f g (fun a j h1 h2 => by unfold txC; simp; omega) rfl (fun a j h1 h2 => by unfold txM; simp; omega) (by omega) (by omega)
  · exact se.to2 f g rfl (fun a j h1 h2 => by unfold txC; simp; omega) rfl (fun a j h1 h2 => by unfold txM; simp; omega)
theorem WRL.seen {N : Net} {sem : Sem} {x : XX} {l : List Int64} {c : Nat} {C M C1 M1 : aH} (r : WRL N sem x l c C M) (f : Fr snC C C1) (g : Fr snM M M1) (t : SeenR N C1 M1) : WRL N sem x l (c + 1) C1 M1 := by
  obtain ⟨V, v, cw, mw, tc, tm, tx, pa, ke, se⟩ := r
  have S3 : St C1 22 x := St_to f (fun j => ⟨rfl, rfl, rfl⟩) cw.2.2.1
  have X3 : XM M1 87 x := XM.to g (fun j => rfl) mw.2.2.1
  refine ⟨V, VS_mono (by omega) v, cw.go f snC_k S3, mw.go g snM_k X3, tc.to f rfl (fun _ => rfl), tm.to g rfl (fun _ => rfl), tx.to f g rfl (fun _ => rfl) rfl (fun _ => rfl), ?_, ?_, t⟩
  · exact pa.to f g rfl (fun _ => rfl) (fun a j h1 h2 => by unfold snC; simp; omega) rfl (fun _ => rfl) (by omega)
  · exact ke.to f g (fun a j h1 h2 => by unfold snC; simp; omega) rfl (fun a j h1 h2 => by unfold snM; simp; omega) (by omega) (by omega)
theorem txC_cls (a j : Nat) (e : cls a j = false) : txC a j = false := by
  unfold cls at e; unfold txC; simp at e ⊢; omega
theorem txM_mdl (a j : Nat) (e : mdl a j = false) : txM a j = false := by
  unfold mdl at e; unfold txM; simp at e ⊢; omega
theorem snC_cls (a j : Nat) (e : cls a j = false) : snC a j = false := by
  unfold cls at e; unfold snC; simp at e ⊢; omega
theorem snM_mdl (a j : Nat) (e : mdl a j = false) : snM a j = false := by
  unfold mdl at e; unfold snM; simp at e ⊢; omega
theorem stp_end (c : Nat) (v : Int32) : STEP c (fun C => fn_X11_end C 0 v) (fun M => fn_X12_end M 86 v) := by
  intro C M ⟨N, sem, x, l, r⟩
  have r' : WRL N sem x l c C M := r
  obtain ⟨V, v0, cw, mw, tc, tm, tx, pa, ke, se⟩ := r
  have w := cw.1
  have m := mw.1
  have m2 : Wf (sI M 86 11 0) := m
  have fM : Fr txM M (sI M 86 11 0) := (Fr.refl _ M).sI _ rfl
  obtain ⟨n, hn, e1, e2, ht⟩ := tx
  have e3 : hI (sI M 86 11 0) 86 8 = nI n := by rw [hI_sI]; simp [e2]
  have no : fn_X11_end C 0 v = some (0, C) → fn_X12_end M 86 v = some (0, sI M 86 11 0) → ∃ r C' M', fn_X11_end C 0 v = some (r, C') ∧ fn_X12_end M 86 v = some (r, M') ∧ REL (c + 1) C' M' ∧ Fr cls C C' ∧ Fr mdl M M' := by
    intro g1 g2
    refine ⟨_, _, _, g1, g2, ⟨N, sem, x, l, r'.text (Fr.refl _ C) fM ?_⟩, Fr.refl _ C, fM.mono txM_mdl⟩
    exact ⟨n, hn, e1, e3, fun i hi => ht i hi⟩
  rcases int_cases n (by omega) v with ⟨c1, -⟩ | ⟨c1, c2⟩ | ⟨c1, c2, k, hk, rfl⟩
  · refine no ?_ ?_
    · unfold fn_X11_end fn_X8_shorten
      simp [g_0_0 w, k_1 w, c1, bz]
    · unfold fn_X12_end
      simp [w_pI m 86 11 11 _ rfl, w_gI m2 86 11 8 rfl, in_eq, c1]
  · refine no ?_ ?_
    · unfold fn_X11_end fn_X8_shorten
      simp [g_0_0 w, k_1 w, c1, bz, w_gI w 1 7 1 rfl, e1, c2]
    · unfold fn_X12_end
      simp [w_pI m 86 11 11 _ rfl, w_gI m2 86 11 8 rfl, in_eq, c1, e3, c2]
  · have fC : Fr txC C (sI C 1 1 (nI k)) := (Fr.refl _ C).sI _ rfl
    have fN : Fr txM M (sI (sI M 86 11 0) 86 8 (nI k)) := fM.sI _ rfl
    refine ⟨1, sI C 1 1 (nI k), sI (sI M 86 11 0) 86 8 (nI k), ?_, ?_, ⟨N, sem, x, l, r'.text fC fN ?_⟩, fC.mono txC_cls, fN.mono txM_mdl⟩
    · dsimp only
      unfold fn_X11_end fn_X8_shorten
      simp [g_0_0 w, k_1 w, c1, bz, w_gI w 1 7 1 rfl, e1, c2, w_pI w 1 7 1 _ rfl]
    · dsimp only
      unfold fn_X12_end
      simp [w_pI m 86 11 11 _ rfl, w_gI m2 86 11 8 rfl, in_eq, c1, e3, c2, w_pI m2 86 11 8 _ rfl]
    · refine ⟨k, by omega, by rw [hI_sI]; simp, by rw [hI_sI]; simp, fun i hi => ?_⟩
      exact ht i (by omega)
theorem stp_forget (c : Nat) : STEP c (fun C => fn_X11_forget C 0) (fun M => fn_X12_forget M 86) := by
  intro C M ⟨N, sem, x, l, r⟩
  have r' : WRL N sem x l c C M := r
  obtain ⟨V, v0, cw, mw, tc, tm, tx, pa, ke, ⟨n, sb, so, sv, s1, s2, s3, s4⟩⟩ := r
  have w := cw.1
  have m := mw.1
  have m2 : Wf (sI M 86 11 0) := m
  have fC : Fr snC C (sI C 79 3 0) := (Fr.refl _ C).sI _ rfl
  have fM : Fr snM M (sI (sI M 86 11 0) 86 37 0) := ((Fr.refl _ M).sI _ rfl).sI _ rfl
  have e3 : hI (sI M 86 11 0) 86 37 = nI n := by rw [hI_sI]; simp [s3]
  refine ⟨nI n, _, _, ?_, ?_, ⟨N, sem, x, l, r'.seen fC fM ⟨0, sb, so, sv, by omega, ?_, ?_, fun i hi => absurd hi (by omega)⟩⟩, fC.mono snC_cls, fM.mono snM_mdl⟩
  · dsimp only
    unfold fn_X11_forget fn_X6_clear
    simp [g_0_12 w, k_79 w, w_gI w 79 5 3 rfl, w_pI w 79 5 3 _ rfl, s2]
  · dsimp only
    unfold fn_X12_forget
    simp [w_pI m 86 11 11 _ rfl, w_gI m2 86 11 37 rfl, w_pI m2 86 11 37 _ rfl, e3]
  · rw [hI_sI]; simp; rfl
  · rw [hI_sI]; simp; rfl
set_option maxHeartbeats 2000000 in
theorem stp_saw (c : Nat) (b o v : Int32) : STEP c (fun C => fn_X11_saw C 0 b o v) (fun M => fn_X12_saw M 86 b o v) := by
  intro C M ⟨N, sem, x, l, r⟩
  have r' : WRL N sem x l c C M := r
  obtain ⟨V, v0, cw, mw, tc, tm, tx, pa, ke, ⟨n, sb, so, sv, s1, s2, s3, s4⟩⟩ := r
  have w := cw.1
  have m := mw.1
  have m2 : Wf (sI M 86 11 0) := m
  have fM : Fr snM M (sI M 86 11 0) := (Fr.refl _ M).sI _ rfl
  have e3 : hI (sI M 86 11 0) 86 37 = nI n := by rw [hI_sI]; simp [s3]
  have mn2 : MN N (sI M 86 11 0) := mw.2.1
  have no : fn_X11_saw C 0 b o v = some (-1, C) → fn_X12_saw M 86 b o v = some (-1, sI M 86 11 0) → ∃ r C' M', fn_X11_saw C 0 b o v = some (r, C') ∧ fn_X12_saw M 86 b o v = some (r, M') ∧ REL (c + 1) C' M' ∧ Fr cls C C' ∧ Fr mdl M M' := by
    intro g1 g2
    refine ⟨_, _, _, g1, g2, ⟨N, sem, x, l, r'.seen (Fr.refl _ C) fM ⟨n, sb, so, sv, s1, s2, e3, fun i hi => s4 i hi⟩⟩, Fr.refl _ C, fM.mono snM_mdl⟩
  rcases bas_cases w cw.2.1 m2 mn2 V b with ⟨c1, c2⟩ | ⟨k, hk, rfl, c1, c2⟩
  · refine no ?_ ?_
    · unfold fn_X11_saw; simp [g_0_1 w, k_3 w, c1]
    · unfold fn_X12_saw; simp [w_pI m 86 11 11 _ rfl, k_86 m2, c2]
  rcases int_cases 20 (by omega) o with ⟨d1, -⟩ | ⟨d1, d2⟩ | ⟨d1, d2, i2, hi2, rfl⟩
  · refine no ?_ ?_
    · unfold fn_X11_saw; simp [g_0_1 w, k_3 w, c1, d1]
    · unfold fn_X12_saw; simp [w_pI m 86 11 11 _ rfl, k_86 m2, c2, in_eq, d1]
  · have d2 : ¬ o ≤ 20 := d2
    refine no ?_ ?_
    · unfold fn_X11_saw; simp [g_0_1 w, k_3 w, c1, d1, d2]
    · unfold fn_X12_saw; simp [w_pI m 86 11 11 _ rfl, k_86 m2, c2, in_eq, d1, d2]
  have d2 : nI i2 ≤ 20 := d2
  rcases int_cases 9 (by omega) v with ⟨d3, -⟩ | ⟨d3, d4⟩ | ⟨d3, d4, i3, hi3, rfl⟩
  · refine no ?_ ?_
    · unfold fn_X11_saw; simp [g_0_1 w, k_3 w, c1, d1, d2, d3]
    · unfold fn_X12_saw; simp [w_pI m 86 11 11 _ rfl, k_86 m2, c2, in_eq, d1, d2, d3]
  · have d4 : ¬ v ≤ 9 := d4
    refine no ?_ ?_
    · unfold fn_X11_saw; simp [g_0_1 w, k_3 w, c1, d1, d2, d3, d4]
    · unfold fn_X12_saw; simp [w_pI m 86 11 11 _ rfl, k_86 m2, c2, in_eq, d1, d2, d3, d4]
  have d4 : nI i3 ≤ 9 := d4
  by_cases d5 : n = 10
  · have f1 : ¬ nI n < 10 := by rw [d5]; decide
    have f2 : nI n = 10 := by rw [d5]; rfl
    refine no ?_ ?_
    · unfold fn_X11_saw fn_X6_add; simp [g_0_1 w, k_3 w, c1, d1, d2, d3, d4, g_0_12 w, k_79 w, w_gI w 79 5 3 rfl, s2, f1]
    · unfold fn_X12_saw; simp [w_pI m 86 11 11 _ rfl, k_86 m2, c2, in_eq, d1, d2, d3, d4, w_gI m2 86 11 37 rfl, e3, f2]
  have f1 : nI n < 10 := nI_lt (b := 10) (by omega) (by decide)
  have f2 : ¬ nI n = 10 := fun q => d5 ((nI_eq (b := 10) (by omega) (by decide)).mp q)
  have wA : Wf (sI C 80 n (nI k)) := w
  have wB : Wf (sI (sI C 80 n (nI k)) 81 n (nI i2)) := w
  have wC : Wf (sI (sI (sI C 80 n (nI k)) 81 n (nI i2)) 82 n (nI i3)) := w
  have wF : Wf (sI (sI M 86 11 0) 105 n (nI k)) := m
  have wG : Wf (sI (sI (sI M 86 11 0) 105 n (nI k)) 106 n (nI i2)) := m
  have wH : Wf (sI (sI (sI (sI M 86 11 0) 105 n (nI k)) 106 n (nI i2)) 107 n (nI i3)) := m
  have fC : Fr snC C (sI (sI (sI (sI C 80 n (nI k)) 81 n (nI i2)) 82 n (nI i3)) 79 3 (nI (n + 1))) := ((((Fr.refl _ C).sI _ rfl).sI _ rfl).sI _ rfl).sI _ rfl
  have fN : Fr snM M (sI (sI (sI (sI (sI M 86 11 0) 105 n (nI k)) 106 n (nI i2)) 107 n (nI i3)) 86 37 (nI (n + 1))) := (((fM.sI _ rfl).sI _ rfl).sI _ rfl).sI _ rfl
  refine ⟨nI (n + 1), _, _, ?_, ?_, ⟨N, sem, x, l, r'.seen fC fN ⟨n + 1, fun i => if i = n then k else sb i, fun i => if i = n then i2 else so i, fun i => if i = n then nI i3 else sv i, by omega, ?_, ?_, fun i hi => ?_⟩⟩, fC.mono snC_cls, fN.mono snM_mdl⟩
  · dsimp only
    unfold fn_X11_saw fn_X6_add
    simp [g_0_1 w, k_3 w, c1, d1, d2, d3, d4, g_0_12 w, k_79 w, w_gI w 79 5 3 rfl, s2, f1, g_79_0 w, wI_eq w 80 10 rfl n (by omega) (by decide), g_79_1 wA, w_gI wA 79 5 3 rfl, hI_sI, wI_eq wA 81 10 rfl n (by omega) (by decide), g_79_2 wB, w_gI wB 79 5 3 rfl,
      wI_eq wB 82 10 rfl n (by omega) (by decide), w_gI wC 79 5 3 rfl, w_pI wC 79 5 3 _ rfl, w_gI (Wf_sI.mpr wC) 79 5 3 rfl, nI_1]
  · dsimp only
    unfold fn_X12_saw
    simp [w_pI m 86 11 11 _ rfl, k_86 m2, c2, hI_sI, in_eq, d1, d2, d3, d4, w_gI m2 86 11 37 rfl, s3, f2, g_86_34 m2, wI_eq m2 105 10 rfl n (by omega) (by decide), g_86_35 wF, w_gI wF 86 11 37 rfl, wI_eq wF 106 10 rfl n (by omega) (by decide), g_86_36 wG, w_gI wG 86 11 37 rfl,
      wI_eq wG 107 10 rfl n (by omega) (by decide), w_gI wH 86 11 37 rfl, w_pI wH 86 11 37 _ rfl, w_gI (Wf_sI.mpr wH) 86 11 37 rfl, nI_1]
  · rw [hI_sI]; simp
  · rw [hI_sI]; simp
  · by_cases hin : i = n
    · subst hin
      simp [hI_sI, hk, hi2]
    · have := s4 i (by omega)
      simp [hI_sI, hin]
      exact this
