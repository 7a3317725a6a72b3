/-! the whole relation between the class's cells and the reference's -/
def cls (a j : Nat) : Bool := decide (a < 86)
def mdl (a j : Nat) : Bool := decide (86 ≤ a ∧ a < 116)
theorem sc_cls (a j : Nat) (e : cls a j = false) : sc a j = false := by
  unfold cls at e
  unfold sc
  simp at e ⊢
  omega
theorem sm_mdl (a j : Nat) (e : mdl a j = false) : sm a j = false := by
  unfold mdl at e
  unfold sm
  simp at e ⊢
  omega
/-- texts -/
def TxtR (C M : aH) : Prop := ∃ n : Nat, n ≤ 80 ∧ hI C 1 1 = nI n ∧ hI M 86 8 = nI n ∧ ∀ i, i < n → ∃ c : Nat, c < 256 ∧ hI C 2 i = nI c ∧ hI M 91 i &&& 255 = nI c ∧ (c < 128 → hI M 91 i = nI c)
def isSt (k : Nat) : Prop := ∃ i : Nat, i < 12 ∧ k = 33 + 3 * i
theorem SL_st {k : Nat} (h : isSt k) : k ∈ SL := by
  obtain ⟨i, hi, rfl⟩ := h
  have : ∀ i : Nat, i < 12 → 33 + 3 * i ∈ SL := by decide
  exact this i hi
/-- what can be undone -/
def PastC (n : Nat) (Pp : Nat → XX) (ad : Nat → Nat) (h : aH) : Prop :=
  hI h 31 3 = nI n ∧ (∀ i, i < 12 → hR h 32 i = some (ad i) ∧ isSt (ad i)) ∧ (∀ i j, i < 12 → j < 12 → ad i = ad j → i = j) ∧ ∀ i, i < n → St h (ad i) (Pp i)
def PastM (n : Nat) (Pp : Nat → XX) (h : aH) : Prop := hI h 86 24 = nI n ∧ ∀ i, i < n → ∀ k, k < 16 → hI h 97 (16 * i + k) = Pp i k
def PastR (N : Net) (B : Nat) (C M : aH) : Prop := ∃ n Pp ad, n ≤ 12 ∧ PastC n Pp ad C ∧ PastM n Pp M ∧ ∀ i, i < n → VS N B (Pp i)
/-- what was kept: came counts the tellings of lines -/
def KeptR (N : Net) (B c : Nat) (C M : aH) : Prop := ∃ cm : Nat, cm ≤ c ∧ hI M 86 46 = nI cm ∧ ∀ i, i < 2 → ∃ (a b : Bool) (v : Nat), hI C 76 i = b2 a ∧ hI M 114 i = b2 b ∧ hI M 115 i = nI v ∧ v ≤ cm ∧ (a = true ↔ b = true ∧ v = cm) ∧ (a = true → ∃ y, VS N B y ∧ St C (70 + 3 * i) y ∧ ∀ k, k < 16 → hI M 113 (16 * i + k) = y k)
def SeenR (N : Net) (C M : aH) : Prop := ∃ n sb so sv, SN N n sb so sv C M
def REL (c : Nat) (C M : aH) : Prop := ∃ N sem x l, NV N ∧ VS N (300 * c) x ∧ CW N sem x C ∧ MW N sem x M ∧ ToC C l ∧ ToM M l ∧ TxtR C M ∧ PastR N (300 * c) C M ∧ KeptR N (300 * c) c C M ∧ SeenR N C M
theorem St_to {S : Nat → Nat → Bool} {h h1 : aH} (f : Fr S h h1) {k : Nat} (e : ∀ j, S k j = false ∧ S (k + 1) j = false ∧ S (k + 2) j = false) {y : XX} (s : St h k y) : St h1 k y := by
  unfold St
  rw [f.row k fun j => (e j).1, f.row (k + 1) fun j => (e j).2.1, f.row (k + 2) fun j => (e j).2.2]
  exact s
theorem PastC.to {S : Nat → Nat → Bool} {h h1 : aH} (f : Fr S h h1) (e1 : S 31 3 = false) (e2 : ∀ j, S 32 j = false) (e3 : ∀ a j, 33 ≤ a → a < 69 → S a j = false) {n : Nat} (hn : n ≤ 12) {Pp : Nat → XX} {ad : Nat → Nat} (p : PastC n Pp ad h) : PastC n Pp ad h1 := by
  obtain ⟨p1, p2, p3, p4⟩ := p
  refine ⟨(f.i 31 3 e1).trans p1, fun i hi => ?_, p3, fun i hi => ?_⟩
  · rw [f.r 32 i (Or.inl (e2 i))]; exact p2 i hi
  · obtain ⟨q, hq, eq⟩ := (p2 i (by omega)).2
    exact St_to f (fun j => ⟨e3 _ j (by omega) (by omega), e3 _ j (by omega) (by omega), e3 _ j (by omega) (by omega)⟩) (p4 i hi)
theorem PastR.to {S T : Nat → Nat → Bool} {C C1 M M1 : aH} (f : Fr S C C1) (g : Fr T M M1) (e1 : S 31 3 = false) (e2 : ∀ j, S 32 j = false) (e3 : ∀ a j, 33 ≤ a → a < 69 → S a j = false) (e4 : T 86 24 = false) (e5 : ∀ j, T 97 j = false) {N : Net} {B D : Nat} (hB : B ≤ D) (p : PastR N B C M) : PastR N D C1 M1 := by
  obtain ⟨n, Pp, ad, hn, pc, ⟨pm1, pm2⟩, pv⟩ := p
  refine ⟨n, Pp, ad, hn, pc.to f e1 e2 e3 hn, ⟨(g.i 86 24 e4).trans pm1, fun i hi k hk => ?_⟩, fun i hi => VS_mono hB (pv i hi)⟩
  rw [g.i 97 _ (e5 _)]; exact pm2 i hi k hk
theorem KeptR.to {S T : Nat → Nat → Bool} {C C1 M M1 : aH} (f : Fr S C C1) (g : Fr T M M1) (e1 : ∀ a j, 70 ≤ a → a < 77 → S a j = false) (e2 : T 86 46 = false) (e3 : ∀ a j, 113 ≤ a → a < 116 → T a j = false) {N : Net} {B D c d : Nat} (hB : B ≤ D) (hc : c ≤ d) (p : KeptR N B c C M) : KeptR N D d C1 M1 := by
  obtain ⟨cm, h1, h2, h3⟩ := p
  refine ⟨cm, by omega, (g.i 86 46 e2).trans h2, fun i hi => ?_⟩
  obtain ⟨a, b, v, q1, q2, q3, q4, q5, q6⟩ := h3 i hi
  refine ⟨a, b, v, (f.i 76 i (e1 _ _ (by omega) (by omega))).trans q1, (g.i 114 i (e3 _ _ (by omega) (by omega))).trans q2, (g.i 115 i (e3 _ _ (by omega) (by omega))).trans q3, q4, q5, fun ha => ?_⟩
  obtain ⟨y, y1, y2, y3⟩ := q6 ha
  refine ⟨y, VS_mono hB y1, St_to f (fun j => ⟨e1 _ j (by omega) (by omega), e1 _ j (by omega) (by omega), e1 _ j (by omega) (by omega)⟩) y2, fun k hk => ?_⟩
  rw [g.i 113 _ (e3 _ _ (by omega) (by omega))]; exact y3 k hk
theorem TxtR.to {S T : Nat → Nat → Bool} {C C1 M M1 : aH} (f : Fr S C C1) (g : Fr T M M1) (e1 : S 1 1 = false) (e2 : ∀ j, S 2 j = false) (e3 : T 86 8 = false) (e4 : ∀ j, T 91 j = false) (p : TxtR C M) : TxtR C1 M1 := by
  obtain ⟨n, hn, h1, h2, h3⟩ := p
  refine ⟨n, hn, (f.i 1 1 e1).trans h1, (g.i 86 8 e3).trans h2, fun i hi => ?_⟩
  rw [f.i 2 i (e2 i), g.i 91 i (e4 i)]
  exact h3 i hi
theorem SeenR.to {C C1 M M1 : aH} (f : Fr sc C C1) (g : Fr sm M M1) {N : Net} (p : SeenR N C M) : SeenR N C1 M1 := by
  obtain ⟨n, sb, so, sv, s⟩ := p
  exact ⟨n, sb, so, sv, s.to f g⟩
theorem sc_mid (a j : Nat) (h1 : 31 ≤ a) (h2 : a < 77) : sc a j = false := by
  unfold sc
  simp
  omega
theorem sm_top (a j : Nat) (h1 : 113 ≤ a) : sm a j = false := by
  unfold sm
  simp
  omega
/-- one call: the same answer, the relation kept -/
def STEP (c : Nat) (fC fM : aH → Option (Int32 × aH)) : Prop := ∀ C M, REL c C M → ∃ r C' M', fC C = some (r, C') ∧ fM M = some (r, M') ∧ REL (c + 1) C' M' ∧ Fr cls C C' ∧ Fr mdl M M'
theorem REL.ww {c : Nat} (hc : c ≤ 64) {N : Net} {sem : Sem} {x : XX} {l : List Int64} {C M : aH} (V : NV N) (v : VS N (300 * c) x) (cw : CW N sem x C) (mw : MW N sem x M) (tc : ToC C l) (tm : ToM M l) : WW N sem x l C M := ⟨cw, mw, tc, tm, V, VS_mono (by unfold MH; omega) v⟩
/-- a question is a step -/
theorem STEP.of {c : Nat} (hc : c ≤ 64) {fC fM : aH → Option (Int32 × aH)} (q : ∀ N sem x l C M, WW N sem x l C M → SeenR N C M → QR (fC C) (fM M) C M) : STEP c fC fM := by
  intro C M R
  obtain ⟨N, sem, x, l, V, v, cw, mw, tc, tm, tx, pa, ke, se⟩ := R
  obtain ⟨r, C', M', l', e1, e2, F, H, t1, t2⟩ := q N sem x l C M (REL.ww hc V v cw mw tc tm) se
  refine ⟨r, C', M', e1, e2, ⟨N, sem, x, l', V, VS_mono (by omega) v, cw.to F, mw.to H, t1, t2, tx.to F H rfl (fun _ => rfl) rfl (fun _ => rfl), ?_, ?_, se.to F H⟩, F.mono sc_cls, H.mono sm_mdl⟩
  · exact pa.to F H rfl (fun _ => rfl) (fun a j h1 h2 => sc_mid a j (by omega) (by omega)) rfl (fun _ => rfl) (by omega)
  · exact ke.to F H (fun a j h1 h2 => sc_mid a j (by omega) (by omega)) rfl (fun a j h1 h2 => sm_top a j h1) (by omega) (by omega)
theorem RuleC.same {h h1 : aH} {sem : Sem} (e1 : hI h1 15 = hI h 15) (e2 : hI h1 14 2 = hI h 14 2) (R : RuleC h 14 sem) : RuleC h1 14 sem := ⟨R.1, fun h' q w a1 a2 a3 => R.2 h' q w (a1.trans e1) (a2.trans e2) a3⟩
theorem RuleM.same {h h1 : aH} {sem : Sem} (e1 : hI h1 94 = hI h 94) (e2 : hI h1 86 20 = hI h 86 20) (e3 : hR h1 86 18 = hR h 86 18) (R : RuleM h 94 sem) : RuleM h1 94 sem := by
  obtain ⟨r1, r2, r3⟩ := R
  refine ⟨e3.trans r1, r2, ?_⟩
  rcases r3 with ⟨d1, d2⟩ | ⟨d1, d2⟩
  · exact Or.inl ⟨e2.trans d1, d2⟩
  · refine Or.inr ⟨by rw [e2]; exact d1, fun h' y w a1 a2 a3 a4 a5 a6 a7 a8 a9 => ?_⟩
    exact d2 h' y w (a1.trans e1) (a2.trans e2) a3 a4 (a5.trans e2) a6 a7 a8 a9
/-- what the class does leaves the reference's side, and the other way round -/
theorem REL.mside {c : Nat} {C M M1 : aH} (f : Fr cls M M1) (R : REL c C M) : REL c C M1 := by
  obtain ⟨N, sem, x, l, V, v, cw, ⟨w, ⟨m1, m2, m3, m4⟩, X, RM⟩, tc, tm, tx, ⟨n, Pp, ad, hn, pc, ⟨pm1, pm2⟩, pv⟩, ⟨cm, k1, k2, k3⟩, ⟨sn, sb, so, sv, s1, s2, s3, s4⟩⟩ := R
  have fi : ∀ a j, 86 ≤ a → hI M1 a j = hI M a j := fun a j h => f.i a j (by unfold cls; simp; omega)
  have fj : ∀ a j, 86 ≤ a → hJ M1 a j = hJ M a j := fun a j h => (f.2.1 a j (by unfold cls; simp; omega)).2
  have fr : ∀ a j, 86 ≤ a → hR M1 a j = hR M a j := fun a j h => f.r a j (Or.inl (by unfold cls; simp; omega))
  refine ⟨N, sem, x, l, V, v, cw, ⟨f.wf w, ⟨(fi 86 1 (by omega)).trans m1, (fi 86 2 (by omega)).trans m2, (fi 86 3 (by omega)).trans m3, fun i hi => ?_⟩, fun i hi => (fi 87 i (by omega)).trans (X i hi), ?_⟩, tc, ⟨(fi 86 10 (by omega)).trans tm.1, tm.2.1, fun i hi => (fj 92 i (by omega)).trans (tm.2.2 i hi)⟩, ?_, ⟨n, Pp, ad, hn, pc, ⟨(fi 86 24 (by omega)).trans pm1, fun i hi k hk => (fi 97 _ (by omega)).trans (pm2 i hi k hk)⟩, pv⟩, ⟨cm, k1, (fi 86 46 (by omega)).trans k2, fun i hi => ?_⟩, ⟨sn, sb, so, sv, s1, s2, (fi 86 37 (by omega)).trans s3, fun i hi => ?_⟩⟩
  · rw [fi 88 i (by omega), fi 89 i (by omega), fi 90 i (by omega)]; exact m4 i hi
  · exact RuleM.same (funext fun j => fi 94 j (by omega)) (fi 86 20 (by omega)) (fr 86 18 (by omega)) RM
  · obtain ⟨t, ht, t1, t2, t3⟩ := tx
    refine ⟨t, ht, t1, (fi 86 8 (by omega)).trans t2, fun i hi => ?_⟩
    rw [fi 91 i (by omega)]; exact t3 i hi
  · obtain ⟨a, b, u, q1, q2, q3, q4, q5, q6⟩ := k3 i hi
    refine ⟨a, b, u, q1, (fi 114 i (by omega)).trans q2, (fi 115 i (by omega)).trans q3, q4, q5, fun ha => ?_⟩
    obtain ⟨y, y1, y2, y3⟩ := q6 ha
    exact ⟨y, y1, y2, fun k hk => (fi 113 _ (by omega)).trans (y3 k hk)⟩
  · rw [fi 105 i (by omega), fi 106 i (by omega), fi 107 i (by omega)]; exact s4 i hi
theorem REL.cside {c : Nat} {C C1 M : aH} (f : Fr mdl C C1) (R : REL c C M) : REL c C1 M := by
  obtain ⟨N, sem, x, l, V, v, ⟨w, ⟨m1, m2, m3, m4⟩, X, RC⟩, mw, tc, tm, tx, ⟨n, Pp, ad, hn, pc, pm, pv⟩, ⟨cm, k1, k2, k3⟩, ⟨sn, sb, so, sv, s1, s2, s3, s4⟩⟩ := R
  have fi : ∀ a j, a < 86 → hI C1 a j = hI C a j := fun a j h => f.i a j (by unfold mdl; simp; omega)
  have fj : ∀ a j, a < 86 → hJ C1 a j = hJ C a j := fun a j h => (f.2.1 a j (by unfold mdl; simp; omega)).2
  have mid : ∀ a j, a < 86 → mdl a j = false := fun a j h => by unfold mdl; simp; omega
  refine ⟨N, sem, x, l, V, v, ⟨f.wf w, ⟨(fi 3 0 (by omega)).trans m1, (fi 3 1 (by omega)).trans m2, (fi 3 2 (by omega)).trans m3, fun i hi => ?_⟩, St_to f (fun j => ⟨mid _ _ (by omega), mid _ _ (by omega), mid _ _ (by omega)⟩) X, RuleC.same (funext fun j => fi 15 j (by omega)) (fi 14 2 (by omega)) RC⟩, mw, ⟨(fi 77 1 (by omega)).trans tc.1, tc.2.1, fun i hi => (fj 78 i (by omega)).trans (tc.2.2 i hi)⟩, tm, ?_, ⟨n, Pp, ad, hn, pc.to f (mid _ _ (by omega)) (fun j => mid _ _ (by omega)) (fun a j h1 h2 => mid _ _ (by omega)) hn, pm, pv⟩, ⟨cm, k1, k2, fun i hi => ?_⟩, ⟨sn, sb, so, sv, s1, (fi 79 3 (by omega)).trans s2, s3, fun i hi => ?_⟩⟩
  · rw [fi 4 i (by omega), fi 5 i (by omega), fi 6 i (by omega)]; exact m4 i hi
  · obtain ⟨t, ht, t1, t2, t3⟩ := tx
    refine ⟨t, ht, (fi 1 1 (by omega)).trans t1, t2, fun i hi => ?_⟩
    rw [fi 2 i (by omega)]; exact t3 i hi
  · obtain ⟨a, b, u, q1, q2, q3, q4, q5, q6⟩ := k3 i hi
    refine ⟨a, b, u, (fi 76 i (by omega)).trans q1, q2, q3, q4, q5, fun ha => ?_⟩
    obtain ⟨y, y1, y2, y3⟩ := q6 ha
    exact ⟨y, y1, St_to f (fun j => ⟨mid _ _ (by omega), mid _ _ (by omega), mid _ _ (by omega)⟩) y2, y3⟩
  · rw [fi 80 i (by omega), fi 81 i (by omega), fi 82 i (by omega)]; exact s4 i hi
/-- one call of the law: the class first, then the reference, over one heap -/
theorem STEP.law {c : Nat} {fC fM : aH → Option (Int32 × aH)} (s : STEP c fC fM) {h : aH} (R : REL c h h) : ∃ r h1 h2, fC h = some (r, h1) ∧ fM h1 = some (r, h2) ∧ REL (c + 1) h2 h2 ∧ hsh h2 = hsh h ∧ Wf h2 := by
  obtain ⟨r0, C0, M0, e0, -, -, F0, -⟩ := s h h R
  obtain ⟨r, C', M', e1, e2, R', F, H⟩ := s h C0 (R.mside F0)
  have := e0.symm.trans e1
  cases this
  refine ⟨r0, C0, M', e0, e2, ?_, H.1.trans F0.1, ?_⟩
  · exact R'.cside H
  · obtain ⟨N, sem, x, l, V, v, cw, mw, -⟩ := R'
    exact mw.1
