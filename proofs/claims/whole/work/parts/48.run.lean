/-! a trial that runs, on both sides -/
def MH : Nat := 536870912
def RC (N : Net) (sem : Sem) (x : XX) (l : List Int64) (k : Nat) (h : aH) (z : ZZ) : Prop := CW N sem x h ∧ TC h 28 z ∧ ToC h l ∧ NV N ∧ VS N (MH + k) z.1
def RM (N : Net) (sem : Sem) (x : XX) (l : List Int64) (k : Nat) (h : aH) (z : ZZ) : Prop := MW N sem x h ∧ TM h 99 z ∧ ToM h l ∧ NV N ∧ VS N (MH + k) z.1
section Run
variable {N : Net} {sem : Sem} {x : XX} {l : List Int64} {k : Nat} {h : aH} {z : ZZ}
theorem RC.w (r : RC N sem x l k h z) : Wf h := r.1.1
theorem RM.w (r : RM N sem x l k h z) : Wf h := r.1.1
theorem RC.start (c : CW N sem x h) (t : ToC h l) (V : NV N) (v : VS N MH x) : ∃ h', fn_X11_startTrial h 0 = some h' ∧ Fr sc h h' ∧ RC N sem x l 0 h' (x, 0, 0, zer) := by
  obtain ⟨h', e, F, T⟩ := startTrial_eq c.1 c.2.2.1
  have F' := F.mono sh_sc
  exact ⟨h', e, F', c.to F', T, t.to F rfl (fun _ => rfl), V, v⟩
theorem RC.pass (r : RC N sem x l k h z) : ∃ h', fn_X0_pass h 3 28 14 = some h' ∧ Fr sc h h' ∧ RC N sem x l (k + 1) h' (hrZ N sem z) := by
  obtain ⟨c, T, t, V, v⟩ := r
  obtain ⟨h', e, F, T'⟩ := pass_eq (Or.inr rfl) c.1 c.2.1 V c.2.2.2 v T
  have F' := F.mono sh_sc
  exact ⟨h', e, F', c.to F', T', t.to F rfl (fun _ => rfl), V, hrZ_VS V sem v⟩
theorem RC.run (r : RC N sem x l k h z) {n : Nat} (hn : n < 2000) : ∃ h', fn_X0_run h 3 28 14 (nI n) = some h' ∧ Fr sc h h' ∧ RC N sem x l (k + n) h' (hrs N sem n z) := by
  obtain ⟨c, T, t, V, v⟩ := r
  obtain ⟨h', e, F, T'⟩ := run_eq (Or.inr rfl) c.1 c.2.1 V c.2.2.2 v T hn
  have F' := F.mono sh_sc
  exact ⟨h', e, F', c.to F', T', t.to F rfl (fun _ => rfl), V, by rw [← Nat.add_assoc]; exact hrs_VS V sem v n⟩
theorem RM.pass (r : RM N sem x l k h z) (hk : k < 100000) : ∃ h', fn_X12_goHour h 86 99 = some h' ∧ Fr sm h h' ∧ RM N sem x l (k + 1) h' (hrZ N sem z) := by
  obtain ⟨c, T, t, V, v⟩ := r
  obtain ⟨h', e, F, T'⟩ := goHour_eq (Or.inr rfl) c.1 c.2.1 V c.2.2.2 v (by unfold MH; omega) T
  have F' := F.mono mh_sm
  exact ⟨h', e, F', c.to F', T', t.to F rfl (fun _ => rfl), V, hrZ_VS V sem v⟩
theorem RM.run (r : RM N sem x l k h z) (hk : k < 100000) {n : Nat} (hn : n < 2000) : ∃ h', fn_X12_goHours h 86 99 (nI n) = some h' ∧ Fr sm h h' ∧ RM N sem x l (k + n) h' (hrs N sem n z) := by
  obtain ⟨c, T, t, V, v⟩ := r
  obtain ⟨h', e, F, T'⟩ := goHours_eq (Or.inr rfl) c.1 c.2.1 V c.2.2.2 v T hn (by unfold MH; omega)
  have F' := F.mono mh_sm
  exact ⟨h', e, F', c.to F', T', t.to F rfl (fun _ => rfl), V, by rw [← Nat.add_assoc]; exact hrs_VS V sem v n⟩
/-- the reference's 'then' laid -/
theorem RM.lay (c : MW N sem x h) (t : ToM h l) (V : NV N) (v : VS N MH x) : ∃ h' z, fn_X12_lay h 87 99 0 = some h' ∧ Fr sm h h' ∧ RM N sem x l 0 h' z ∧ z.1 = x := by
  obtain ⟨f, e, X⟩ := layThen_eq c.1 c.2.2.1
  have F : Fr sm h (rI h 99 f) := (Fr.refl _ _).rI _ (fun _ => rfl)
  have F2 : Fr (mh 99) h (rI h 99 f) := (Fr.refl _ _).rI _ (fun _ => rfl)
  exact ⟨rI h 99 f, (x, hI h 86 27, hI h 86 28, hI h 100), e, F, ⟨c.to F, ⟨X, rfl, rfl, fun _ _ => rfl⟩, t.to F2 rfl (fun _ => rfl), V, v⟩, rfl⟩
theorem RM.then (c : MW N sem x h) (t : ToM h l) (V : NV N) (v : VS N MH x) : ∃ h1 h2, fn_X12_lay h 87 99 0 = some h1 ∧ Wf h1 ∧ fn_X12_clear h1 86 = some h2 ∧ Fr sm h h2 ∧ RM N sem x l 0 h2 (x, 0, 0, zer) := by
  obtain ⟨h1, z, e, F, r, ez⟩ := RM.lay c t V v
  obtain ⟨h2, e2, F2, r2, c1, c2, c3⟩ := clearM_eq r.w 99
  have F2' := F2.mono mh_sm
  refine ⟨h1, h2, e, r.w, e2, F.trans F2', r.1.to F2', ⟨?_, c1, c2, c3⟩, r.2.2.1.to F2 rfl (fun _ => rfl), V, v⟩
  exact XM_to (r2 99 (by decide) (by decide)) (by rw [← ez]; exact r.2.1.1)
theorem goThen_eq (c : MW N sem x h) (t : ToM h l) (V : NV N) (v : VS N MH x) {n : Nat} (hn : n < 2000) : ∃ h', fn_X12_goThen h 86 (nI n) = some h' ∧ Fr sm h h' ∧ RM N sem x l (0 + n) h' (hrs N sem n (x, 0, 0, zer)) := by
  obtain ⟨h1, h2, e1, w1, e2, F2, r2⟩ := RM.then c t V v
  obtain ⟨h3, e3, F3, r3⟩ := r2.run (by decide) hn
  refine ⟨h3, ?_, F2.trans F3, r3⟩
  unfold fn_X12_goThen
  simp only [g_86_0 c.1, g_86_26 c.1, Option.bind_some, e1, k_86 w1, e2, g_86_26 r2.w, k_86 r2.w, e3]
/-- told, on both sides -/
theorem RC.begin (r : RC N sem x l k h z) : ∃ h', fn_X3_begin h 77 = some h' ∧ Fr sc h h' ∧ RC N sem x [] k h' z := by
  obtain ⟨e, F, T⟩ := toldBegin r.w
  have F' := F.mono stC_sc
  obtain ⟨c, ⟨t1, t2, t3, t4⟩, t, V, v⟩ := r
  refine ⟨_, e, F', c.to F', ⟨?_, ?_, ?_, fun i hi => ?_⟩, T, V, v⟩
  · unfold St
    rw [F.row 28 fun _ => rfl, F.row 29 fun _ => rfl, F.row 30 fun _ => rfl]
    exact t1
  · exact (F.i 3 8 rfl).trans t2
  · exact (F.i 3 9 rfl).trans t3
  · exact (F.i 7 i rfl).trans (t4 i hi)
theorem RC.add (r : RC N sem x l k h z) (hl : l.length < 16) (y : Int64) : ∃ h', fn_X3_add h 77 y = some h' ∧ Fr sc h h' ∧ RC N sem x (l ++ [y]) k h' z := by
  obtain ⟨h', e, F, T⟩ := toldAdd r.w r.2.2.1 hl y
  have F' := F.mono stC_sc
  obtain ⟨c, ⟨t1, t2, t3, t4⟩, t, V, v⟩ := r
  refine ⟨_, e, F', c.to F', ⟨?_, ?_, ?_, fun i hi => ?_⟩, T, V, v⟩
  · unfold St
    rw [F.row 28 fun _ => rfl, F.row 29 fun _ => rfl, F.row 30 fun _ => rfl]
    exact t1
  · exact (F.i 3 8 rfl).trans t2
  · exact (F.i 3 9 rfl).trans t3
  · exact (F.i 7 i rfl).trans (t4 i hi)
theorem RM.begin (r : RM N sem x l k h z) : ∃ h', pI h 86 11 10 0 = some h' ∧ Fr sm h h' ∧ RM N sem x [] k h' z := by
  obtain ⟨e, F, T⟩ := tellBegin r.w
  have F' := F.mono stM_sm
  obtain ⟨c, ⟨t1, t2, t3, t4⟩, t, V, v⟩ := r
  exact ⟨_, e, F', c.to F', ⟨XM_to (F.row 99 fun _ => rfl) t1, (F.i 86 27 rfl).trans t2, (F.i 86 28 rfl).trans t3, fun i hi => (F.i 100 i rfl).trans (t4 i hi)⟩, T, V, v⟩
theorem RM.tell (r : RM N sem x l k h z) (hl : l.length < 16) (y : Int64) : ∃ h', fn_X12_tell h 86 y = some h' ∧ Fr sm h h' ∧ RM N sem x (l ++ [y]) k h' z := by
  obtain ⟨h', e, F, T⟩ := tellM r.w r.2.2.1 hl y
  have F' := F.mono stM_sm
  obtain ⟨c, ⟨t1, t2, t3, t4⟩, t, V, v⟩ := r
  exact ⟨_, e, F', c.to F', ⟨XM_to (F.row 99 fun _ => rfl) t1, (F.i 86 27 rfl).trans t2, (F.i 86 28 rfl).trans t3, fun i hi => (F.i 100 i rfl).trans (t4 i hi)⟩, T, V, v⟩
/-- levels together -/
def sumI : Nat → XX → Int32
  | 0, _ => 0
  | n + 1, y => sumI n y + y n
theorem together_eq (w : Wf h) (C : CN N h) (V : NV N) {q : Nat} (hq : q = 22 ∨ q = 28) {y : XX} (S : St h q y) : fn_X11_together h 0 q = some (sumI (N_b N) y) := by
  have h6 := V.1
  have e14 : SH[q + 1]? = some (14, 6) := by rcases hq with rfl | rfl <;> rfl
  have loop : lp (lb_X11_together_4 h 0 q) lpN (0, 0) = some (sumI (N_b N) y) := by
   refine lp_run (fun i => (sumI i y, nI i)) (N_b N) (sumI (N_b N) y) ?_ ?_ (by omega) rfl
   · intro i hi
     unfold lb_X11_together_4
     simp only [g_0_1 w, w_gI w 3 0 0 rfl, C.1, Option.bind_some, if_pos (nI_lt hi (show N_b N < 2 ^ 31 by omega)), gk0_eq hq w, aI_eq w (q + 1) 14 6 e14 i (by omega) (by decide), S.1 i (by omega), nI_1]
     rfl
   · unfold lb_X11_together_4
     simp only [g_0_1 w, w_gI w 3 0 0 rfl, C.1, Option.bind_some, if_neg (nI_nlt (Nat.le_refl (N_b N)) (show N_b N < 2 ^ 31 by omega))]
  unfold fn_X11_together
  rw [loop]
  rfl
theorem sumI_congr {y u : XX} : ∀ n, (∀ i, i < n → y i = u i) → sumI n y = sumI n u
  | 0, _ => rfl
  | n + 1, h => by
    show sumI n y + y n = sumI n u + u n
    rw [sumI_congr n (fun i hi => h i (by omega)), h n (by omega)]
theorem sumOf_eq (w : Wf h) (C : MN N h) (V : NV N) {q off : Nat} (hq : q = 87 ∨ q = 99) (ho : off ≤ 6) {y : XX} (S : XM h q y) : fn_X12_sumOf h 86 q (nI off) = some (sumI (N_b N) (fun i => y (off + i))) := by
  have h6 := V.1
  have e14 : SH[q]? = some (14, 16) := by rcases hq with rfl | rfl <;> rfl
  have loop : lp (lb_X12_sumOf_5 h 86 q (nI off)) lpN (0, 0) = some (sumI (N_b N) (fun i => y (off + i))) := by
   refine lp_run (fun i => (sumI i (fun i => y (off + i)), nI i)) (N_b N) _ ?_ ?_ (by omega) rfl
   · intro i hi
     unfold lb_X12_sumOf_5
     simp only [w_gI w 86 11 1 rfl, C.1, Option.bind_some, if_pos (nI_lt hi (show N_b N < 2 ^ 31 by omega)), nI_add, aI_eq w q 14 16 e14 (off + i) (by omega) (by decide), S (off + i) (by omega), nI_1]
     rfl
   · unfold lb_X12_sumOf_5
     simp only [w_gI w 86 11 1 rfl, C.1, Option.bind_some, if_neg (nI_nlt (Nat.le_refl (N_b N)) (show N_b N < 2 ^ 31 by omega))]
  unfold fn_X12_sumOf
  rw [loop]
  rfl
theorem sumOf0_eq (w : Wf h) (C : MN N h) (V : NV N) {q : Nat} (hq : q = 87 ∨ q = 99) {y : XX} (S : XM h q y) : fn_X12_sumOf h 86 q 0 = some (sumI (N_b N) y) := by
  have := sumOf_eq w C V (off := 0) hq (by decide) S
  rw [sumI_congr (u := y) (N_b N) (fun i _ => by rw [Nat.zero_add])] at this
  exact this
/-- whether one is at its mark -/
def mkd (y : XX) (c : Nat) : Bool := !decide (y c < y (6 + c))
theorem isAtMark_eq (w : Wf h) {q : Nat} (hq : q = 22 ∨ q = 28) {y : XX} (S : St h q y) {c : Nat} (hc : c < 6) : fn_X7_isAtMark h q (nI c) = some (b2 (mkd y c)) := by
  have e1 : SH[q + 1]? = some (14, 6) := by rcases hq with rfl | rfl <;> rfl
  have e2 : SH[q + 2]? = some (14, 6) := by rcases hq with rfl | rfl <;> rfl
  unfold fn_X7_isAtMark mkd b2
  simp only [gk0_eq hq w, gk1_eq hq w, Option.bind_some, aI_eq w (q + 1) 14 6 e1 c hc (by decide), aI_eq w (q + 2) 14 6 e2 c hc (by decide), S.1 c hc, S.2.1 c hc]
  by_cases q : y c < y (6 + c) <;> simp [q]
theorem isMarked_eq (w : Wf h) {q : Nat} (hq : q = 87 ∨ q = 99) {y : XX} (S : XM h q y) {c : Nat} (hc : c < 6) : fn_X12_isMarked h 86 q (nI c) = some (b2 (mkd y c)) := by
  have e1 : SH[q]? = some (14, 16) := by rcases hq with rfl | rfl <;> rfl
  have l3 : aI h q 14 (6 + nI c) = some (y (6 + c)) := by
    show aI h q 14 (nI 6 + nI c) = _
    rw [nI_add, aI_eq w q 14 16 e1 (6 + c) (by omega) (by decide), S _ (by omega)]
  unfold fn_X12_isMarked mkd b2
  simp only [Option.bind_some, aI_eq w q 14 16 e1 c (by omega) (by decide), S c (by omega), l3]
  by_cases q : y c < y (6 + c) <;> simp [q]
theorem RC.lv (r : RC N sem x l k h z) {c : Nat} (hc : c < 6) : aI h 29 14 (nI c) = some (z.1 c) := by
  rw [aI_eq r.w 29 14 6 rfl c hc (by decide)]
  exact congrArg some (r.2.1.1.1 c hc)
theorem RM.lv (r : RM N sem x l k h z) {c : Nat} (hc : c < 16) : aI h 99 14 (nI c) = some (z.1 c) := by
  rw [aI_eq r.w 99 14 16 rfl c hc (by decide)]
  exact congrArg some (r.2.1.1 c hc)
end Run
/-- a question: the same answer, nothing changed but what may, the same told -/
def QR (oC oM : Option (Int32 × aH)) (hC hM : aH) : Prop := ∃ r hC' hM' l', oC = some (r, hC') ∧ oM = some (r, hM') ∧ Fr sc hC hC' ∧ Fr sm hM hM' ∧ ToC hC' l' ∧ ToM hM' l'
theorem QR.no {oC oM : Option (Int32 × aH)} {hC hM h1 : aH} {l : List Int64} (tc : ToC hC l) (F : Fr sm hM h1) (tm : ToM h1 l) (r : Int32) (e1 : oC = some (r, hC)) (e2 : oM = some (r, h1)) : QR oC oM hC hM :=
  ⟨r, hC, h1, l, e1, e2, Fr.refl _ _, F, tc, tm⟩
/-- every call of the reference begins so -/
theorem thr0 {N : Net} {sem : Sem} {x : XX} {l : List Int64} {h : aH} (c : MW N sem x h) (t : ToM h l) : ∃ h1, pI h 86 11 11 0 = some h1 ∧ Fr sm h h1 ∧ MW N sem x h1 ∧ ToM h1 l := by
  have F : Fr (fun a j => a == 86 && j == 11) h (sI h 86 11 0) := (Fr.refl _ _).sI _ rfl
  have F2 : Fr sm h (sI h 86 11 0) := (Fr.refl _ _).sI _ rfl
  exact ⟨_, w_pI c.1 86 11 11 _ rfl, F2, c.to F2, t.to F rfl (fun _ => rfl)⟩
