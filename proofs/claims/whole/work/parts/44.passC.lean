/-- a state that runs, with what is counted -/
def TC (h : aH) (k : Nat) (z : ZZ) : Prop := St h k z.1 ∧ hI h 3 8 = z.2.1 ∧ hI h 3 9 = z.2.2.1 ∧ ∀ i, i < 8 → hI h 7 i = z.2.2.2 i
theorem flw_on {N : Net} {x : XX} {s : Nat} (sem : Sem) (y : Int32) (f1 : N_f N s < 6) (f2 : N_t N s < 6) : flw N sem (va_up x 12 y) s = flw N sem x s := by
  have : askd N (va_up x 12 y) s = askd N x s := by
    funext j
    unfold askd
    rw [up_ne _ _ (show N_f N s ≠ 12 by omega), up_ne _ _ (show N_t N s ≠ 12 by omega), up_ne _ _ (show 6 + N_f N s ≠ 12 by omega), up_ne _ _ (show 6 + N_t N s ≠ 12 by omega), up_ne _ _ (show 14 ≠ 12 by decide)]
  unfold flw
  rw [this, up_ne _ _ (show N_f N s ≠ 12 by omega), up_ne _ _ (show N_t N s ≠ 12 by omega)]
section PassC2
variable {N : Net} {h : aH} {k : Nat} {z : ZZ} {sem : Sem} {r : Nat}
theorem mul_upd_lv {f l m x : XX} (S : SR f l m x) {i : Nat} (hi : i < 6) (v : Int32) : SR f (va_up l i v) m (va_up x i v) := by
  obtain ⟨s1, s2, s3, s4, s5, s6⟩ := S
  refine ⟨fun j hj => ?_, fun j hj => ?_, ?_, ?_, ?_, ?_⟩
  · unfold va_up; split
    · rfl
    · exact s1 j hj
  · unfold va_up; rw [if_neg (by omega)]; exact s2 j hj
  · unfold va_up; rw [if_neg (by omega)]; exact s3
  · unfold va_up; rw [if_neg (by omega)]; exact s4
  · unfold va_up; rw [if_neg (by omega)]; exact s5
  · unfold va_up; rw [if_neg (by omega)]; exact s6
theorem SR_on {f l m x : XX} (S : SR f l m x) (v : Int32) : SR (va_up f 2 v) l m (va_up x 12 v) := by
  obtain ⟨s1, s2, s3, s4, s5, s6⟩ := S
  refine ⟨fun j hj => ?_, fun j hj => ?_, rfl, s4, s5, s6⟩
  · unfold va_up; rw [if_neg (by omega)]; exact s1 j hj
  · unfold va_up; rw [if_neg (by omega)]; exact s2 j hj
theorem SR_hour {f l m x : XX} (S : SR f l m x) (v : Int32) : SR (va_up f 4 v) l m (va_up x 14 v) := by
  obtain ⟨s1, s2, s3, s4, s5, s6⟩ := S
  refine ⟨fun j hj => ?_, fun j hj => ?_, s3, s4, rfl, s6⟩
  · unfold va_up; rw [if_neg (by omega)]; exact s1 j hj
  · unfold va_up; rw [if_neg (by omega)]; exact s2 j hj
theorem SR_lost {f l m x : XX} (S : SR f l m x) (v : Int32) : SR (va_up f 5 v) l m (va_up x 15 v) := by
  obtain ⟨s1, s2, s3, s4, s5, s6⟩ := S
  refine ⟨fun j hj => ?_, fun j hj => ?_, s3, s4, s5, rfl⟩
  · unfold va_up; rw [if_neg (by omega)]; exact s1 j hj
  · unfold va_up; rw [if_neg (by omega)]; exact s2 j hj
theorem SR_mark {f l m x : XX} (S : SR f l m x) {i : Nat} (hi : i < 6) (v : Int32) : SR f l (va_up m i v) (va_up x (6 + i) v) := by
  obtain ⟨s1, s2, s3, s4, s5, s6⟩ := S
  refine ⟨fun j hj => ?_, fun j hj => ?_, ?_, ?_, ?_, ?_⟩
  · unfold va_up; rw [if_neg (by omega)]; exact s1 j hj
  · unfold va_up
    by_cases e : j = i
    · rw [if_pos e, if_pos (by omega)]
    · rw [if_neg e, if_neg (by omega)]; exact s2 j hj
  · unfold va_up; rw [if_neg (by omega)]; exact s3
  · unfold va_up; rw [if_neg (by omega)]; exact s4
  · unfold va_up; rw [if_neg (by omega)]; exact s5
  · unfold va_up; rw [if_neg (by omega)]; exact s6
theorem SR_stuck {f l m x : XX} (S : SR f l m x) (v : Int32) : SR (va_up f 3 v) l m (va_up x 13 v) := by
  obtain ⟨s1, s2, s3, s4, s5, s6⟩ := S
  refine ⟨fun j hj => ?_, fun j hj => ?_, s3, rfl, s5, s6⟩
  · unfold va_up; rw [if_neg (by omega)]; exact s1 j hj
  · unfold va_up; rw [if_neg (by omega)]; exact s2 j hj
theorem sh_k (k j : Nat) : sh k k j = true ∧ sh k (k + 1) j = true ∧ sh k (k + 2) j = true := by simp [sh]
set_option maxHeartbeats 1000000 in
theorem pstep_eq (hk : k = 22 ∨ k = 28) (w : Wf h) (C : CN N h) (V : NV N) (R : RuleC h r sem) {s : Nat} (hs : s < N_s N) (T : TC h k z) :
    ∃ h', lb_X0_pass_2 3 k r (nI s, h) = some (.inl (nI (s + 1), h')) ∧ Fr (sh k) h h' ∧ TC h' k (stp N sem s z) := by
  obtain ⟨f1, f2, f3, f4⟩ := V.2.2.2 s hs
  have h6 := V.1
  have h8 := V.2.1
  obtain ⟨S, tg, td, tt⟩ := T
  have mk6 : (SH[k]?).map Prod.fst = some 6 := by rcases hk with rfl | rfl <;> rfl
  have c1 : nI s < nI (N_s N) := nI_lt hs (by omega)
  have kn : ∀ {a : Nat}, a < 20 → a ≠ k ∧ a ≠ k + 1 ∧ a ≠ k + 2 := fun ha => by omega
  unfold lb_X0_pass_2
  simp only [w_gI w 3 0 1 rfl, C.2.1, Option.bind_some, if_pos c1, w_gI w k 6 3 mk6, S.2.2.2.1, k_3 w, nI_1]
  by_cases st : isBit (z.1 13) s = true
  · have : ¬ ((z.1 13 >>> (nI s &&& 31)) &&& 1) = 0 := by
      unfold isBit at st
      simpa using st
    rw [if_neg this]
    refine ⟨h, rfl, Fr.refl _ _, ?_⟩
    unfold stp
    rw [if_pos st]
    exact ⟨S, tg, td, tt⟩
  · have : ((z.1 13 >>> (nI s &&& 31)) &&& 1) = 0 := by
      unfold isBit at st
      simpa using st
    rw [if_pos this, opens_eq hk w C V hs S, Option.bind_some]
    dsimp only
    obtain ⟨h1, e1⟩ : ∃ h1, h1 = sI h k 2 (onOf N z.1 s) := ⟨_, rfl⟩
    have w1 : Wf h1 := by rw [e1]; exact w
    have F1 : Fr (sh k) h h1 := by rw [e1]; exact (Fr.refl _ _).sI _ (sh_k k 2).1
    have S1 : St h1 k (va_up z.1 12 (onOf N z.1 s)) := by
      unfold St
      rw [e1, hI_sI_r, hI_sI_r, hI_sI_r, if_pos rfl, if_neg (by omega), if_neg (by omega)]
      exact SR_on S _
    rw [← e1]
    by_cases op : opn N z.1 s = true
    · rw [op]
      have n1 : ¬ b2 true = 0 := by decide
      rw [if_neg n1, k_3 w1, Option.bind_some]
      obtain ⟨t, f, g, ef⟩ := flow_eq hk w1 (C.to hk F1) V hs S1 (R.to hk F1)
      have efl : flw N sem (va_up z.1 12 (onOf N z.1 s)) s = flw N sem z.1 s := flw_on sem _ (by omega) (by omega)
      rw [efl] at ef
      rw [ef, Option.bind_some]
      dsimp only
      obtain ⟨h2, e2⟩ : ∃ h2, h2 = rI (rI (rI h1 8 t) 16 f) 19 g := ⟨_, rfl⟩
      rw [← e2]
      have w2 : Wf h2 := by rw [e2]; exact w1
      have F2 : Fr (sh k) h h2 := by rw [e2]; exact ((F1.rI t (fun _ => rfl)).rI f (fun _ => rfl)).rI g (fun _ => rfl)
      have row2 : ∀ a, a ≠ 8 → a ≠ 16 → a ≠ 19 → hI h2 a = hI h1 a := fun a q1 q2 q3 => by
        rw [e2, hI_rI, if_neg q3, hI_rI, if_neg q2, hI_rI, if_neg q1]
      have gk0 : ∀ {h : aH}, Wf h → gR h k 6 0 = some (k + 1) := fun w => gk0_eq hk w
      have e14 : SH[k + 1]? = some (14, 6) := by rcases hk with rfl | rfl <;> rfl
      have C2 := C.to hk F2
      obtain ⟨c4, c5, c6⟩ := C2.2.2.2 s hs
      have a4 : aI h2 4 14 (nI s) = some (nI (N_f N s)) := by rw [aI_eq w2 4 14 8 rfl s (by omega) (by decide), c4]
      have lv2 : ∀ i, i < 6 → hI h2 (k + 1) i = z.1 i := fun i hi => by
        rw [row2 _ (by omega) (by omega) (by omega), S1.1 i hi]
        unfold va_up; rw [if_neg (by omega)]
      have l1 : aI h2 (k + 1) 14 (nI (N_f N s)) = some (z.1 (N_f N s)) := by rw [aI_eq w2 (k + 1) 14 6 e14 (N_f N s) (by omega) (by decide), lv2 _ (by omega)]
      obtain ⟨h3, e3⟩ : ∃ h3, h3 = sI h2 (k + 1) (N_f N s) (z.1 (N_f N s) - flw N sem z.1 s) := ⟨_, rfl⟩
      have w3 : Wf h3 := by rw [e3]; exact w2
      have a5 : aI h3 5 14 (nI s) = some (nI (N_t N s)) := by rw [aI_eq w3 5 14 8 rfl s (by omega) (by decide), e3, hI_sI_r, if_neg (by omega), c5]
      have l2 : aI h3 (k + 1) 14 (nI (N_t N s)) = some (z.1 (N_t N s)) := by
        rw [aI_eq w3 (k + 1) 14 6 e14 (N_t N s) (by omega) (by decide), e3, hI_sI, if_neg (fun q => f3 q.2.symm), lv2 _ (by omega)]
      obtain ⟨h4, e4⟩ : ∃ h4, h4 = sI h3 (k + 1) (N_t N s) (z.1 (N_t N s) + flw N sem z.1 s) := ⟨_, rfl⟩
      have w4 : Wf h4 := by rw [e4]; exact w3
      have a7 : aI h4 7 14 (nI s) = some (z.2.2.2 s) := by
        rw [aI_eq w4 7 14 8 rfl s (by omega) (by decide), e4, hI_sI_r, if_neg (by omega), e3, hI_sI_r, if_neg (by omega), row2 7 (by decide) (by decide) (by decide), e1, hI_sI_r, if_neg (by omega), tt s (by omega)]
      obtain ⟨h5, e5⟩ : ∃ h5, h5 = sI h4 7 s (z.2.2.2 s + flw N sem z.1 s) := ⟨_, rfl⟩
      have w5 : Wf h5 := by rw [e5]; exact w4
      have a8 : hI h5 3 8 = z.2.1 := by
        rw [e5, hI_sI_r, if_neg (by decide), e4, hI_sI_r, if_neg (by omega), e3, hI_sI_r, if_neg (by omega), row2 3 (by decide) (by decide) (by decide), e1, hI_sI_r, if_neg (by omega), tg]
      refine ⟨sI h5 3 8 (z.2.1 + flw N sem z.1 s), ?_, ?_, ?_⟩
      · simp only [gk0 w2, g_3_3 w2, a4, l1, Option.bind_some, wI_eq w2 (k + 1) 6 e14 (N_f N s) (by omega) (by decide), ← e3, gk0 w3, g_3_4 w3, a5, l2, wI_eq w3 (k + 1) 6 e14 (N_t N s) (by omega) (by decide), ← e4, g_3_7 w4, a7, wI_eq w4 7 8 rfl s (by omega) (by decide), ← e5, w_gI w5 3 0 8 rfl, a8, w_pI w5 3 0 8 _ rfl]
      · have F3 : Fr (sh k) h h3 := by rw [e3]; exact F2.sI _ (sh_k k _).2.1
        have F4 : Fr (sh k) h h4 := by rw [e4]; exact F3.sI _ (sh_k k _).2.1
        have F5 : Fr (sh k) h h5 := by rw [e5]; exact F4.sI _ rfl
        exact F5.sI _ rfl
      · have rw5 : ∀ a, a ≠ 3 → a ≠ 7 → a ≠ k + 1 → a ≠ 8 → a ≠ 16 → a ≠ 19 → hI (sI h5 3 8 (z.2.1 + flw N sem z.1 s)) a = hI h1 a := fun a q1 q2 q3 q4 q5 q6 => by
          rw [hI_sI_r, if_neg q1, e5, hI_sI_r, if_neg q2, e4, hI_sI_r, if_neg q3, e3, hI_sI_r, if_neg q3, row2 a q4 q5 q6]
        unfold stp
        rw [if_neg st, if_pos op]
        refine ⟨?_, ?_, ?_, ?_⟩
        · unfold St
          have ek1 : hI (sI h5 3 8 (z.2.1 + flw N sem z.1 s)) (k + 1) = va_up (va_up (hI h1 (k + 1)) (N_f N s) (z.1 (N_f N s) - flw N sem z.1 s)) (N_t N s) (z.1 (N_t N s) + flw N sem z.1 s) := by
            rw [hI_sI_r, if_neg (by omega), e5, hI_sI_r, if_neg (by omega), e4, hI_sI_r, if_pos rfl, e3, hI_sI_r, if_pos rfl, row2 (k + 1) (by omega) (by omega) (by omega)]
          rw [rw5 k (by omega) (by omega) (by omega) (by omega) (by omega) (by omega), rw5 (k + 2) (by omega) (by omega) (by omega) (by omega) (by omega) (by omega), ek1]
          exact mul_upd_lv (mul_upd_lv S1 (by omega) _) (by omega) _
        · rw [hI_sI]; simp
        · show hI (sI h5 3 8 (z.2.1 + flw N sem z.1 s)) 3 9 = z.2.2.1
          rw [hI_sI, if_neg (by decide), e5, hI_sI_r, if_neg (by decide), e4, hI_sI_r, if_neg (by omega), e3, hI_sI_r, if_neg (by omega), row2 3 (by decide) (by decide) (by decide), e1, hI_sI_r, if_neg (by omega), td]
        · intro i hi
          show hI (sI h5 3 8 (z.2.1 + flw N sem z.1 s)) 7 i = va_up z.2.2.2 s (z.2.2.2 s + flw N sem z.1 s) i
          rw [hI_sI_r, if_neg (by decide), e5, hI_sI_r, if_pos rfl]
          unfold va_up
          split
          · rfl
          · rw [e4, hI_sI_r, if_neg (by omega), e3, hI_sI_r, if_neg (by omega), row2 7 (by decide) (by decide) (by decide), e1, hI_sI_r, if_neg (by omega), tt i hi]
    · have op' : opn N z.1 s = false := by simpa using op
      rw [op']
      rw [if_pos (show b2 false = 0 from rfl)]
      refine ⟨h1, rfl, F1, ?_⟩
      unfold stp
      rw [if_neg st, if_neg op]
      refine ⟨S1, ?_, ?_, fun i hi => ?_⟩
      · rw [e1, hI_sI_r, if_neg (by omega)]; exact tg
      · rw [e1, hI_sI_r, if_neg (by omega)]; exact td
      · rw [e1, hI_sI_r, if_neg (by omega)]; exact tt i hi
theorem leaks_eq (w : Wf h) (C : CN N h) {b : Nat} (hb : b < 31) : fn_X0_leaks h 3 (nI b) = some (b2 (isBit (nI (N_l N)) b)) := by
  unfold fn_X0_leaks isBit b2
  simp only [w_gI w 3 0 2 rfl, C.2.2.1, Option.bind_some]
  by_cases c : ((nI (N_l N) >>> (nI b &&& 31)) &&& 1) = 0 <;> simp [c]
theorem lstep_eq (hk : k = 22 ∨ k = 28) (w : Wf h) (C : CN N h) (V : NV N) {B b : Nat} (hb : b < N_b N) (v : VS N B z.1) (T : TC h k z) :
    ∃ h', lb_X0_leak_2 3 k (nI b, h) = some (.inl (nI (b + 1), h')) ∧ Fr (sh k) h h' ∧ TC h' k (lkp N b z) := by
  have h6 := V.1
  obtain ⟨S, tg, td, tt⟩ := T
  have mk6 : (SH[k]?).map Prod.fst = some 6 := by rcases hk with rfl | rfl <;> rfl
  have gk0 : ∀ {h : aH}, Wf h → gR h k 6 0 = some (k + 1) := fun w => gk0_eq hk w
  have e14 : SH[k + 1]? = some (14, 6) := by rcases hk with rfl | rfl <;> rfl
  have c1 : nI b < nI (N_b N) := nI_lt hb (by omega)
  unfold lb_X0_leak_2 lkp
  simp only [w_gI w 3 0 0 rfl, C.1, Option.bind_some, if_pos c1, k_3 w, leaks_eq w C (show b < 31 by omega), nI_1]
  by_cases l : isBit (nI (N_l N)) b = true
  · rw [l, if_neg (show ¬ b2 true = 0 by decide), if_pos rfl]
    have l1 : aI h (k + 1) 14 (nI b) = some (z.1 b) := by rw [aI_eq w (k + 1) 14 6 e14 b (by omega) (by decide), S.1 b (by omega)]
    simp only [gk0 w, l1, Option.bind_some]
    obtain ⟨a, ha, ea, -⟩ := v.1 b (by omega)
    have iff0 : z.1 b ≤ 0 ↔ z.1 b = 0 := by
      rw [ea]
      constructor
      · intro q
        have : a ≤ 0 := (nI_leI (b := 0) (by omega) (by decide)).mp q
        have : a = 0 := by omega
        rw [this]; rfl
      · intro q; rw [q]; decide
    by_cases c : z.1 b = 0
    · rw [if_pos (iff0.mpr c), if_pos c]
      exact ⟨h, rfl, Fr.refl _ _, S, tg, td, tt⟩
    · rw [if_neg (fun q => c (iff0.mp q)), if_neg c]
      obtain ⟨h1, e1⟩ : ∃ h1, h1 = sI h (k + 1) b (z.1 b - 1) := ⟨_, rfl⟩
      have w1 : Wf h1 := by rw [e1]; exact w
      obtain ⟨h2, e2⟩ : ∃ h2, h2 = sI h1 k 5 (mn 9999 (z.1 15 + 1)) := ⟨_, rfl⟩
      have w2 : Wf h2 := by rw [e2]; exact w1
      have g5 : hI h1 k 5 = z.1 15 := by rw [e1, hI_sI_r, if_neg (by omega)]; exact S.2.2.2.2.2
      have g9 : hI h2 3 9 = z.2.2.1 := by rw [e2, hI_sI_r, if_neg (by omega), e1, hI_sI_r, if_neg (by omega)]; exact td
      refine ⟨sI h2 3 9 (z.2.2.1 + 1), ?_, ?_, ?_⟩
      · simp only [wI_eq w (k + 1) 6 e14 b (by omega) (by decide), ← e1, Option.bind_some, w_gI w1 k 6 5 mk6, g5, w_pI w1 k 6 5 _ mk6, ← e2, w_gI w2 3 0 9 rfl, g9, w_pI w2 3 0 9 _ rfl]
      · have F1 : Fr (sh k) h h1 := by rw [e1]; exact (Fr.refl _ _).sI _ (sh_k k _).2.1
        have F2 : Fr (sh k) h h2 := by rw [e2]; exact F1.sI _ (sh_k k _).1
        exact F2.sI _ rfl
      · refine ⟨?_, ?_, ?_, fun i hi => ?_⟩
        · unfold St
          rw [hI_sI_r, if_neg (by omega), hI_sI_r, if_neg (by omega), hI_sI_r, if_neg (by omega), e2, hI_sI_r, if_pos rfl, hI_sI_r, if_neg (by omega), hI_sI_r, if_neg (by omega), e1, hI_sI_r, if_neg (by omega), hI_sI_r, if_pos rfl, hI_sI_r, if_neg (by omega)]
          exact SR_lost (mul_upd_lv S (by omega) _) _
        · show hI (sI h2 3 9 _) 3 8 = z.2.1
          rw [hI_sI, if_neg (by decide), e2, hI_sI_r, if_neg (by omega), e1, hI_sI_r, if_neg (by omega)]; exact tg
        · rw [hI_sI]; simp
        · show hI (sI h2 3 9 _) 7 i = z.2.2.2 i
          rw [hI_sI_r, if_neg (by decide), e2, hI_sI_r, if_neg (by omega), e1, hI_sI_r, if_neg (by omega)]; exact tt i hi
  · have l' : isBit (nI (N_l N)) b = false := by simpa using l
    rw [l', if_pos (show b2 false = 0 from rfl), if_neg (by decide)]
    exact ⟨h, rfl, Fr.refl _ _, S, tg, td, tt⟩
/-- an hour of the class -/
theorem pass_eq (hk : k = 22 ∨ k = 28) (w : Wf h) (C : CN N h) (V : NV N) (R : RuleC h r sem) {B : Nat} (v : VS N B z.1) (T : TC h k z) :
    ∃ h', fn_X0_pass h 3 k r = some h' ∧ Fr (sh k) h h' ∧ TC h' k (hrZ N sem z) := by
  have h6 := V.1
  have h8 := V.2.1
  have mk6 : (SH[k]?).map Prod.fst = some 6 := by rcases hk with rfl | rfl <;> rfl
  obtain ⟨h1, l1, F1, T1⟩ : ∃ h1, lp (lb_X0_pass_2 3 k r) lpN (0, h) = some h1 ∧ Fr (sh k) h h1 ∧ TC h1 k (swp N sem (N_s N) z) := by
    refine lp_inv (fun s q => q.1 = nI s ∧ Fr (sh k) h q.2 ∧ TC q.2 k (swp N sem s z)) (fun h1 => Fr (sh k) h h1 ∧ TC h1 k (swp N sem (N_s N) z)) (N_s N) (by omega) ?_ ?_ ⟨rfl, Fr.refl _ _, T⟩
    · rintro s ⟨i, g⟩ hs ⟨rfl, F, T⟩
      obtain ⟨g', e, F', T'⟩ := pstep_eq hk (F.wf w) (C.to hk F) V (R.to hk F) hs T
      exact Or.inl ⟨_, e, rfl, F.trans F', T'⟩
    · rintro ⟨i, g⟩ ⟨rfl, F, T⟩
      refine ⟨g, ?_, F, T⟩
      unfold lb_X0_pass_2
      simp only [w_gI (F.wf w) 3 0 1 rfl, (C.to hk F).2.1, Option.bind_some]
      rw [if_neg (nI_nlt (Nat.le_refl _) (by omega))]
  have vs := swp_VS V sem v (N_s N) (Nat.le_refl _)
  obtain ⟨h2, l2, F2, T2⟩ : ∃ h2, lp (lb_X0_leak_2 3 k) lpN (0, h1) = some h2 ∧ Fr (sh k) h h2 ∧ TC h2 k (lks N (N_b N) (swp N sem (N_s N) z)) := by
    refine lp_inv (fun s q => q.1 = nI s ∧ Fr (sh k) h q.2 ∧ TC q.2 k (lks N s (swp N sem (N_s N) z))) (fun h1 => Fr (sh k) h h1 ∧ TC h1 k (lks N (N_b N) (swp N sem (N_s N) z))) (N_b N) (by omega) ?_ ?_ ⟨rfl, F1, T1⟩
    · rintro s ⟨i, g⟩ hs ⟨rfl, F, T⟩
      obtain ⟨g', e, F', T'⟩ := lstep_eq hk (F.wf w) (C.to hk F) V hs (lks_VS V vs s (by omega)) T
      exact Or.inl ⟨_, e, rfl, F.trans F', T'⟩
    · rintro ⟨i, g⟩ ⟨rfl, F, T⟩
      refine ⟨g, ?_, F, T⟩
      unfold lb_X0_leak_2
      simp only [w_gI (F.wf w) 3 0 0 rfl, (C.to hk F).1, Option.bind_some]
      rw [if_neg (nI_nlt (Nat.le_refl _) (by omega))]
  have w1 := F1.wf w
  have w2 := F2.wf w
  obtain ⟨S, tg, td, tt⟩ := T2
  refine ⟨sI h2 k 4 ((lks N (N_b N) (swp N sem (N_s N) z)).1 14 + 1), ?_, F2.sI _ (sh_k k _).1, ?_, ?_, ?_, fun i hi => ?_⟩
  · unfold fn_X0_pass fn_X0_leak
    simp only [l1, Option.bind_some, k_3 w1, l2, w_gI w2 k 6 4 mk6, S.2.2.2.2.1, w_pI w2 k 6 4 _ mk6]
  · unfold St
    rw [hI_sI_r, if_pos rfl, hI_sI_r, if_neg (by omega), hI_sI_r, if_neg (by omega)]
    exact SR_hour S _
  · rw [hI_sI_r, if_neg (by omega)]; exact tg
  · rw [hI_sI_r, if_neg (by omega)]; exact td
  · rw [hI_sI_r, if_neg (by omega)]; exact tt i hi
theorem run_eq (hk : k = 22 ∨ k = 28) (w : Wf h) (C : CN N h) (V : NV N) (R : RuleC h r sem) {B : Nat} (v : VS N B z.1) (T : TC h k z) {n : Nat} (hn : n < 2000) :
    ∃ h', fn_X0_run h 3 k r (nI n) = some h' ∧ Fr (sh k) h h' ∧ TC h' k (hrs N sem n z) := by
  obtain ⟨h1, l1, F1, T1⟩ : ∃ h1, lp (lb_X0_run_3 3 k r (nI n)) lpN (0, h) = some h1 ∧ Fr (sh k) h h1 ∧ TC h1 k (hrs N sem n z) := by
    refine lp_inv (fun s q => q.1 = nI s ∧ Fr (sh k) h q.2 ∧ TC q.2 k (hrs N sem s z)) (fun h1 => Fr (sh k) h h1 ∧ TC h1 k (hrs N sem n z)) n hn ?_ ?_ ⟨rfl, Fr.refl _ _, T⟩
    · rintro s ⟨i, g⟩ hs ⟨rfl, F, T⟩
      obtain ⟨g', e, F', T'⟩ := pass_eq hk (F.wf w) (C.to hk F) V (R.to hk F) (hrs_VS V sem v s) T
      refine Or.inl ⟨(nI (s + 1), g'), ?_, rfl, F.trans F', T'⟩
      unfold lb_X0_run_3
      simp only [if_pos (nI_lt hs (show n < 2 ^ 31 by omega)), k_3 (F.wf w), Option.bind_some, e, nI_1]
    · rintro ⟨i, g⟩ ⟨rfl, F, T⟩
      refine ⟨g, ?_, F, T⟩
      unfold lb_X0_run_3
      simp only [if_neg (nI_nlt (Nat.le_refl n) (show n < 2 ^ 31 by omega))]
  exact ⟨h1, by unfold fn_X0_run; rw [l1]; rfl, F1, T1⟩
end PassC2
